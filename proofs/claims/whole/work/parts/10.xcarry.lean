/-! the component carries out, and brings together -/
section
variable {r W m : Nat} {fR fL : Int32} {ops xs as bs sc ce rc own it pl lf : Nat → Int32}

theorem zx_cos {post : SX → Prop} {w p i : Nat} (hw : w < 4) (hp : p < 6) (hi : i < r) (hok : zq_ok ops xs as bs r p)
    (h : ∀ own' rc', (∀ x, x < 4 → own' (w * 4 + x) = (zq_stp ops xs as bs p i (fun x => own (w * 4 + x)) rc).1 x) → (∀ u x, u ≠ w → x < 4 → own' (u * 4 + x) = own (u * 4 + x)) →
      rc' = (zq_stp ops xs as bs p i (fun x => own (w * 4 + x)) rc).2 → post (nI r, nI W, nI m, fR, fL, ops, xs, as, bs, sc, ce, rc', own', it, pl, lf)) : wpX_carryOutStatement post (nI r, nI W, nI m, fR, fL, ops, xs, as, bs, sc, ce, rc, own, it, pl, lf) (nI w) (nI p) (nI i) := by
  obtain ⟨i6, e6⟩ := zx_i6 hp
  have hops := zq_ok_ops ops xs as bs hok
  obtain ⟨_, ⟨X, hX, ex⟩, _, hA⟩ := id hok
  have cl : (xs p).toNatClampNeg = X := by rw [ex]; exact nI_clamp (by omega)
  obtain ⟨j16, f16⟩ := zx_i16 (p := w * 4 + X) (by omega)
  have e1 : nI w * 4 = nI (w * 4) := by rw [show (4 : Int32) = nI 4 from rfl, pk_mul]
  -- a new value of the scalar X
  have kS : ∀ v, (∀ x, x < 4 → (zq_stp ops xs as bs p i (fun x => own (w * 4 + x)) rc).1 x = upd (fun x => own (w * 4 + x)) X v x) → (zq_stp ops xs as bs p i (fun x => own (w * 4 + x)) rc).2 = rc → post (nI r, nI W, nI m, fR, fL, ops, xs, as, bs, sc, ce, rc, upd own (w * 4 + X) v, it, pl, lf) := by
    intro v h1 h2
    refine h (upd own (w * 4 + X) v) rc (fun x hx => ?_) (fun u x hu hx => zq_updo hu hX hx) h2.symm
    rw [h1 x hx]
    exact zq_updv
  unfold wpX_carryOutStatement
  refine nm_r e1 ⟨i6, ?_⟩
  rw [e6]
  refine nm_r (e' := nI (w * 4 + X)) (by rw [ex, nI_add]) ⟨i6, ?_⟩
  rw [f16]
  rcases hops with e | e | e | e | e | e
  · refine nm_r e (br_f (by decide) (br_f (by decide) (br_t rfl ⟨i6, j16, nm_e (kS _ (fun x hx => ?_) ?_)⟩)))
    · rw [zq_s0 ops xs as bs e, cl]
    · rw [zq_s0 ops xs as bs e]
  · obtain ⟨hc, ec⟩ := zq_ce_lt ops xs as bs hok (Or.inl e) hi
    obtain ⟨k16, g16⟩ := zx_i16 hc
    refine nm_r e (br_f (by decide) (br_f (by decide) (br_f (by decide) (br_t rfl (zx_ceo hp ?_)))))
    rw [ec, g16]
    refine ⟨k16, j16, nm_e (kS _ (fun x hx => ?_) ?_)⟩
    · rw [zq_s1 ops xs as bs e, cl]
    · rw [zq_s1 ops xs as bs e]
  · obtain ⟨hc, ec⟩ := zq_ce_lt ops xs as bs hok (Or.inr e) hi
    obtain ⟨k16, g16⟩ := zx_i16 hc
    refine nm_r e (br_f (by decide) (br_f (by decide) (br_f (by decide) (br_f (by decide) (br_t rfl (zx_ceo hp ?_))))))
    rw [ec, g16]
    refine ⟨j16, k16, nm_e (h own _ (fun x hx => ?_) (fun _ _ _ _ => rfl) ?_)⟩
    · rw [zq_s2 ops xs as bs e]
    · rw [zq_s2 ops xs as bs e, cl]
  · obtain ⟨a, ha, ea⟩ := hA (Or.inl e)
    have cla : (as p).toNatClampNeg = a := by rw [ea]; exact nI_clamp (by omega)
    obtain ⟨k16, g16⟩ := zx_i16 (p := w * 4 + a) (by omega)
    refine nm_r e (br_f (by decide) (br_f (by decide) (br_f (by decide) (br_f (by decide) (br_f (by decide) (br_t rfl ⟨j16, i6, ?_⟩))))))
    rw [ea, nI_add, g16]
    refine ⟨k16, j16, nm_e (kS _ (fun x hx => ?_) ?_)⟩
    · rw [zq_s3 ops xs as bs e, cl, cla]
    · rw [zq_s3 ops xs as bs e]
  · obtain ⟨a, ha, ea⟩ := hA (Or.inr e)
    have cla : (as p).toNatClampNeg = a := by rw [ea]; exact nI_clamp (by omega)
    obtain ⟨k16, g16⟩ := zx_i16 (p := w * 4 + a) (by omega)
    refine nm_r e (br_f (by decide) (br_f (by decide) (br_f (by decide) (br_f (by decide) (br_f (by decide) (br_f (by decide) (br_t rfl ⟨j16, i6, ?_⟩)))))))
    rw [ea, nI_add, g16]
    refine ⟨k16, zx_les ⟨j16, nm_e (kS _ (fun x hx => ?_) ?_)⟩⟩
    · rw [zq_s4 ops xs as bs e, cl, cla]
    · rw [zq_s4 ops xs as bs e]
  · refine nm_r e (br_f (by decide) (br_t (by decide) ⟨j16, j16, nm_e (kS _ (fun x hx => ?_) ?_)⟩))
    · rw [zq_s5 ops xs as bs e, cl]
    · rw [zq_s5 ops xs as bs e]

/-- the run, with each worker's place -/
def zq_XR (ops xs as bs : Nat → Int32) (m r W : Nat) (pb : Bool) (s0 c0 : Nat → Int32) (t : Nat → Nat) (own rc it pl : Nat → Int32) : Prop :=
  zq_Run ops xs as bs m r W pb s0 c0 t own rc ∧ ∀ w, w < W → t w < zq_fr pb r W (w + 1) * m → pl w = nI (t w % m) ∧ it w = nI (t w / m)

theorem zx_co_lp {post : SX → Prop} {w c T : Nat} {pb : Bool} {s0 c0 : Nat → Int32} {t0 : Nat → Nat} (hm0 : 0 < m) (hm : m ≤ 6) (hr : r ≤ 8) (hW0 : 0 < W) (hW : W ≤ 4) (hok : ∀ p, p < m → zq_ok ops xs as bs r p) (hpb : pb = true → zq_par ops xs as bs m r)
    (hw : w < W) (hc : c < 2 ^ 31) (hT : T ≤ zq_fr pb r W (w + 1) * m)
    (h : ∀ t' own' rc' it' pl', zq_XR ops xs as bs m r W pb s0 c0 t' own' rc' it' pl' → t' w = T → (∀ u, u ≠ w → t' u = t0 u) → post (nI r, nI W, nI m, fR, fL, ops, xs, as, bs, sc, ce, rc', own', it', pl', upd lf w (lf w - nI c))) :
    ∀ d k t own' rc' it' pl', k + d = c → t w + d = T → (∀ u, u ≠ w → t u = t0 u) → zq_XR ops xs as bs m r W pb s0 c0 t own' rc' it' pl' →
      wX_carryOut_2 post (nI w) (nI c) (d + 1) (nI k) (nI r) (nI W) (nI m) fR fL ops xs as bs sc ce rc' own' it' pl' lf := by
  obtain ⟨i4, e4⟩ := zx_i4 (p := w) (by omega)
  intro d
  induction d with
  | zero =>
    intro k t own' rc' it' pl' hk ht hu R
    have e : k = c := by omega
    subst e
    refine br_t (nI_le (Nat.le_refl _) hc) ⟨i4, i4, ?_⟩
    rw [e4]
    exact nm_e (h t own' rc' it' pl' R (by omega) hu)
  | succ d ih =>
    intro k t own' rc' it' pl' hk ht hu R
    have htw : t w < zq_fr pb r W (w + 1) * m := by omega
    obtain ⟨hpl, hit⟩ := R.2 w hw htw
    have hp := Nat.mod_lt (t w) hm0
    have hle : zq_fr pb r W (w + 1) * m ≤ r * m := Nat.mul_le_mul_right m (zq_fr_le hW0 (by omega))
    have hi : t w / m < r := (Nat.div_lt_iff_lt_mul hm0).mpr (by omega)
    refine br_f (nI_ge (by omega) hc) ⟨i4, i4, ?_⟩
    rw [e4, hpl, hit]
    refine zx_cos (by omega) (by omega) hi (hok _ hp) (fun own2 rc2 h1 h2 h3 => ?_)
    have R2 := zq_run_step (rc' := rc2) ops xs as bs hm0 hW0 hok hpb R.1 hw htw h1 h2 (fun k _ => by rw [h3])
    have hne : ∀ u, u ≠ w → (fun u => if u = w then t w + 1 else t u) u = t0 u := by
      intro u hu2
      show (if u = w then t w + 1 else t u) = t0 u
      rw [if_neg hu2]; exact hu u hu2
    have hw1 : (fun u => if u = w then t w + 1 else t u) w + d = T := by
      show (if w = w then t w + 1 else t w) + d = T
      rw [if_pos rfl]; omega
    refine ⟨i4, i4, nm_r (e' := upd pl' w (nI (t w % m + 1))) (by rw [hpl, nI_1]) ⟨i4, ?_⟩⟩
    rw [pk_us]
    refine pk_eq (t w % m + 1) m (fun he => ?_) (fun he => ?_) rfl rfl (by omega) (by omega)
    · obtain ⟨d1, d2⟩ := zq_dm1 hm0 he
      refine ⟨i4, nm_e ⟨i4, i4, nm_r (e' := upd it' w (nI (t w / m + 1))) (by rw [hit, nI_1]) (nm_r (nI_1 k) (ih (k + 1) _ own2 rc2 _ _ (by omega) hw1 hne ⟨R2, fun u hu2 htu => ?_⟩))⟩⟩
      by_cases hx : u = w
      · subst hx
        rw [pk_us, pk_us]
        show 0 = nI ((if u = u then t u + 1 else t u) % m) ∧ nI (t u / m + 1) = nI ((if u = u then t u + 1 else t u) / m)
        rw [if_pos rfl, d1, d2]
        exact ⟨rfl, rfl⟩
      · rw [pk_un hx, pk_un hx, pk_un hx]
        have htu' : t u < zq_fr pb r W (u + 1) * m := by
          have : (if u = w then t w + 1 else t u) < zq_fr pb r W (u + 1) * m := htu
          rw [if_neg hx] at this; exact this
        show pl' u = nI ((if u = w then t w + 1 else t u) % m) ∧ it' u = nI ((if u = w then t w + 1 else t u) / m)
        rw [if_neg hx]
        exact R.2 u hu2 htu'
    · obtain ⟨d1, d2⟩ := zq_dm2 (m := m) (t := t w) hm0 (by omega)
      refine nm_r (nI_1 k) (ih (k + 1) _ own2 rc2 it' _ (by omega) hw1 hne ⟨R2, fun u hu2 htu => ?_⟩)
      by_cases hx : u = w
      · subst hx
        rw [pk_us]
        show nI (t u % m + 1) = nI ((if u = u then t u + 1 else t u) % m) ∧ it' u = nI ((if u = u then t u + 1 else t u) / m)
        rw [if_pos rfl, d1, d2]
        exact ⟨rfl, hit⟩
      · rw [pk_un hx]
        have htu' : t u < zq_fr pb r W (u + 1) * m := by
          have : (if u = w then t w + 1 else t u) < zq_fr pb r W (u + 1) * m := htu
          rw [if_neg hx] at this; exact this
        show pl' u = nI ((if u = w then t w + 1 else t u) % m) ∧ it' u = nI ((if u = w then t w + 1 else t u) / m)
        rw [if_neg hx]
        exact R.2 u hu2 htu'
theorem zx_co {post : SX → Prop} {w c : Nat} {pb : Bool} {s0 c0 : Nat → Int32} {t : Nat → Nat} (hm0 : 0 < m) (hm : m ≤ 6) (hr : r ≤ 8) (hW0 : 0 < W) (hW : W ≤ 4) (hok : ∀ p, p < m → zq_ok ops xs as bs r p) (hpb : pb = true → zq_par ops xs as bs m r)
    (hw : w < W) (hc : c < 2 ^ 31) (hT : t w + c ≤ zq_fr pb r W (w + 1) * m) (R : zq_XR ops xs as bs m r W pb s0 c0 t own rc it pl)
    (h : ∀ t' own' rc' it' pl', zq_XR ops xs as bs m r W pb s0 c0 t' own' rc' it' pl' → t' w = t w + c → (∀ u, u ≠ w → t' u = t u) → post (nI r, nI W, nI m, fR, fL, ops, xs, as, bs, sc, ce, rc', own', it', pl', upd lf w (lf w - nI c))) :
    wpX_carryOut post (nI r, nI W, nI m, fR, fL, ops, xs, as, bs, sc, ce, rc, own, it, pl, lf) (nI w) (nI c) :=
  ⟨c + 1, zx_co_lp hm0 hm hr hW0 hW hok hpb hw hc hT h c 0 t own rc it pl (by omega) rfl (fun _ _ => rfl) R⟩

theorem zx_nol_lp {post : Int32 → Prop} {L : Nat → Nat} (hW : W ≤ 4) (hL : ∀ w, w < W → lf w = nI (L w) ∧ L w < 2 ^ 31) (h1 : (∀ w, w < W → L w = 0) → post 1) (h0 : (¬ ∀ w, w < W → L w = 0) → post 0) :
    ∀ d w, w + d = W → (∀ u, u < w → L u = 0) → wX_nothingLeft_2 post (nI r) (nI W) (nI m) fR fL ops xs as bs sc ce rc own it pl lf (d + 1) (nI w) := by
  intro d
  induction d with
  | zero =>
    intro w hw hn
    have e : w = W := by omega
    subst e
    exact br_t (nI_le (Nat.le_refl _) (by omega)) (h1 hn)
  | succ d ih =>
    intro w hw hn
    have hwW : w < W := by omega
    obtain ⟨i4, e4⟩ := zx_i4 (p := w) (by omega)
    obtain ⟨a, b⟩ := hL w hwW
    refine br_f (nI_ge hwW (by omega)) ⟨i4, ?_⟩
    rw [e4, a]
    refine pk_le (L w) 0 (fun h => nm_r (nI_1 w) (ih (w + 1) (by omega) (fun u hu => ?_))) (fun h => h0 (fun z => ?_)) rfl rfl b (by omega)
    · by_cases e : u = w
      · rw [e]; omega
      · exact hn u (by omega)
    · have := z w hwW; omega
theorem zx_nol {post : Int32 → Prop} {L : Nat → Nat} (hW : W ≤ 4) (hL : ∀ w, w < W → lf w = nI (L w) ∧ L w < 2 ^ 31) (h1 : (∀ w, w < W → L w = 0) → post 1) (h0 : (¬ ∀ w, w < W → L w = 0) → post 0) : wpX_nothingLeft post (nI r, nI W, nI m, fR, fL, ops, xs, as, bs, sc, ce, rc, own, it, pl, lf) :=
  ⟨W + 1, zx_nol_lp hW hL h1 h0 W 0 (by omega) (fun u hu => by omega)⟩
end
