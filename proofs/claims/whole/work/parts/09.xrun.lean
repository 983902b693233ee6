/-! the component's run -/
theorem zq_ix (w x : Nat) : nI w * 4 + nI x = nI (w * 4 + x) := by
  rw [show (4 : Int32) = nI 4 from rfl, pk_mul, nI_add]
theorem zq_dm1 {m t : Nat} (hm : 0 < m) (h : t % m + 1 = m) : (t + 1) % m = 0 ∧ (t + 1) / m = t / m + 1 := by
  have e := Nat.div_add_mod t m
  have e2 : t + 1 = m * (t / m + 1) := by rw [Nat.mul_add, Nat.mul_one]; omega
  constructor
  · rw [e2]; exact Nat.mul_mod_right m _
  · rw [e2, Nat.mul_div_cancel_left _ hm]
theorem zq_dm2 {m t : Nat} (hm : 0 < m) (h : t % m + 1 < m) : (t + 1) % m = t % m + 1 ∧ (t + 1) / m = t / m := by
  have e := Nat.div_add_mod t m
  have e2 : t + 1 = m * (t / m) + (t % m + 1) := by omega
  constructor
  · have := Nat.mul_add_mod m (t / m) (t % m + 1)
    rw [← e2, Nat.mod_eq_of_lt h] at this
    exact this
  · have := Nat.mul_add_div hm (t / m) (t % m + 1)
    rw [← e2, Nat.div_eq_of_lt h] at this
    omega
theorem zq_updv {own : Nat → Int32} {w X x : Nat} {v : Int32} : upd own (w * 4 + X) v (w * 4 + x) = upd (fun x => own (w * 4 + x)) X v x := by
  unfold upd
  by_cases h : x = X
  · rw [if_pos (by omega), if_pos h]
  · rw [if_neg (by omega), if_neg h]
theorem zq_updo {own : Nat → Int32} {w X u x : Nat} {v : Int32} (hu : u ≠ w) (hX : X < 4) (hx : x < 4) : upd own (w * 4 + X) v (u * 4 + x) = own (u * 4 + x) := by
  unfold upd
  rw [if_neg (by omega)]
theorem zx_les {post : Int32 → Prop} {u v : Int32} (h : post (zq_min u v)) : wpX_lesser post u v := by
  unfold zq_min at h
  refine br_c (fun h1 => ?_) (fun h1 => ?_)
  · rw [if_neg (Int32.not_lt.mpr h1)] at h; exact h
  · rw [if_pos (Int32.not_le.mp h1)] at h; exact h

section
variable {r W m : Nat} {fR fL : Int32} {ops xs as bs sc ce rc own it pl lf : Nat → Int32}

theorem zx_copy38 {post : SX → Prop} {J : Int32 → (Nat → Int32) → (Nat → Int32) → (Nat → Int32) → (Nat → Int32) → (Nat → Int32) → (Nat → Int32) → (Nat → Int32) → (Nat → Int32) → (Nat → Int32) → (Nat → Int32) → (Nat → Int32) → Prop} {w : Nat} (hw : w < 4)
    (hJ : ∀ own', (∀ w', w' ≤ w → ∀ x, x < 4 → own' (w' * 4 + x) = sc x) → J (nI (w + 1)) ops xs as bs sc ce rc own' it pl lf) :
    ∀ d x own', x + d = 4 → (∀ w', w' < w → ∀ x, x < 4 → own' (w' * 4 + x) = sc x) → (∀ x', x' < x → own' (w * 4 + x') = sc x') →
      wX_copyState_38 post J (nI w) (nI r) (nI W) (nI m) fR fL (d + 1) (nI x) ops xs as bs sc ce rc own' it pl lf := by
  intro d
  induction d with
  | zero =>
    intro x own' hx h1 h2
    have e : x = 4 := by omega
    subst e
    refine br_t (nI_le (a := 4) (b := 4) (Nat.le_refl _) (by omega)) (nm_r (nI_1 w) (hJ own' (fun w' hw' x hx => ?_)))
    by_cases e : w' = w
    · rw [e]; exact h2 x hx
    · exact h1 w' (by omega) x hx
  | succ d ih =>
    intro x own' hx h1 h2
    have hx4 : x < 4 := by omega
    obtain ⟨i4, e4⟩ := zx_i4 hx4
    obtain ⟨i16, e16⟩ := zx_i16 (p := w * 4 + x) (by omega)
    refine br_f (nI_ge (b := 4) hx4 (by omega)) ⟨i4, ?_⟩
    rw [zq_ix]
    refine ⟨i16, ?_⟩
    rw [e16, e4]
    refine nm_e (nm_r (nI_1 x) (ih (x + 1) _ (by omega) (fun w' hw' x'' hx'' => ?_) (fun x' hx' => ?_)))
    · rw [pk_un (by omega)]; exact h1 w' hw' x'' hx''
    · by_cases e : x' = x
      · rw [e, pk_us]
      · rw [pk_un (by omega)]; exact h2 x' (by omega)
theorem zx_copy28 {post : SX → Prop} (hW : W ≤ 4) (h : ∀ own', (∀ w, w < W → ∀ x, x < 4 → own' (w * 4 + x) = sc x) → post (nI r, nI W, nI m, fR, fL, ops, xs, as, bs, sc, ce, rc, own', it, pl, lf)) :
    ∀ d w own', w + d = W → (∀ w', w' < w → ∀ x, x < 4 → own' (w' * 4 + x) = sc x) → wX_copyState_28 post (nI r) (nI W) (nI m) fR fL (d + 1) (nI w) ops xs as bs sc ce rc own' it pl lf := by
  intro d
  induction d with
  | zero =>
    intro w own' hw h1
    have e : w = W := by omega
    subst e
    exact br_t (nI_le (Nat.le_refl _) (by omega)) (h own' h1)
  | succ d ih =>
    intro w own' hw h1
    have hwW : w < W := by omega
    refine br_f (nI_ge hwW (by omega)) ⟨5, zx_copy38 (by omega) (fun own2 h2 => ih (w + 1) own2 (by omega) (fun w' hw' => h2 w' (by omega))) 4 0 own' (by omega) h1 (fun x' hx' => by omega)⟩
theorem zx_copy2 {post : SX → Prop} (hW : W ≤ 4) (h : ∀ rc' own', (∀ k, k < 16 → rc' k = ce k) → (∀ w, w < W → ∀ x, x < 4 → own' (w * 4 + x) = sc x) → post (nI r, nI W, nI m, fR, fL, ops, xs, as, bs, sc, ce, rc', own', it, pl, lf)) :
    ∀ d k rc', k + d = 16 → (∀ k', k' < k → rc' k' = ce k') → wX_copyState_2 post (nI r) (nI W) (nI m) fR fL (d + 1) (nI k) ops xs as bs sc ce rc' own it pl lf := by
  intro d
  induction d with
  | zero =>
    intro k rc' hk h1
    have e : k = 16 := by omega
    subst e
    exact br_t (nI_le (a := 16) (b := 16) (Nat.le_refl _) (by omega)) ⟨W + 1, zx_copy28 hW (fun own' h2 => h rc' own' h1 h2) W 0 own (by omega) (fun w' hw' => by omega)⟩
  | succ d ih =>
    intro k rc' hk h1
    have hk16 : k < 16 := by omega
    obtain ⟨i16, e16⟩ := zx_i16 hk16
    refine br_f (nI_ge (b := 16) hk16 (by omega)) ⟨i16, i16, ?_⟩
    rw [e16]
    refine nm_e (nm_r (nI_1 k) (ih (k + 1) _ (by omega) (fun k' hk' => ?_)))
    by_cases e : k' = k
    · rw [e, pk_us]
    · rw [pk_un e]; exact h1 k' (by omega)
theorem zx_copy {post : SX → Prop} (hW : W ≤ 4) (h : ∀ rc' own', (∀ k, k < 16 → rc' k = ce k) → (∀ w, w < W → ∀ x, x < 4 → own' (w * 4 + x) = sc x) → post (nI r, nI W, nI m, fR, fL, ops, xs, as, bs, sc, ce, rc', own', it, pl, lf)) : wpX_copyState post (nI r, nI W, nI m, fR, fL, ops, xs, as, bs, sc, ce, rc, own, it, pl, lf) :=
  ⟨17, zx_copy2 hW h 16 0 rc (by omega) (fun k' hk' => by omega)⟩

theorem zx_s69 {post : SX → Prop} {J : Int32 → (Nat → Int32) → (Nat → Int32) → (Nat → Int32) → (Nat → Int32) → (Nat → Int32) → (Nat → Int32) → (Nat → Int32) → (Nat → Int32) → (Nat → Int32) → (Nat → Int32) → (Nat → Int32) → Prop} {w a b : Nat} {x1 : Int32} (hw : w < 4) (hab : a ≤ b)
    (h : J (nI (w + 1)) ops xs as bs sc ce rc own (upd it w (nI a)) (upd pl w 0) (upd lf w (nI ((b - a) * m)))) : wX_shareOut_69 post J x1 (nI w) (nI a) (nI b) 0 (nI r) (nI W) (nI m) fR fL ops xs as bs sc ce rc own it pl lf := by
  obtain ⟨i4, e4⟩ := zx_i4 hw
  unfold wX_shareOut_69
  rw [e4, pk_sub hab, pk_mul]
  exact ⟨i4, nm_e ⟨i4, nm_e (br_t rfl ⟨i4, nm_e (nm_r (nI_1 w) h)⟩)⟩⟩
theorem zx_s69i {post : SX → Prop} {J : Int32 → (Nat → Int32) → (Nat → Int32) → (Nat → Int32) → (Nat → Int32) → (Nat → Int32) → (Nat → Int32) → (Nat → Int32) → (Nat → Int32) → (Nat → Int32) → (Nat → Int32) → (Nat → Int32) → Prop} {w : Nat} {x1 x3 x4 : Int32} (hw : w < 4)
    (h : J (nI (w + 1)) ops xs as bs sc ce rc own (upd it w x3) (upd pl w 0) (upd lf w 0)) : wX_shareOut_69 post J x1 (nI w) x3 x4 1 (nI r) (nI W) (nI m) fR fL ops xs as bs sc ce rc own it pl lf := by
  obtain ⟨i4, e4⟩ := zx_i4 hw
  unfold wX_shareOut_69
  rw [e4]
  exact ⟨i4, nm_e ⟨i4, nm_e (br_f (by decide) ⟨i4, nm_e (nm_r (nI_1 w) h)⟩)⟩⟩

def zq_shr (pb : Bool) (r W m w : Nat) (it pl lf : Nat → Int32) : Prop := lf w = nI ((zq_fr pb r W (w + 1) - zq_fr pb r W w) * m) ∧ pl w = 0 ∧ (zq_fr pb r W w < zq_fr pb r W (w + 1) → it w = nI (zq_fr pb r W w))
theorem zq_shr_k {pb : Bool} {w u : Nat} {a b c : Int32} (hu : u ≠ w) (h : zq_shr pb r W m u it pl lf) : zq_shr pb r W m u (upd it w a) (upd pl w b) (upd lf w c) := by
  unfold zq_shr
  rw [pk_un hu, pk_un hu, pk_un hu]
  exact h
theorem zx_share_lp {post : SX → Prop} {pb : Bool} (hr : r ≤ 8) (hW0 : 0 < W) (hW : W ≤ 4) (h : ∀ it' pl' lf', (∀ w, w < W → zq_shr pb r W m w it' pl' lf') → post (nI r, nI W, nI m, fR, nI (if pb = true then W - 1 else 0), ops, xs, as, bs, sc, ce, rc, own, it', pl', lf')) :
    ∀ d w it' pl' lf', w + d = W → (∀ u, u < w → zq_shr pb r W m u it' pl' lf') → wX_shareOut_2 post (if pb = true then 1 else 0) (nI r) (nI W) (nI m) fR fL (d + 1) (nI w) ops xs as bs sc ce rc own it' pl' lf' := by
  have hW1 : ¬ nI W = 0 := nI_ne0 hW0 (by omega)
  intro d
  induction d with
  | zero =>
    intro w it' pl' lf' hw h1
    have e : w = W := by omega
    subst e
    refine br_t (nI_le (Nat.le_refl _) (by omega)) ?_
    have h2 := h it' pl' lf' h1
    by_cases hb : pb = true
    · rw [if_pos hb] at h2
      rw [if_pos hb]
      refine br_f (by decide) (nm_r ?_ h2)
      rw [show (1 : Int32) = nI 1 from rfl, pk_sub hW0]
    · rw [if_neg hb] at h2
      rw [if_neg hb]
      exact br_t rfl h2
  | succ d ih =>
    intro w it' pl' lf' hw h1
    have hwW : w < W := by omega
    have hw4 : w < 4 := by omega
    refine br_f (nI_ge hwW (by omega)) ?_
    have hlt : (w + 1) * r ≤ 32 := Nat.le_trans (Nat.mul_le_mul (show w + 1 ≤ 4 by omega) hr) (by omega)
    have hlt0 : w * r ≤ (w + 1) * r := Nat.mul_le_mul_right r (by omega)
    by_cases hb : pb = true
    · have f0 : zq_fr pb r W w = w * r / W := by unfold zq_fr; rw [if_pos hb]
      have f1 : zq_fr pb r W (w + 1) = (w + 1) * r / W := by unfold zq_fr; rw [if_pos hb]
      have ihw := ih (w + 1) (upd it' w (nI (w * r / W))) (upd pl' w 0) (upd lf' w (nI (((w + 1) * r / W - w * r / W) * m))) (by omega) (fun u hu => by
        by_cases e : u = w
        · subst e
          unfold zq_shr
          rw [pk_us, pk_us, pk_us, f0, f1]
          exact ⟨rfl, rfl, fun _ => rfl⟩
        · exact zq_shr_k e (h1 u (by omega)))
      rw [if_pos hb] at ihw
      rw [if_pos hb]
      refine br_f (by decide) ⟨hW1, ?_⟩
      rw [pk_mul, pk_div (by omega) hW0 (by omega)]
      refine br_f (by decide) ⟨hW1, ?_⟩
      rw [nI_1, pk_mul, pk_div (by omega) hW0 (by omega)]
      exact br_f (by decide) (zx_s69 hw4 (Nat.div_le_div_right hlt0) ihw)
    · by_cases h0 : w = 0
      · have f0 : zq_fr pb r W w = 0 := by rw [h0]; exact zq_fr_0
        have f1 : zq_fr pb r W (w + 1) = r := by unfold zq_fr; rw [if_neg hb, if_neg (by omega)]
        have ihw := ih (w + 1) (upd it' w (nI 0)) (upd pl' w 0) (upd lf' w (nI ((r - 0) * m))) (by omega) (fun u hu => by
          by_cases e : u = w
          · subst e
            unfold zq_shr
            rw [pk_us, pk_us, pk_us, f0, f1]
            exact ⟨rfl, rfl, fun _ => rfl⟩
          · exact zq_shr_k e (h1 u (by omega)))
        rw [if_neg hb] at ihw
        rw [if_neg hb]
        refine br_t rfl (br_t rfl (br_t rfl (br_t (nI_le (b := 0) (by omega) (by omega)) ?_)))
        exact zx_s69 (a := 0) hw4 (Nat.zero_le r) ihw
      · have f0 : zq_fr pb r W w = r := by unfold zq_fr; rw [if_neg hb, if_neg h0]
        have f1 : zq_fr pb r W (w + 1) = r := by unfold zq_fr; rw [if_neg hb, if_neg (by omega)]
        have ihw := ih (w + 1) (upd it' w 0) (upd pl' w 0) (upd lf' w 0) (by omega) (fun u hu => by
          by_cases e : u = w
          · subst e
            unfold zq_shr
            rw [pk_us, pk_us, pk_us, f0, f1, Nat.sub_self, Nat.zero_mul]
            exact ⟨rfl, rfl, fun z => by omega⟩
          · exact zq_shr_k e (h1 u (by omega)))
        rw [if_neg hb] at ihw
        rw [if_neg hb]
        refine br_t rfl (br_t rfl (br_t rfl (br_f (nI_ge (b := w) (a := 0) (by omega) (by omega)) ?_)))
        exact zx_s69i hw4 ihw
theorem zx_share {post : SX → Prop} {pb : Bool} (hr : r ≤ 8) (hW0 : 0 < W) (hW : W ≤ 4) (h : ∀ it' pl' lf', (∀ w, w < W → zq_shr pb r W m w it' pl' lf') → post (nI r, nI W, nI m, fR, nI (if pb = true then W - 1 else 0), ops, xs, as, bs, sc, ce, rc, own, it', pl', lf')) : wpX_shareOut post (nI r, nI W, nI m, fR, fL, ops, xs, as, bs, sc, ce, rc, own, it, pl, lf) (if pb = true then 1 else 0) :=
  ⟨W + 1, zx_share_lp hr hW0 hW h W 0 it pl lf (by omega) (fun u hu => by omega)⟩
end
