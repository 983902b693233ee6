/-! start, step, finish -/
section
variable {r W m : Nat} {ops xs as bs sc ce dn : Nat → Int32}
theorem zy_st27 {post : Int32 → SY → Prop} {fR : Int32} (h : ∀ dn', (∀ w, w < 4 → dn' w = 0) → post 1 (nI r, nI W, nI m, fR, ops, xs, as, bs, sc, ce, dn')) :
    ∀ d w dn', w + d = 4 → (∀ u, u < w → dn' u = 0) → wY_start_27 post (nI r) (nI W) (nI m) fR (d + 1) (nI w) ops xs as bs sc ce dn' := by
  intro d
  induction d with
  | zero =>
    intro w dn' hw h1
    have e : w = 4 := by omega
    subst e
    exact br_t (nI_le (a := 4) (b := 4) (Nat.le_refl _) (by omega)) (h dn' h1)
  | succ d ih =>
    intro w dn' hw h1
    have hw4 : w < 4 := by omega
    obtain ⟨i4, e4⟩ := zx_i4 hw4
    refine br_f (nI_ge (b := 4) hw4 (by omega)) ⟨i4, ?_⟩
    rw [e4]
    refine nm_e (nm_r (nI_1 w) (ih (w + 1) _ (by omega) (fun u hu => ?_)))
    by_cases e : u = w
    · rw [e, pk_us]
    · rw [pk_un e]; exact h1 u (by omega)
end
section
variable {k r W m : Nat} {fL : Int32} {ops xs as bs sc ce rc own it pl lf dn : Nat → Int32}
theorem zq_go {pb : Bool} (hB : zq_B r W m ops xs as bs) (hm0 : 0 < m) (hpb : pb = true ↔ zq_par ops xs as bs m r)
    (hc : ∀ k, k < 16 → rc k = ce k) (ho : ∀ w, w < W → ∀ x, x < 4 → own (w * 4 + x) = sc x) (hs : ∀ w, w < W → zq_shr pb r W m w it pl lf) (hd : ∀ w, w < 4 → dn w = 0) :
    zq_On r W m (nI (if pb = true then W - 1 else 0)) ops xs as bs sc ce rc own it pl lf dn := by
  obtain ⟨hr0, hr, hW0, hW, hm, hok⟩ := hB
  refine ⟨pb, fun w => zq_fr pb r W w * m, hpb, rfl, ⟨zq_run_init ops xs as bs hm0 hW0 hok hpb.mp ho hc, fun w hw ht => ?_⟩, fun w hw => ?_⟩
  · obtain ⟨_, h2, h3⟩ := hs w hw
    have ht2 : zq_fr pb r W w * m < zq_fr pb r W (w + 1) * m := ht
    show pl w = nI (zq_fr pb r W w * m % m) ∧ it w = nI (zq_fr pb r W w * m / m)
    rw [Nat.mul_mod_left, Nat.mul_div_cancel _ hm0]
    exact ⟨h2, h3 (Nat.lt_of_mul_lt_mul_right ht2)⟩
  · obtain ⟨h1, _, _⟩ := hs w hw
    show dn w = nI (zq_fr pb r W w * m - zq_fr pb r W w * m) ∧ lf w = nI (zq_fr pb r W (w + 1) * m - zq_fr pb r W w * m)
    rw [Nat.sub_self, h1, Nat.sub_mul, hd w (by omega)]
    exact ⟨rfl, rfl⟩
end

theorem i_vc_start {k : Nat} {u : SX} {v : SY} (I : i_Rel k u v) (hk : k + 5 ≤ 2562) : wpX_start (fun r u' => wpY_start (fun r' v' => r' = r ∧ i_Rel (k + 5) u' v') v) u := by
  have I0 := I
  obtain ⟨r, W, m, fR, fL, ops, xs, as, bs, sc, ce, rc, own, it, pl, lf, dn, rfl, rfl, hB, hR⟩ := I
  have hB' := hB
  obtain ⟨hr0, hr, hW0, hW, hm, hok⟩ := hB'
  rcases hR with e | ⟨e, hm0, hO⟩
  · subst e
    refine br_t rfl (pk_le m 0 (fun h0 => ?_) (fun h0 => ?_) rfl rfl (by omega) (by omega))
    · have hz : m = 0 := by omega
      subst hz
      exact br_t rfl (br_t (by decide) ⟨5, zy_st27 (fun dn' _ => ⟨rfl, zq_R0 hB⟩) 4 0 dn (by omega) (fun u hu => by omega)⟩)
    · have hnz : ¬ nI m ≤ 0 := nI_nle h0 (by omega)
      have fin : ∀ pb : Bool, (pb = true ↔ zq_par ops xs as bs m r) → ∀ rc' own' it' pl' lf', (∀ k, k < 16 → rc' k = ce k) → (∀ w, w < W → ∀ x, x < 4 → own' (w * 4 + x) = sc x) → (∀ w, w < W → zq_shr pb r W m w it' pl' lf') →
          wpY_start (fun r' v' => r' = 1 ∧ i_Rel (k + 5) (nI r, nI W, nI m, 1, nI (if pb = true then W - 1 else 0), ops, xs, as, bs, sc, ce, rc', own', it', pl', lf') v') (nI r, nI W, nI m, 0, ops, xs, as, bs, sc, ce, dn) := by
        intro pb hpb rc' own' it' pl' lf' h1 h2 h3
        exact br_t rfl (br_f hnz ⟨5, zy_st27 (fun dn' hd => ⟨rfl, zq_R1 hB h0 (zq_go hB h0 hpb h1 h2 h3 hd)⟩) 4 0 dn (by omega) (fun u hu => by omega)⟩)
      refine zx_par hr hm hok (fun hp => zx_copy hW (fun rc' own' h1 h2 => ?_)) (fun hp => zx_copy hW (fun rc' own' h1 h2 => ?_))
      · exact zx_share (pb := true) hr hW0 hW (fun it' pl' lf' h3 => fin true ⟨fun _ => hp, fun _ => rfl⟩ rc' own' it' pl' lf' h1 h2 h3)
      · exact zx_share (pb := false) hr hW0 hW (fun it' pl' lf' h3 => fin false ⟨(fun z => nomatch z), fun z => absurd z hp⟩ rc' own' it' pl' lf' h1 h2 h3)
  · subst e
    exact br_f (by decide) (br_f (by decide) ⟨rfl, I0⟩)

section
variable {k r W m : Nat} {ops xs as bs sc ce rc own it pl lf dn : Nat → Int32}
/-- both sides let worker w carry out c statements -/
theorem zq_step {pb : Bool} {t : Nat → Nat} {w c : Nat} (hB : zq_B r W m ops xs as bs) (hm0 : 0 < m) (hpb : pb = true ↔ zq_par ops xs as bs m r) (hX : zq_XR ops xs as bs m r W pb sc ce t own rc it pl)
    (hD : ∀ w, w < W → dn w = nI (t w - zq_fr pb r W w * m) ∧ lf w = nI (zq_fr pb r W (w + 1) * m - t w)) (hw : w < W) (hc : t w + c ≤ zq_fr pb r W (w + 1) * m)
    {QX : SX → Prop} (hQ : ∀ u : SX, wY_step_34 (fun r' v' => r' = nI c ∧ i_Rel (k + 5) u v') (nI w) (nI c) (nI r) (nI W) (nI m) 1 ops xs as bs sc ce dn → QX u) :
    wpX_carryOut (fun u => wpX_nothingLeft (fun b => (b = 0 → QX u) ∧ (¬ b = 0 → wpX_endRun QX u)) u) (nI r, nI W, nI m, 1, nI (if pb = true then W - 1 else 0), ops, xs, as, bs, sc, ce, rc, own, it, pl, lf) (nI w) (nI c) := by
  have hB' := hB
  obtain ⟨hr0, hr, hW0, hW, hm, hok⟩ := hB'
  have hc31 : c < 2 ^ 31 := by
    have := zq_hi (pb := pb) (r := r) (m := m) hW0 hr hm hw
    omega
  obtain ⟨hdw, hlw⟩ := hD w hw
  obtain ⟨⟨hlow, hhiw⟩, _⟩ := hX.1 w hw
  refine zx_co hm0 hm hr hW0 hW hok hpb.mp hw hc31 hc hX (fun t' own' rc' it' pl' hX' ht1 ht2 => ?_)
  have hL : ∀ u, u < W → upd lf w (lf w - nI c) u = nI (zq_fr pb r W (u + 1) * m - t' u) := by
    intro u hu
    by_cases e : u = w
    · subst e
      rw [pk_us, hlw, pk_sub (by omega), ht1]
      exact congrArg nI (by omega)
    · rw [pk_un e, ht2 u e]
      exact (hD u hu).2
  have hDn : ∀ u, u < W → upd dn w (dn w + nI c) u = nI (t' u - zq_fr pb r W u * m) := by
    intro u hu
    by_cases e : u = w
    · subst e
      rw [pk_us, hdw, nI_add, ht1]
      exact congrArg nI (by omega)
    · rw [pk_un e, ht2 u e]
      exact (hD u hu).1
  have hb : ∀ u, u < W → zq_fr pb r W u * m ≤ t' u ∧ t' u ≤ zq_fr pb r W (u + 1) * m := fun u hu => (hX'.1 u hu).1
  have hY : ∀ u, u < W → nI ((zq_fr pb r W (u + 1) - zq_fr pb r W u) * m) - (upd dn w (dn w + nI c)) u = nI (zq_fr pb r W (u + 1) * m - t' u) ∧ zq_fr pb r W (u + 1) * m - t' u ≤ 48 := by
    intro u hu
    have := zq_hi (pb := pb) (r := r) (m := m) hW0 hr hm hu
    exact ⟨zq_lft (hb u hu).1 (hb u hu).2 (hDn u hu), by omega⟩
  refine zx_nol (L := fun u => zq_fr pb r W (u + 1) * m - t' u) hW (fun u hu => ⟨hL u hu, ?_⟩) (fun hz => zx_1 ?_) (fun hz => zx_0 ?_)
  · have := (hY u hu).2
    show zq_fr pb r W (u + 1) * m - t' u < 2 ^ 31
    omega
  · have hend : ∀ u, u < W → t' u = zq_fr pb r W (u + 1) * m := by
      intro u hu
      have h1 : zq_fr pb r W (u + 1) * m - t' u = 0 := hz u hu
      have := hb u hu
      omega
    refine zx_end hm0 hm hr0 hW0 hW hok hpb.mp hX'.1 hend (hQ _ ?_)
    exact zy_st34 hr hW0 hW hm0 hm hok hpb hw hY (fun _ => ⟨rfl, zq_R0 hB⟩) (fun z => absurd hz z)
  · refine hQ _ ?_
    exact zy_st34 hr hW0 hW hm0 hm hok hpb hw hY (fun z => absurd z hz) (fun _ => ⟨rfl, zq_R1 hB hm0 ⟨pb, t', hpb, rfl, hX', fun u hu => ⟨hDn u hu, hL u hu⟩⟩⟩)
end

theorem i_vc_step {k : Nat} {u : SX} {v : SY} (I : i_Rel k u v) (hk : k + 5 ≤ 2562) (v1 : Int32) (v2 : Int32) : wpX_step (fun r u' => wpY_step (fun r' v' => r' = r ∧ i_Rel (k + 5) u' v') v v1 v2) u v1 v2 := by
  have I0 := I
  obtain ⟨r, W, m, fR, fL, ops, xs, as, bs, sc, ce, rc, own, it, pl, lf, dn, rfl, rfl, hB, hR⟩ := I
  have hB' := hB
  obtain ⟨hr0, hr, hW0, hW, hm, hok⟩ := hB'
  rcases hR with e | ⟨e, hm0, hO⟩
  · subst e
    refine br_t rfl ?_
    unfold wpY_step
    exact zy_wkn (zx_0 ⟨rfl, I0⟩)
  · subst e
    refine br_f (by decide) ?_
    have ot : (v1 < 0 ∨ nI W ≤ v1) ∨ ∃ j, j < W ∧ v1 = nI j := by
      rcases pk_ix v1 (n := W) (by omega) with h | h | h
      · exact Or.inl (Or.inl h)
      · exact Or.inl (Or.inr h)
      · exact Or.inr h
    rcases ot with h1 | ⟨w, hw, rfl⟩
    · refine br_c (fun _ => zx_0 ?_) (fun n => br_t (h1.resolve_left n) (zx_0 ?_))
      · unfold wpY_step
        exact zy_wk0 h1 (zx_0 ⟨rfl, I0⟩)
      · unfold wpY_step
        exact zy_wk0 h1 (zx_0 ⟨rfl, I0⟩)
    · obtain ⟨i4, e4⟩ := zx_i4 (p := w) (by omega)
      obtain ⟨pb, t, hpb, rfl, hX, hD⟩ := hO
      obtain ⟨hd, hl⟩ := hD w hw
      obtain ⟨⟨hlo, hhi⟩, _⟩ := hX.1 w hw
      have h48 := zq_hi (pb := pb) (r := r) (m := m) hW0 hr hm hw
      -- the reference, from its own branch on
      have yy : ∀ {post : Int32 → SY → Prop}, ((0 ≤ v2 → (v2 ≤ nI (zq_fr pb r W (w + 1) * m - t w) → wY_step_34 post (nI w) v2 (nI r) (nI W) (nI m) 1 ops xs as bs sc ce dn) ∧ (¬ v2 ≤ nI (zq_fr pb r W (w + 1) * m - t w) → wY_step_34 post (nI w) (nI (zq_fr pb r W (w + 1) * m - t w)) (nI r) (nI W) (nI m) 1 ops xs as bs sc ce dn)) ∧ (¬ 0 ≤ v2 → wY_step_34 post (nI w) 0 (nI r) (nI W) (nI m) 1 ops xs as bs sc ce dn)) → wpY_step post (nI r, nI W, nI m, 1, ops, xs, as, bs, sc, ce, dn) (nI w) v2 := by
        intro post hh
        unfold wpY_step
        refine zy_wk1 hW hw (zx_1 (zy_left hr hW0 hW hm hok hpb hw ?_))
        rw [zq_lft hlo hhi hd]
        exact hh
      refine br_f (nI_pos (by omega)) (br_f (nI_ge hw (by omega)) (zx_1 ⟨i4, ?_⟩))
      rw [e4, hl]
      refine br_c (fun h0 => br_c (fun h1 => ?_) (fun h1 => ?_)) (fun h0 => ?_)
      · obtain ⟨c, hc, rfl⟩ := nI_of (Int32.not_lt.mpr h0)
        have hcl : c ≤ zq_fr pb r W (w + 1) * m - t w := (nI_leI hc (by omega)).mp h1
        exact zq_step hB hm0 hpb hX hD hw (by omega) (fun u hu => yy (br_t h0 (br_t h1 hu)))
      · exact zq_step hB hm0 hpb hX hD hw (by omega) (fun u hu => yy (br_t h0 (br_f h1 hu)))
      · exact zq_step (c := 0) hB hm0 hpb hX hD hw (by omega) (fun u hu => yy (br_f h0 hu))

section
variable {k r W m : Nat} {ops xs as bs sc ce rc own it pl lf dn : Nat → Int32}
theorem zx_fin_lp {post : Int32 → SX → Prop} {pb : Bool} (hr0 : 0 < r) (hr : r ≤ 8) (hW0 : 0 < W) (hW : W ≤ 4) (hm0 : 0 < m) (hm : m ≤ 6) (hok : ∀ p, p < m → zq_ok ops xs as bs r p) (hpb : pb = true → zq_par ops xs as bs m r)
    (h : ∀ own' rc' it' pl' lf', post 1 (nI r, nI W, nI m, 0, nI (if pb = true then W - 1 else 0), ops, xs, as, bs, (zq_sq ops xs as bs m sc ce (r * m)).1, (zq_sq ops xs as bs m sc ce (r * m)).2, rc', own', it', pl', lf')) :
    ∀ d w t own' rc' it' pl' lf', w + d = W → zq_XR ops xs as bs m r W pb sc ce t own' rc' it' pl' → (∀ u, u < w → t u = zq_fr pb r W (u + 1) * m) → (∀ u, u < W → w ≤ u → lf' u = nI (zq_fr pb r W (u + 1) * m - t u)) →
      wX_finish_11 post (d + 1) (nI w) (nI r) (nI W) (nI m) 1 (nI (if pb = true then W - 1 else 0)) ops xs as bs sc ce rc' own' it' pl' lf' := by
  intro d
  induction d with
  | zero =>
    intro w t own' rc' it' pl' lf' hw hX h1 h2
    have e : w = W := by omega
    subst e
    exact br_t (nI_le (Nat.le_refl _) (by omega)) (zx_end hm0 hm hr0 hW0 hW hok hpb hX.1 h1 (h own' rc' it' pl' lf'))
  | succ d ih =>
    intro w t own' rc' it' pl' lf' hw hX h1 h2
    have hwW : w < W := by omega
    obtain ⟨i4, e4⟩ := zx_i4 (p := w) (by omega)
    have hhi := (hX.1 w hwW).1
    have h48 := zq_hi (pb := pb) (r := r) (m := m) hW0 hr hm hwW
    refine br_f (nI_ge hwW (by omega)) ⟨i4, ?_⟩
    rw [e4, h2 w hwW (Nat.le_refl w)]
    refine zx_co hm0 hm hr hW0 hW hok hpb hwW (by omega) (by omega) hX (fun t' own2 rc2 it2 pl2 hX2 ht1 ht2 => ?_)
    refine nm_r (nI_1 w) (ih (w + 1) t' own2 rc2 it2 pl2 _ (by omega) hX2 (fun u hu => ?_) (fun u hu hwu => ?_))
    · by_cases e : u = w
      · rw [e, ht1]; omega
      · rw [ht2 u e]; exact h1 u (by omega)
    · rw [pk_un (by omega), ht2 u (by omega)]
      exact h2 u hu (by omega)
end

theorem i_vc_finish {k : Nat} {u : SX} {v : SY} (I : i_Rel k u v) (hk : k + 5 ≤ 2562) : wpX_finish (fun r u' => wpY_finish (fun r' v' => r' = r ∧ i_Rel (k + 5) u' v') v) u := by
  have I0 := I
  obtain ⟨r, W, m, fR, fL, ops, xs, as, bs, sc, ce, rc, own, it, pl, lf, dn, rfl, rfl, hB, hR⟩ := I
  have hB' := hB
  obtain ⟨hr0, hr, hW0, hW, hm, hok⟩ := hB'
  rcases hR with e | ⟨e, hm0, hO⟩
  · subst e
    exact br_t rfl (br_t rfl ⟨rfl, I0⟩)
  · subst e
    obtain ⟨pb, t, hpb, rfl, hX, hD⟩ := hO
    refine br_f (by decide) ⟨W + 1, zx_fin_lp hr0 hr hW0 hW hm0 hm hok hpb.mp (fun own' rc' it' pl' lf' => ?_) W 0 t own rc it pl lf (by omega) hX (fun u hu => by omega) (fun u hu _ => (hD u hu).2)⟩
    exact zy_fin hm0 hm hr hok ⟨rfl, zq_R0 hB⟩
