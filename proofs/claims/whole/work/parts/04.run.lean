/-! shares, and the run of all workers against the plain loop -/
def zq_fr (pb : Bool) (r W w : Nat) : Nat := if pb = true then w * r / W else if w = 0 then 0 else r
theorem zq_fr_0 {pb : Bool} {r W : Nat} : zq_fr pb r W 0 = 0 := by
  unfold zq_fr
  by_cases h : pb = true
  · rw [if_pos h, Nat.zero_mul, Nat.zero_div]
  · rw [if_neg h, if_pos rfl]
theorem zq_fr_W {pb : Bool} {r W : Nat} (hW : 0 < W) : zq_fr pb r W W = r := by
  unfold zq_fr
  by_cases h : pb = true
  · rw [if_pos h, Nat.mul_div_cancel_left r hW]
  · rw [if_neg h, if_neg (by omega)]
theorem zq_fr_mono {pb : Bool} {r W u w : Nat} (h : u ≤ w) : zq_fr pb r W u ≤ zq_fr pb r W w := by
  unfold zq_fr
  by_cases hb : pb = true
  · rw [if_pos hb, if_pos hb]
    exact Nat.div_le_div_right (Nat.mul_le_mul_right r h)
  · rw [if_neg hb, if_neg hb]
    by_cases h0 : u = 0
    · rw [if_pos h0]; exact Nat.zero_le _
    · rw [if_neg h0, if_neg (by omega)]; exact Nat.le_refl r
theorem zq_fr_le {pb : Bool} {r W w : Nat} (hW : 0 < W) (h : w ≤ W) : zq_fr pb r W w ≤ r := by
  have := zq_fr_mono (pb := pb) (r := r) (W := W) h
  rw [zq_fr_W hW] at this
  exact this
theorem zq_fr_last {r W : Nat} (hr : 0 < r) (hW : 0 < W) : zq_fr true r W (W - 1) < r := by
  unfold zq_fr
  rw [if_pos rfl, Nat.div_lt_iff_lt_mul hW, Nat.mul_comm r W]
  exact Nat.mul_lt_mul_of_pos_right (by omega) hr
theorem zq_cover {pb : Bool} {r W m t : Nat} : ∀ w, t < zq_fr pb r W w * m → ∃ u, u < w ∧ zq_fr pb r W u * m ≤ t ∧ t < zq_fr pb r W (u + 1) * m
  | 0, h => by rw [zq_fr_0, Nat.zero_mul] at h; omega
  | w + 1, h => by
    by_cases h2 : t < zq_fr pb r W w * m
    · obtain ⟨u, a, b⟩ := zq_cover w h2
      exact ⟨u, by omega, b⟩
    · exact ⟨w, by omega, by omega, h⟩
theorem zq_disj {pb : Bool} {r W m t u w : Nat} (hne : u ≠ w) (h1 : zq_fr pb r W w * m ≤ t) (h2 : t < zq_fr pb r W (w + 1) * m) : ¬ (zq_fr pb r W u * m ≤ t ∧ t < zq_fr pb r W (u + 1) * m) := by
  intro z
  rcases Nat.lt_or_gt_of_ne hne with h | h
  · have := Nat.mul_le_mul_right m (zq_fr_mono (pb := pb) (r := r) (W := W) (u := u + 1) (w := w) h)
    omega
  · have := Nat.mul_le_mul_right m (zq_fr_mono (pb := pb) (r := r) (W := W) (u := w + 1) (w := u) h)
    omega

section
variable (ops xs as bs : Nat → Int32)

theorem zq_F {m r W w t k : Nat} {pb : Bool} (hm : 0 < m) (hW : 0 < W) (hok : ∀ p, p < m → zq_ok ops xs as bs r p) (hpb : pb = true → zq_par ops xs as bs m r)
    (hw : w < W) (hact : pb = true ∨ w = 0) (h1 : zq_fr pb r W w * m ≤ t) (h2 : t < zq_fr pb r W (w + 1) * m)
    (ht : zq_tou ops (t % m)) (hk : zq_ce as bs (t % m) (t / m) = k) :
    ∀ t', t' < r * m → ¬ (zq_fr pb r W w * m ≤ t' ∧ t' < zq_fr pb r W (w + 1) * m) → ¬ zq_sto ops as bs m t' k := by
  intro t' ht' hn hs
  have hp := Nat.mod_lt t hm
  have hp' := Nat.mod_lt t' hm
  have hle : zq_fr pb r W (w + 1) * m ≤ r * m := Nat.mul_le_mul_right m (zq_fr_le hW (by omega))
  have hi : t / m < r := (Nat.div_lt_iff_lt_mul hm).mpr (by omega)
  have hi' : t' / m < r := (Nat.div_lt_iff_lt_mul hm).mpr ht'
  by_cases hb : pb = true
  · by_cases he : t / m = t' / m
    · apply hn
      constructor
      · have a := (Nat.le_div_iff_mul_le hm).mpr h1
        rw [he] at a
        exact (Nat.le_div_iff_mul_le hm).mp a
      · have a := (Nat.div_lt_iff_lt_mul hm).mpr h2
        rw [he] at a
        exact (Nat.div_lt_iff_lt_mul hm).mp a
    · refine (hpb hb).2 _ _ hp hp' ⟨ht, Or.inr hs.1, Or.inr hs.1, t / m, t' / m, hi, hi', he, ?_⟩
      rw [(zq_ce_lt ops xs as bs (hok _ hp) ht hi).2, (zq_ce_lt ops xs as bs (hok _ hp') (Or.inr hs.1) hi').2, hk, hs.2]
  · have hw0 : w = 0 := hact.resolve_left hb
    subst hw0
    apply hn
    rw [zq_fr_0]
    have e1 : zq_fr pb r W (0 + 1) = r := by unfold zq_fr; rw [if_neg hb, if_neg (by omega)]
    rw [e1]
    omega

/-- the run: each worker w stands at statement t w of the plain loop -/
def zq_Run (m r W : Nat) (pb : Bool) (s0 c0 : Nat → Int32) (t : Nat → Nat) (own rc : Nat → Int32) : Prop := ∀ w, w < W →
  (zq_fr pb r W w * m ≤ t w ∧ t w ≤ zq_fr pb r W (w + 1) * m) ∧
  zq_S ops xs as m pb (pb = true ∨ w = 0) (fun x => ∃ t', zq_fr pb r W w * m ≤ t' ∧ t' < t w ∧ zq_ment ops xs as (t' % m) x) s0
    (zq_sq ops xs as bs m s0 c0 (zq_fr pb r W w * m)).1 (zq_sq ops xs as bs m s0 c0 (t w)).1 (fun x => own (w * 4 + x)) ∧
  (∀ k, k < 16 → (∀ t', t' < r * m → ¬ (zq_fr pb r W w * m ≤ t' ∧ t' < zq_fr pb r W (w + 1) * m) → ¬ zq_sto ops as bs m t' k) → rc k = (zq_sq ops xs as bs m s0 c0 (t w)).2 k)

theorem zq_run_init {m r W : Nat} {pb : Bool} {s0 c0 own rc : Nat → Int32} (hm : 0 < m) (hW : 0 < W) (hok : ∀ p, p < m → zq_ok ops xs as bs r p) (hpb : pb = true → zq_par ops xs as bs m r)
    (ho : ∀ w, w < W → ∀ x, x < 4 → own (w * 4 + x) = s0 x) (hc : ∀ k, k < 16 → rc k = c0 k) :
    zq_Run ops xs as bs m r W pb s0 c0 (fun w => zq_fr pb r W w * m) own rc := by
  intro w hw
  have hle : zq_fr pb r W w * m ≤ zq_fr pb r W (w + 1) * m := Nat.mul_le_mul_right m (zq_fr_mono (by omega))
  have hle2 : zq_fr pb r W w * m ≤ r * m := Nat.mul_le_mul_right m (zq_fr_le hW (by omega))
  refine ⟨⟨Nat.le_refl _, hle⟩, ?_, ?_⟩
  · intro x hx
    try dsimp only
    rw [ho w hw x hx]
    refine ⟨fun _ => ?_, fun h4 => ?_, fun h3 h4 ha hH => ?_⟩
    · rw [Int32.sub_self, Int32.sub_self]
    · exact zq_min_le (zq_sq_low ops xs as bs hm hok hx h4 _)
    · by_cases hb : pb = true
      · have n2 : ¬ zq_rol ops xs as m x = 2 := by
          intro z
          obtain ⟨t', a, b, _⟩ := hH hb z
          omega
        have n5 := (hpb hb).1 x hx
        have h01 : zq_rol ops xs as m x = 0 ∨ zq_rol ops xs as m x = 1 := by
          rcases zq_r_in ops xs as m x with e | e | e | e | e | e
          · exact Or.inl e
          · exact Or.inr e
          · exact absurd e n2
          · exact absurd e h3
          · exact absurd e h4
          · exact absurd e n5
        exact (zq_sq_same ops xs as bs hm hok hx (zq_r01 ops xs as h01) _).symm
      · have hw0 : w = 0 := ha.resolve_left hb
        subst hw0
        rw [zq_fr_0, Nat.zero_mul]
        rfl
  · intro k hk hf
    try dsimp only
    rw [hc k hk]
    refine (zq_sq_cell2 ops xs as bs hm hok (a := 0) (Nat.zero_le _) (fun t' _ h2 => hf t' (by omega) (fun z => by omega))).symm

theorem zq_run_step {m r W w : Nat} {pb : Bool} {s0 c0 own own' rc rc' : Nat → Int32} {t : Nat → Nat} (hm : 0 < m) (hW : 0 < W) (hok : ∀ p, p < m → zq_ok ops xs as bs r p) (hpb : pb = true → zq_par ops xs as bs m r)
    (R : zq_Run ops xs as bs m r W pb s0 c0 t own rc) (hw : w < W) (ht : t w < zq_fr pb r W (w + 1) * m)
    (h1 : ∀ x, x < 4 → own' (w * 4 + x) = (zq_stp ops xs as bs (t w % m) (t w / m) (fun x => own (w * 4 + x)) rc).1 x)
    (h2 : ∀ u x, u ≠ w → x < 4 → own' (u * 4 + x) = own (u * 4 + x))
    (h3 : ∀ k, k < 16 → rc' k = (zq_stp ops xs as bs (t w % m) (t w / m) (fun x => own (w * 4 + x)) rc).2 k) :
    zq_Run ops xs as bs m r W pb s0 c0 (fun u => if u = w then t w + 1 else t u) own' rc' := by
  obtain ⟨⟨hlo, hhi⟩, S, C⟩ := R w hw
  have hp := Nat.mod_lt (t w) hm
  have hle : zq_fr pb r W (w + 1) * m ≤ r * m := Nat.mul_le_mul_right m (zq_fr_le hW (by omega))
  have hi : t w / m < r := (Nat.div_lt_iff_lt_mul hm).mpr (by omega)
  have hact : pb = true ∨ w = 0 := by
    by_cases hb : pb = true
    · exact Or.inl hb
    · by_cases h0 : w = 0
      · exact Or.inr h0
      · exfalso
        have e1 : zq_fr pb r W w = r := by unfold zq_fr; rw [if_neg hb, if_neg h0]
        rw [e1] at hlo
        omega
  have hld : ops (t w % m) = 1 → rc (zq_ce as bs (t w % m) (t w / m)) = (zq_sq ops xs as bs m s0 c0 (t w)).2 (zq_ce as bs (t w % m) (t w / m)) := by
    intro e
    exact C _ (zq_ce_lt ops xs as bs (hok _ hp) (Or.inl e) hi).1 (zq_F ops xs as bs hm hW hok hpb hw hact hlo ht (Or.inl e) rfl)
  have hread : ∀ y, y < 4 → zq_ment ops xs as (t w % m) y → ¬ ops (t w % m) = 0 → ¬ ops (t w % m) = 1 → pb = true → zq_rol ops xs as m y = 2 → ∃ t', zq_fr pb r W w * m ≤ t' ∧ t' < t w ∧ zq_ment ops xs as (t' % m) y := by
    intro y hy hm1 n0 n1 hb e2
    obtain ⟨f, hf, mf, nf, of⟩ := zq_r2 ops xs as e2
    have hfp : f < t w % m := by
      rcases Nat.lt_trichotomy f (t w % m) with c | c | c
      · exact c
      · rw [c] at of
        exact absurd of (fun z => z.elim n0 n1)
      · exact absurd hm1 (nf _ c)
    have hq : zq_fr pb r W w ≤ t w / m := (Nat.le_div_iff_mul_le hm).mpr hlo
    have hq2 : zq_fr pb r W w * m ≤ t w / m * m := Nat.mul_le_mul_right m hq
    have hdm := Nat.div_add_mod' (t w) m
    refine ⟨t w / m * m + f, by omega, by omega, ?_⟩
    rw [Nat.mul_comm (t w / m) m, Nat.mul_add_mod, Nat.mod_eq_of_lt hf]
    exact mf
  obtain ⟨S', hst⟩ := zq_S_step ops xs as bs (i := t w / m) (H' := fun x => ∃ t', zq_fr pb r W w * m ≤ t' ∧ t' < t w + 1 ∧ zq_ment ops xs as (t' % m) x) (hok _ hp) hp hact hread hld
    (by
      intro x hx
      obtain ⟨t', a, b, c⟩ := hx
      by_cases e : t' = t w
      · exact Or.inr (e ▸ c)
      · exact Or.inl ⟨t', a, by omega, c⟩) S
  intro u hu
  by_cases huw : u = w
  · subst huw
    try dsimp only
    rw [if_pos rfl]
    refine ⟨⟨by omega, by omega⟩, ?_, ?_⟩
    · intro x hx
      try dsimp only
      rw [h1 x hx]
      exact S' x hx
    · intro k hk hf
      rw [h3 k hk]
      show _ = (zq_stp ops xs as bs (t u % m) (t u / m) (zq_sq ops xs as bs m s0 c0 (t u)).1 (zq_sq ops xs as bs m s0 c0 (t u)).2).2 k
      have hC := C k hk hf
      by_cases e : ops (t u % m) = 2
      · rw [zq_s2 ops xs as bs e, zq_s2 ops xs as bs e]
        try dsimp only
        have hv := hst e
        try dsimp only at hv
        rw [hv]
        unfold upd
        by_cases ek : k = zq_ce as bs (t u % m) (t u / m)
        · rw [if_pos ek, if_pos ek]
        · rw [if_neg ek, if_neg ek]; exact hC
      · rw [zq_keep_c ops xs as bs (hok _ hp) (fun z => e z.1), zq_keep_c ops xs as bs (hok _ hp) (fun z => e z.1)]
        exact hC
  · obtain ⟨hb, Su, Cu⟩ := R u hu
    try dsimp only
    rw [if_neg huw]
    refine ⟨hb, ?_, ?_⟩
    · intro x hx
      try dsimp only
      rw [h2 u x huw hx]
      exact Su x hx
    · intro k hk hf
      rw [h3 k hk, zq_keep_c ops xs as bs (hok _ hp) (fun z => hf (t w) (by omega) (zq_disj huw hlo ht) z)]
      exact Cu k hk hf

theorem zq_end_cells {m r W : Nat} {pb : Bool} {s0 c0 own rc : Nat → Int32} {t : Nat → Nat} (hm : 0 < m) (hW : 0 < W) (hok : ∀ p, p < m → zq_ok ops xs as bs r p) (hpb : pb = true → zq_par ops xs as bs m r)
    (R : zq_Run ops xs as bs m r W pb s0 c0 t own rc) (ht : ∀ w, w < W → t w = zq_fr pb r W (w + 1) * m) :
    ∀ k, k < 16 → rc k = (zq_sq ops xs as bs m s0 c0 (r * m)).2 k := by
  intro k hk
  by_cases hs : ∃ t', t' < r * m ∧ zq_sto ops as bs m t' k
  · obtain ⟨t', h1, h2⟩ := hs
    obtain ⟨u, hu, a, b⟩ := zq_cover (pb := pb) (r := r) (W := W) (m := m) (t := t') W (by rw [zq_fr_W hW]; exact h1)
    have hact : pb = true ∨ u = 0 := by
      by_cases hb : pb = true
      · exact Or.inl hb
      · by_cases h0 : u = 0
        · exact Or.inr h0
        · exfalso
          have e1 : zq_fr pb r W u = r := by unfold zq_fr; rw [if_neg hb, if_neg h0]
          rw [e1] at a
          omega
    have hf := zq_F ops xs as bs hm hW hok hpb hu hact a b (Or.inr h2.1) h2.2
    rw [(R u hu).2.2 k hk hf, ht u hu]
    refine (zq_sq_cell2 ops xs as bs hm hok (Nat.mul_le_mul_right m (zq_fr_le hW (by omega))) ?_).symm
    intro t2 h3 h4
    exact hf t2 h4 (fun z => by omega)
  · have hn : ∀ t', t' < r * m → ¬ zq_sto ops as bs m t' k := fun t' a b => hs ⟨t', a, b⟩
    rw [(R 0 hW).2.2 k hk (fun t' a _ => hn t' a), ht 0 hW]
    exact (zq_sq_cell2 ops xs as bs hm hok (Nat.mul_le_mul_right m (zq_fr_le hW (by omega))) (fun t2 _ h4 => hn t2 h4)).symm

theorem zq_end_sum {m r W w x : Nat} {pb : Bool} {s0 c0 own rc : Nat → Int32} {t : Nat → Nat}
    (R : zq_Run ops xs as bs m r W pb s0 c0 t own rc) (ht : ∀ w, w < W → t w = zq_fr pb r W (w + 1) * m) (hw : w < W) (hx : x < 4) (h : zq_rol ops xs as m x = 3) :
    (zq_sq ops xs as bs m s0 c0 (zq_fr pb r W w * m)).1 x + (own (w * 4 + x) - s0 x) = (zq_sq ops xs as bs m s0 c0 (zq_fr pb r W (w + 1) * m)).1 x := by
  have h1 := ((R w hw).2.1 x hx).1 h
  try dsimp only at h1
  rw [ht w hw] at h1
  rw [h1]
  generalize (zq_sq ops xs as bs m s0 c0 (zq_fr pb r W w * m)).1 x = a
  generalize (zq_sq ops xs as bs m s0 c0 (zq_fr pb r W (w + 1) * m)).1 x = b
  grind

theorem zq_end_min {m r W w x : Nat} {pb : Bool} {s0 c0 own rc : Nat → Int32} {t : Nat → Nat}
    (R : zq_Run ops xs as bs m r W pb s0 c0 t own rc) (ht : ∀ w, w < W → t w = zq_fr pb r W (w + 1) * m) (hw : w < W) (hx : x < 4) (h : zq_rol ops xs as m x = 4) :
    zq_min ((zq_sq ops xs as bs m s0 c0 (zq_fr pb r W w * m)).1 x) (own (w * 4 + x)) = (zq_sq ops xs as bs m s0 c0 (zq_fr pb r W (w + 1) * m)).1 x := by
  have h1 := ((R w hw).2.1 x hx).2.1 h
  try dsimp only at h1
  rw [ht w hw] at h1
  exact h1

theorem zq_end_last {m r W x : Nat} {pb : Bool} {s0 c0 own rc : Nat → Int32} {t : Nat → Nat} (hm : 0 < m) (hr : 0 < r) (hW : 0 < W)
    (R : zq_Run ops xs as bs m r W pb s0 c0 t own rc) (ht : ∀ w, w < W → t w = zq_fr pb r W (w + 1) * m) (hx : x < 4) (h3 : ¬ zq_rol ops xs as m x = 3) (h4 : ¬ zq_rol ops xs as m x = 4) :
    own ((if pb = true then W - 1 else 0) * 4 + x) = (zq_sq ops xs as bs m s0 c0 (r * m)).1 x := by
  by_cases hb : pb = true
  · rw [if_pos hb]
    have h1 := ((R (W - 1) (by omega)).2.1 x hx).2.2 h3 h4 (Or.inl hb)
    have e : zq_fr pb r W (W - 1 + 1) = r := by rw [show W - 1 + 1 = W from by omega]; exact zq_fr_W hW
    rw [ht (W - 1) (by omega), e] at h1
    refine h1 (fun _ h2 => ?_)
    obtain ⟨f, hf, mf, _⟩ := zq_r2 ops xs as h2
    have hl : zq_fr pb r W (W - 1) < r := by rw [hb]; exact zq_fr_last hr hW
    have hl2 : (zq_fr pb r W (W - 1) + 1) * m ≤ r * m := Nat.mul_le_mul_right m hl
    rw [Nat.add_mul, Nat.one_mul] at hl2
    refine ⟨zq_fr pb r W (W - 1) * m + f, by omega, by omega, ?_⟩
    rw [Nat.mul_comm (zq_fr pb r W (W - 1)) m, Nat.mul_add_mod, Nat.mod_eq_of_lt hf]
    exact mf
  · rw [if_neg hb]
    have h1 := ((R 0 hW).2.1 x hx).2.2 h3 h4 (Or.inr rfl) (fun z => absurd z hb)
    have e : zq_fr pb r W (0 + 1) = r := by unfold zq_fr; rw [if_neg hb, if_neg (by omega)]
    rw [ht 0 hW, e] at h1
    exact h1
end
