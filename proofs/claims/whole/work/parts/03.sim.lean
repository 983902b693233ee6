/-! a worker's own scalars against the plain loop's -/
section
variable (ops xs as bs : Nat → Int32)

def zq_S (m : Nat) (pb : Bool) (act : Prop) (H : Nat → Prop) (s0 sl st v : Nat → Int32) : Prop := ∀ x, x < 4 →
  (zq_rol ops xs as m x = 3 → v x - s0 x = st x - sl x) ∧
  (zq_rol ops xs as m x = 4 → zq_min (sl x) (v x) = st x) ∧
  (¬ zq_rol ops xs as m x = 3 → ¬ zq_rol ops xs as m x = 4 → act → (pb = true → zq_rol ops xs as m x = 2 → H x) → v x = st x)

theorem zq_add_l {a b c d e : Int32} (h : a - b = c - d) : a + e - b = c + e - d := by
  have h1 : a + e - b = (a - b) + e := by grind
  have h2 : c + e - d = (c - d) + e := by grind
  rw [h1, h2, h]

theorem zq_S_step {m r p i : Nat} {pb : Bool} {act : Prop} {H H' : Nat → Prop} {s0 sl st v rc kt : Nat → Int32}
    (hok : zq_ok ops xs as bs r p) (hp : p < m) (hact : act)
    (hread : ∀ y, y < 4 → zq_ment ops xs as p y → ¬ ops p = 0 → ¬ ops p = 1 → pb = true → zq_rol ops xs as m y = 2 → H y)
    (hld : ops p = 1 → rc (zq_ce as bs p i) = kt (zq_ce as bs p i))
    (hH : ∀ x, H' x → H x ∨ zq_ment ops xs as p x)
    (S : zq_S ops xs as m pb act H s0 sl st v) :
    zq_S ops xs as m pb act H' s0 sl (zq_stp ops xs as bs p i st kt).1 (zq_stp ops xs as bs p i v rc).1 ∧
    (ops p = 2 → v (xs p).toNatClampNeg = st (xs p).toNatClampNeg) := by
  have hops := zq_ok_ops ops xs as bs hok
  have hok' := hok
  obtain ⟨_, ⟨X, hX, ex⟩, _, hA⟩ := hok'
  have cl : (xs p).toNatClampNeg = X := by rw [ex]; exact nI_clamp (by omega)
  have mX : zq_ment ops xs as p X := Or.inl ex
  have rd : ∀ y, y < 4 → zq_ment ops xs as p y → ¬ ops p = 0 → ¬ ops p = 1 → ¬ zq_rol ops xs as m y = 3 → ¬ zq_rol ops xs as m y = 4 → v y = st y :=
    fun y hy hm h0 h1 h3 h4 => (S y hy).2.2 h3 h4 hact (hread y hy hm h0 h1)
  have n3 : ¬ ops p = 3 → ¬ ops p = 5 → ¬ zq_rol ops xs as m X = 3 := by
    intro a b z
    rcases (zq_r3 ops xs as z p hp mX).2 with c | c
    · exact b c
    · exact a c.1
  have n4 : ¬ ops p = 4 → ¬ zq_rol ops xs as m X = 4 := fun a z => a (zq_r4 ops xs as z p hp mX).2.1
  -- a scalar that the statement doesn't change
  have kp : ∀ x, x < 4 → ¬ zq_chg ops xs p x → (zq_ment ops xs as p x → ¬ ops p = 0 ∧ ¬ ops p = 1) →
      (zq_rol ops xs as m x = 3 → (zq_stp ops xs as bs p i v rc).1 x - s0 x = (zq_stp ops xs as bs p i st kt).1 x - sl x) ∧
      (zq_rol ops xs as m x = 4 → zq_min (sl x) ((zq_stp ops xs as bs p i v rc).1 x) = (zq_stp ops xs as bs p i st kt).1 x) ∧
      (¬ zq_rol ops xs as m x = 3 → ¬ zq_rol ops xs as m x = 4 → act → (pb = true → zq_rol ops xs as m x = 2 → H' x) → (zq_stp ops xs as bs p i v rc).1 x = (zq_stp ops xs as bs p i st kt).1 x) := by
    intro x hx hc hm
    rw [zq_keep_s ops xs as bs hok hx hc, zq_keep_s ops xs as bs hok hx hc]
    refine ⟨(S x hx).1, (S x hx).2.1, fun h3 h4 ha hH2 => ?_⟩
    by_cases pm : zq_ment ops xs as p x
    · exact rd x hx pm (hm pm).1 (hm pm).2 h3 h4
    · exact (S x hx).2.2 h3 h4 ha (fun a b => (hH x (hH2 a b)).resolve_right pm)
  -- a scalar other than X, mentioned: only by PLUS or LEAST
  have ot : ∀ x, x < 4 → x ≠ X → zq_ment ops xs as p x → ¬ ops p = 0 ∧ ¬ ops p = 1 := by
    intro x hx hne hm
    rcases hm with e | ⟨e, _⟩
    · exact absurd ((nI_eq (by omega) (by omega)).mp (ex.symm.trans e)).symm hne
    · rcases e with e | e <;> rw [e] <;> decide
  have oc : ∀ x, x < 4 → x ≠ X → ¬ zq_chg ops xs p x := fun x hx hne hc => hne ((nI_eq (by omega) (by omega)).mp (ex.symm.trans hc.1)).symm
  -- the scalar a of PLUS and LEAST
  have ra : (ops p = 3 ∨ ops p = 4) → v (as p).toNatClampNeg = st (as p).toNatClampNeg := by
    intro ho
    obtain ⟨a, ha, ea⟩ := hA ho
    have cla : (as p).toNatClampNeg = a := by rw [ea]; exact nI_clamp (by omega)
    have ma : zq_ment ops xs as p a := Or.inr ⟨ho, ea⟩
    rw [cla]
    refine rd a ha ma ?_ ?_ ?_ ?_
    · rcases ho with e | e <;> rw [e] <;> decide
    · rcases ho with e | e <;> rw [e] <;> decide
    · intro z
      rcases (zq_r3 ops xs as z p hp ma).2 with c | c
      · rcases ho with e | e <;> rw [e] at c <;> exact absurd c (by decide)
      · exact c.2 ea
    · intro z
      exact (zq_r4 ops xs as z p hp ma).2.2 ea
  constructor
  · intro x hx
    by_cases hxX : x = X
    · subst hxX
      rcases hops with e | e | e | e | e | e
      · have m3 := n3 (by rw [e]; decide) (by rw [e]; decide)
        have m4 := n4 (by rw [e]; decide)
        rw [zq_s0 ops xs as bs e, zq_s0 ops xs as bs e, cl]
        refine ⟨fun z => absurd z m3, fun z => absurd z m4, fun _ _ _ _ => ?_⟩
        show upd v x (as p) x = upd st x (as p) x
        rw [pk_us, pk_us]
      · have m3 := n3 (by rw [e]; decide) (by rw [e]; decide)
        have m4 := n4 (by rw [e]; decide)
        rw [zq_s1 ops xs as bs e, zq_s1 ops xs as bs e, cl]
        refine ⟨fun z => absurd z m3, fun z => absurd z m4, fun _ _ _ _ => ?_⟩
        show upd v x _ x = upd st x _ x
        rw [pk_us, pk_us]
        exact hld e
      · refine kp x hx (fun z => z.2 e) (fun _ => by rw [e]; decide)
      · have m4 := n4 (by rw [e]; decide)
        rw [zq_s3 ops xs as bs e, zq_s3 ops xs as bs e, cl]
        try dsimp only
        rw [pk_us, pk_us, ra (Or.inl e)]
        refine ⟨fun z => zq_add_l ((S x hx).1 z), fun z => absurd z m4, fun h3 h4 _ _ => ?_⟩
        rw [rd x hx mX (by rw [e]; decide) (by rw [e]; decide) h3 h4]
      · have m3 := n3 (by rw [e]; decide) (by rw [e]; decide)
        rw [zq_s4 ops xs as bs e, zq_s4 ops xs as bs e, cl]
        try dsimp only
        rw [pk_us, pk_us, ra (Or.inr e)]
        refine ⟨fun z => absurd z m3, fun z => ?_, fun h3 h4 _ _ => ?_⟩
        · rw [← zq_min_as, (S x hx).2.1 z]
        · rw [rd x hx mX (by rw [e]; decide) (by rw [e]; decide) h3 h4]
      · have m4 := n4 (by rw [e]; decide)
        rw [zq_s5 ops xs as bs e, zq_s5 ops xs as bs e, cl]
        try dsimp only
        rw [pk_us, pk_us]
        refine ⟨fun z => zq_add_l ((S x hx).1 z), fun z => absurd z m4, fun h3 h4 _ _ => ?_⟩
        rw [rd x hx mX (by rw [e]; decide) (by rw [e]; decide) h3 h4]
    · exact kp x hx (oc x hx hxX) (ot x hx hxX)
  · intro e
    rw [cl]
    exact rd X hX mX (by rw [e]; decide) (by rw [e]; decide) (n3 (by rw [e]; decide) (by rw [e]; decide)) (n4 (by rw [e]; decide))

/-- the plain loop, statement by statement -/
def zq_sq (m : Nat) (s0 c0 : Nat → Int32) : Nat → (Nat → Int32) × (Nat → Int32)
  | 0 => (s0, c0)
  | t + 1 => zq_stp ops xs as bs (t % m) (t / m) (zq_sq m s0 c0 t).1 (zq_sq m s0 c0 t).2

def zq_sto (m t k : Nat) : Prop := ops (t % m) = 2 ∧ zq_ce as bs (t % m) (t / m) = k

theorem zq_sq_hs {m r x : Nat} {s0 c0 : Nat → Int32} (hm : 0 < m) (hok : ∀ p, p < m → zq_ok ops xs as bs r p) (hx : 4 ≤ x) : ∀ t, (zq_sq ops xs as bs m s0 c0 t).1 x = s0 x
  | 0 => rfl
  | t + 1 => (zq_keep_hs ops xs as bs (hok _ (Nat.mod_lt t hm)) hx).trans (zq_sq_hs hm hok hx t)
theorem zq_sq_hc {m r k : Nat} {s0 c0 : Nat → Int32} (hm : 0 < m) (hok : ∀ p, p < m → zq_ok ops xs as bs r p) (hk : 16 ≤ k) : ∀ t, t ≤ r * m → (zq_sq ops xs as bs m s0 c0 t).2 k = c0 k
  | 0, _ => rfl
  | t + 1, ht => by
    refine (zq_keep_c ops xs as bs (hok _ (Nat.mod_lt t hm)) ?_).trans (zq_sq_hc hm hok hk t (by omega))
    intro z
    have hi : t / m < r := (Nat.div_lt_iff_lt_mul hm).mpr (by omega)
    have := (zq_ce_lt ops xs as bs (hok _ (Nat.mod_lt t hm)) (Or.inr z.1) hi).1
    omega
theorem zq_sq_same {m r x : Nat} {s0 c0 : Nat → Int32} (hm : 0 < m) (hok : ∀ p, p < m → zq_ok ops xs as bs r p) (hx : x < 4) (h : ∀ p, p < m → ¬ zq_chg ops xs p x) : ∀ t, (zq_sq ops xs as bs m s0 c0 t).1 x = s0 x
  | 0 => rfl
  | t + 1 => (zq_keep_s ops xs as bs (hok _ (Nat.mod_lt t hm)) hx (h _ (Nat.mod_lt t hm))).trans (zq_sq_same hm hok hx h t)
theorem zq_sq_low {m r x : Nat} {s0 c0 : Nat → Int32} (hm : 0 < m) (hok : ∀ p, p < m → zq_ok ops xs as bs r p) (hx : x < 4) (h : zq_rol ops xs as m x = 4) : ∀ t, (zq_sq ops xs as bs m s0 c0 t).1 x ≤ s0 x
  | 0 => Int32.le_refl _
  | t + 1 => by
    have hp := Nat.mod_lt t hm
    have ih := zq_sq_low (s0 := s0) (c0 := c0) hm hok hx h t
    show (zq_stp ops xs as bs (t % m) (t / m) (zq_sq ops xs as bs m s0 c0 t).1 (zq_sq ops xs as bs m s0 c0 t).2).1 x ≤ s0 x
    by_cases hc : zq_chg ops xs (t % m) x
    · have hl := zq_r4 ops xs as h _ hp (Or.inl hc.1)
      have cl : (xs (t % m)).toNatClampNeg = x := by rw [hc.1]; exact nI_clamp (by omega)
      rw [zq_s4 ops xs as bs hl.2.1, cl]
      try dsimp only
      rw [pk_us]
      exact Int32.le_trans (zq_min_ll _ _) ih
    · rw [zq_keep_s ops xs as bs (hok _ hp) hx hc]
      exact ih
theorem zq_sq_cell {m r k : Nat} {s0 c0 : Nat → Int32} (hm : 0 < m) (hok : ∀ p, p < m → zq_ok ops xs as bs r p) (a : Nat) : ∀ d, (∀ t, a ≤ t → t < a + d → ¬ zq_sto ops as bs m t k) → (zq_sq ops xs as bs m s0 c0 (a + d)).2 k = (zq_sq ops xs as bs m s0 c0 a).2 k
  | 0, _ => rfl
  | d + 1, h => (zq_keep_c ops xs as bs (hok _ (Nat.mod_lt (a + d) hm)) (h (a + d) (by omega) (by omega))).trans (zq_sq_cell hm hok a d (fun t h1 h2 => h t h1 (by omega)))
theorem zq_sq_cell2 {m r k a b : Nat} {s0 c0 : Nat → Int32} (hm : 0 < m) (hok : ∀ p, p < m → zq_ok ops xs as bs r p) (hab : a ≤ b) (h : ∀ t, a ≤ t → t < b → ¬ zq_sto ops as bs m t k) : (zq_sq ops xs as bs m s0 c0 b).2 k = (zq_sq ops xs as bs m s0 c0 a).2 k := by
  obtain ⟨d, rfl⟩ : ∃ d, b = a + d := ⟨b - a, by omega⟩
  exact zq_sq_cell ops xs as bs hm hok a d h
end
