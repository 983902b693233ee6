/-! the body, its roles, its clashes, as pure facts -/
section
variable (ops xs as bs : Nat → Int32)

def zq_ment (p x : Nat) : Prop := xs p = nI x ∨ ((ops p = 3 ∨ ops p = 4) ∧ as p = nI x)
def zq_chg (p x : Nat) : Prop := xs p = nI x ∧ ¬ ops p = 2
def zq_adds (p x : Nat) : Prop := xs p = nI x ∧ (ops p = 5 ∨ (ops p = 3 ∧ ¬ as p = nI x))
def zq_lows (p x : Nat) : Prop := xs p = nI x ∧ ops p = 4 ∧ ¬ as p = nI x
def zq_fst (m x : Nat) : Prop := ∃ f, f < m ∧ zq_ment ops xs as f x ∧ (∀ q, q < f → ¬ zq_ment ops xs as q x) ∧ (ops f = 0 ∨ ops f = 1)
noncomputable def zq_ite (c : Prop) (a b : Int32) : Int32 := @ite Int32 c (Classical.propDecidable c) a b
theorem zq_ite_t {c : Prop} {a b : Int32} (h : c) : zq_ite c a b = a := by unfold zq_ite; exact if_pos h
theorem zq_ite_f {c : Prop} {a b : Int32} (h : ¬ c) : zq_ite c a b = b := by unfold zq_ite; exact if_neg h
noncomputable def zq_rol (m x : Nat) : Int32 :=
  zq_ite (∀ p, p < m → ¬ zq_ment ops xs as p x) 0
  (zq_ite (∀ p, p < m → ¬ zq_chg ops xs p x) 1
  (zq_ite (zq_fst ops xs as m x) 2
  (zq_ite (∀ p, p < m → zq_ment ops xs as p x → zq_adds ops xs as p x) 3
  (zq_ite (∀ p, p < m → zq_ment ops xs as p x → zq_lows ops xs as p x) 4 5))))

theorem zq_rol_all (m x : Nat) :
    (zq_rol ops xs as m x = 0 ∧ ∀ p, p < m → ¬ zq_chg ops xs p x) ∨
    (zq_rol ops xs as m x = 1 ∧ ∀ p, p < m → ¬ zq_chg ops xs p x) ∨
    (zq_rol ops xs as m x = 2 ∧ zq_fst ops xs as m x) ∨
    (zq_rol ops xs as m x = 3 ∧ ∀ p, p < m → zq_ment ops xs as p x → zq_adds ops xs as p x) ∨
    (zq_rol ops xs as m x = 4 ∧ ∀ p, p < m → zq_ment ops xs as p x → zq_lows ops xs as p x) ∨
    zq_rol ops xs as m x = 5 := by
  unfold zq_rol
  by_cases h0 : ∀ p, p < m → ¬ zq_ment ops xs as p x
  · exact Or.inl ⟨zq_ite_t h0, fun p hp hc => h0 p hp (Or.inl hc.1)⟩
  rw [zq_ite_f h0]
  by_cases h1 : ∀ p, p < m → ¬ zq_chg ops xs p x
  · exact Or.inr (Or.inl ⟨zq_ite_t h1, h1⟩)
  rw [zq_ite_f h1]
  by_cases h2 : zq_fst ops xs as m x
  · exact Or.inr (Or.inr (Or.inl ⟨zq_ite_t h2, h2⟩))
  rw [zq_ite_f h2]
  by_cases h3 : ∀ p, p < m → zq_ment ops xs as p x → zq_adds ops xs as p x
  · exact Or.inr (Or.inr (Or.inr (Or.inl ⟨zq_ite_t h3, h3⟩)))
  rw [zq_ite_f h3]
  by_cases h4 : ∀ p, p < m → zq_ment ops xs as p x → zq_lows ops xs as p x
  · exact Or.inr (Or.inr (Or.inr (Or.inr (Or.inl ⟨zq_ite_t h4, h4⟩))))
  rw [zq_ite_f h4]
  exact Or.inr (Or.inr (Or.inr (Or.inr (Or.inr rfl))))

theorem zq_r01 {m x : Nat} (h : zq_rol ops xs as m x = 0 ∨ zq_rol ops xs as m x = 1) : ∀ p, p < m → ¬ zq_chg ops xs p x := by
  rcases zq_rol_all ops xs as m x with ⟨_, k⟩ | ⟨_, k⟩ | ⟨e, _⟩ | ⟨e, _⟩ | ⟨e, _⟩ | e
  · exact k
  · exact k
  all_goals (rw [e] at h; exact absurd h (by decide))
theorem zq_r2 {m x : Nat} (h : zq_rol ops xs as m x = 2) : zq_fst ops xs as m x := by
  rcases zq_rol_all ops xs as m x with ⟨e, _⟩ | ⟨e, _⟩ | ⟨_, k⟩ | ⟨e, _⟩ | ⟨e, _⟩ | e
  all_goals first | exact k | (rw [e] at h; exact absurd h (by decide))
theorem zq_r3 {m x : Nat} (h : zq_rol ops xs as m x = 3) : ∀ p, p < m → zq_ment ops xs as p x → zq_adds ops xs as p x := by
  rcases zq_rol_all ops xs as m x with ⟨e, _⟩ | ⟨e, _⟩ | ⟨e, _⟩ | ⟨_, k⟩ | ⟨e, _⟩ | e
  all_goals first | exact k | (rw [e] at h; exact absurd h (by decide))
theorem zq_r4 {m x : Nat} (h : zq_rol ops xs as m x = 4) : ∀ p, p < m → zq_ment ops xs as p x → zq_lows ops xs as p x := by
  rcases zq_rol_all ops xs as m x with ⟨e, _⟩ | ⟨e, _⟩ | ⟨e, _⟩ | ⟨e, _⟩ | ⟨_, k⟩ | e
  all_goals first | exact k | (rw [e] at h; exact absurd h (by decide))
theorem zq_r_in (m x : Nat) : zq_rol ops xs as m x = 0 ∨ zq_rol ops xs as m x = 1 ∨ zq_rol ops xs as m x = 2 ∨ zq_rol ops xs as m x = 3 ∨ zq_rol ops xs as m x = 4 ∨ zq_rol ops xs as m x = 5 := by
  rcases zq_rol_all ops xs as m x with ⟨e, _⟩ | ⟨e, _⟩ | ⟨e, _⟩ | ⟨e, _⟩ | ⟨e, _⟩ | e
  · exact Or.inl e
  · exact Or.inr (Or.inl e)
  · exact Or.inr (Or.inr (Or.inl e))
  · exact Or.inr (Or.inr (Or.inr (Or.inl e)))
  · exact Or.inr (Or.inr (Or.inr (Or.inr (Or.inl e))))
  · exact Or.inr (Or.inr (Or.inr (Or.inr (Or.inr e))))

def zq_tou (p : Nat) : Prop := ops p = 1 ∨ ops p = 2
def zq_meet (r p q : Nat) : Prop := ∃ i j, i < r ∧ j < r ∧ i ≠ j ∧ as p * nI i + bs p = as q * nI j + bs q
def zq_cla (r p q : Nat) : Prop := zq_tou ops p ∧ zq_tou ops q ∧ (ops p = 2 ∨ ops q = 2) ∧ zq_meet as bs r p q
theorem zq_cla_s {r p q : Nat} (h : zq_cla ops as bs r p q) : zq_cla ops as bs r q p := by
  obtain ⟨a, b, c, i, j, hi, hj, hn, e⟩ := h
  exact ⟨b, a, c.symm, j, i, hj, hi, fun z => hn z.symm, e.symm⟩
def zq_par (m r : Nat) : Prop := (∀ x, x < 4 → ¬ zq_rol ops xs as m x = 5) ∧ ∀ p q, p < m → q < m → ¬ zq_cla ops as bs r p q

/-- a valid statement -/
def zq_ok (r p : Nat) : Prop := (∃ o, o < 6 ∧ ops p = nI o) ∧ (∃ x, x < 4 ∧ xs p = nI x) ∧
  (zq_tou ops p → ∀ i, i < r → ∃ c, c < 16 ∧ as p * nI i + bs p = nI c) ∧
  ((ops p = 3 ∨ ops p = 4) → ∃ a, a < 4 ∧ as p = nI a)

theorem zq_ok_ops {r p : Nat} (h : zq_ok ops xs as bs r p) : ops p = 0 ∨ ops p = 1 ∨ ops p = 2 ∨ ops p = 3 ∨ ops p = 4 ∨ ops p = 5 := by
  obtain ⟨⟨o, ho, e⟩, _⟩ := h
  have h6 : o = 0 ∨ o = 1 ∨ o = 2 ∨ o = 3 ∨ o = 4 ∨ o = 5 := by omega
  rcases h6 with rfl | rfl | rfl | rfl | rfl | rfl
  · exact Or.inl e
  · exact Or.inr (Or.inl e)
  · exact Or.inr (Or.inr (Or.inl e))
  · exact Or.inr (Or.inr (Or.inr (Or.inl e)))
  · exact Or.inr (Or.inr (Or.inr (Or.inr (Or.inl e))))
  · exact Or.inr (Or.inr (Or.inr (Or.inr (Or.inr e))))

/-- one statement carried out -/
def zq_min (u v : Int32) : Int32 := if u < v then u else v
def zq_ce (p i : Nat) : Nat := (as p * nI i + bs p).toNatClampNeg
def zq_stp (p i : Nat) (s c : Nat → Int32) : (Nat → Int32) × (Nat → Int32) :=
  if ops p = 0 then (upd s (xs p).toNatClampNeg (as p), c)
  else if ops p = 1 then (upd s (xs p).toNatClampNeg (c (zq_ce as bs p i)), c)
  else if ops p = 2 then (s, upd c (zq_ce as bs p i) (s (xs p).toNatClampNeg))
  else if ops p = 3 then (upd s (xs p).toNatClampNeg (s (xs p).toNatClampNeg + s (as p).toNatClampNeg), c)
  else if ops p = 4 then (upd s (xs p).toNatClampNeg (zq_min (s (xs p).toNatClampNeg) (s (as p).toNatClampNeg)), c)
  else (upd s (xs p).toNatClampNeg (s (xs p).toNatClampNeg + nI i), c)
theorem zq_s0 {p i : Nat} {s c : Nat → Int32} (h : ops p = 0) : zq_stp ops xs as bs p i s c = (upd s (xs p).toNatClampNeg (as p), c) := by
  unfold zq_stp; rw [if_pos h]
theorem zq_s1 {p i : Nat} {s c : Nat → Int32} (h : ops p = 1) : zq_stp ops xs as bs p i s c = (upd s (xs p).toNatClampNeg (c (zq_ce as bs p i)), c) := by
  unfold zq_stp; rw [if_neg (by rw [h]; decide), if_pos h]
theorem zq_s2 {p i : Nat} {s c : Nat → Int32} (h : ops p = 2) : zq_stp ops xs as bs p i s c = (s, upd c (zq_ce as bs p i) (s (xs p).toNatClampNeg)) := by
  unfold zq_stp; rw [if_neg (by rw [h]; decide), if_neg (by rw [h]; decide), if_pos h]
theorem zq_s3 {p i : Nat} {s c : Nat → Int32} (h : ops p = 3) : zq_stp ops xs as bs p i s c = (upd s (xs p).toNatClampNeg (s (xs p).toNatClampNeg + s (as p).toNatClampNeg), c) := by
  unfold zq_stp; rw [if_neg (by rw [h]; decide), if_neg (by rw [h]; decide), if_neg (by rw [h]; decide), if_pos h]
theorem zq_s4 {p i : Nat} {s c : Nat → Int32} (h : ops p = 4) : zq_stp ops xs as bs p i s c = (upd s (xs p).toNatClampNeg (zq_min (s (xs p).toNatClampNeg) (s (as p).toNatClampNeg)), c) := by
  unfold zq_stp; rw [if_neg (by rw [h]; decide), if_neg (by rw [h]; decide), if_neg (by rw [h]; decide), if_neg (by rw [h]; decide), if_pos h]
theorem zq_s5 {p i : Nat} {s c : Nat → Int32} (h : ops p = 5) : zq_stp ops xs as bs p i s c = (upd s (xs p).toNatClampNeg (s (xs p).toNatClampNeg + nI i), c) := by
  unfold zq_stp; rw [if_neg (by rw [h]; decide), if_neg (by rw [h]; decide), if_neg (by rw [h]; decide), if_neg (by rw [h]; decide), if_neg (by rw [h]; decide)]

theorem zq_min_as (a b c : Int32) : zq_min (zq_min a b) c = zq_min a (zq_min b c) := by
  unfold zq_min
  by_cases h1 : a < b <;> by_cases h2 : b < c <;> by_cases h3 : a < c <;> simp only [h1, h2, h3, if_true, if_false]
  all_goals (simp only [Int32.lt_iff_toInt_lt] at h1 h2 h3; first | rfl | omega | (apply Int32.toInt_inj.mp; omega))
theorem zq_min_le {a b : Int32} (h : a ≤ b) : zq_min a b = a := by
  unfold zq_min
  by_cases h1 : a < b
  · exact if_pos h1
  · rw [if_neg h1]
    exact Int32.le_antisymm (Int32.not_lt.mp h1) h
theorem zq_min_ll (a b : Int32) : zq_min a b ≤ a := by
  unfold zq_min
  by_cases h1 : a < b
  · rw [if_pos h1]; exact Int32.le_refl a
  · rw [if_neg h1]; exact Int32.not_lt.mp h1
theorem zq_min_c (a b : Int32) : zq_min a b = (if b < a then b else a) := by
  unfold zq_min
  by_cases h1 : a < b <;> by_cases h2 : b < a <;> simp only [h1, h2, if_true, if_false]
  all_goals (simp only [Int32.lt_iff_toInt_lt] at h1 h2; first | rfl | omega | (apply Int32.toInt_inj.mp; omega))

/-- what a statement leaves alone -/
theorem zq_keep_s {r p i x : Nat} {s c : Nat → Int32} (hok : zq_ok ops xs as bs r p) (hx : x < 4) (h : ¬ zq_chg ops xs p x) : (zq_stp ops xs as bs p i s c).1 x = s x := by
  have hops := zq_ok_ops ops xs as bs hok
  obtain ⟨_, ⟨X, hX, ex⟩, _⟩ := hok
  have cl : (xs p).toNatClampNeg = X := by rw [ex]; exact nI_clamp (by omega)
  by_cases h2 : ops p = 2
  · rw [zq_s2 ops xs as bs h2]
  · have hne : x ≠ X := fun e => h ⟨by rw [ex, e], h2⟩
    rcases hops with e | e | e | e | e | e
    · rw [zq_s0 ops xs as bs e, cl]; exact pk_un hne
    · rw [zq_s1 ops xs as bs e, cl]; exact pk_un hne
    · exact absurd e h2
    · rw [zq_s3 ops xs as bs e, cl]; exact pk_un hne
    · rw [zq_s4 ops xs as bs e, cl]; exact pk_un hne
    · rw [zq_s5 ops xs as bs e, cl]; exact pk_un hne
theorem zq_keep_hs {r p i x : Nat} {s c : Nat → Int32} (hok : zq_ok ops xs as bs r p) (hx : 4 ≤ x) : (zq_stp ops xs as bs p i s c).1 x = s x := by
  have hops := zq_ok_ops ops xs as bs hok
  obtain ⟨_, ⟨X, hX, ex⟩, _⟩ := hok
  have cl : (xs p).toNatClampNeg = X := by rw [ex]; exact nI_clamp (by omega)
  have hne : x ≠ X := by omega
  rcases hops with e | e | e | e | e | e
  · rw [zq_s0 ops xs as bs e, cl]; exact pk_un hne
  · rw [zq_s1 ops xs as bs e, cl]; exact pk_un hne
  · rw [zq_s2 ops xs as bs e]
  · rw [zq_s3 ops xs as bs e, cl]; exact pk_un hne
  · rw [zq_s4 ops xs as bs e, cl]; exact pk_un hne
  · rw [zq_s5 ops xs as bs e, cl]; exact pk_un hne
theorem zq_keep_c {r p i k : Nat} {s c : Nat → Int32} (hok : zq_ok ops xs as bs r p) (h : ¬ (ops p = 2 ∧ zq_ce as bs p i = k)) : (zq_stp ops xs as bs p i s c).2 k = c k := by
  rcases zq_ok_ops ops xs as bs hok with e | e | e | e | e | e
  · rw [zq_s0 ops xs as bs e]
  · rw [zq_s1 ops xs as bs e]
  · rw [zq_s2 ops xs as bs e]; exact pk_un (fun z => h ⟨e, z.symm⟩)
  · rw [zq_s3 ops xs as bs e]
  · rw [zq_s4 ops xs as bs e]
  · rw [zq_s5 ops xs as bs e]
theorem zq_ce_lt {r p i : Nat} (hok : zq_ok ops xs as bs r p) (ht : zq_tou ops p) (hi : i < r) : zq_ce as bs p i < 16 ∧ as p * nI i + bs p = nI (zq_ce as bs p i) := by
  obtain ⟨c, hc, e⟩ := hok.2.2.1 ht i hi
  have z : zq_ce as bs p i = c := by unfold zq_ce; rw [e]; exact nI_clamp (by omega)
  rw [z]; exact ⟨hc, e⟩
end
