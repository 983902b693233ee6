/-! numbers, and summaries of a range of statements -/
theorem zq_in4 {x : Int32} {n : Nat} (hn : n < 2 ^ 31) (h0 : ¬ x < 0) (h1 : x < nI n) : ∃ j, j < n ∧ x = nI j := by
  rcases pk_ix x hn with h | h | h
  · exact absurd h h0
  · exact absurd h1 (Int32.not_lt.mpr h)
  · exact h

theorem zq_lin {a b : Int32} {i : Nat} (ha1 : -2 ≤ a) (ha2 : a ≤ 2) (hb0 : 0 ≤ b) (hb1 : b ≤ 15) (hi : i < 8) : (a * nI i + b).toInt = a.toInt * (i : Int) + b.toInt := by
  rw [Int32.le_iff_toInt_le] at ha1 ha2 hb0 hb1
  rw [show (-2 : Int32).toInt = -2 from by decide] at ha1
  rw [show (2 : Int32).toInt = 2 from by decide] at ha2
  rw [show (0 : Int32).toInt = 0 from by decide] at hb0
  rw [show (15 : Int32).toInt = 15 from by decide] at hb1
  have hm : (a * nI i).toInt = a.toInt * (i : Int) := by
    rw [Int32.toInt_mul, nI_toInt (by omega)]
    have h5 : a.toInt = -2 ∨ a.toInt = -1 ∨ a.toInt = 0 ∨ a.toInt = 1 ∨ a.toInt = 2 := by omega
    apply Int.bmod_eq_of_le
    · rcases h5 with e | e | e | e | e <;> rw [e] <;> omega
    · rcases h5 with e | e | e | e | e <;> rw [e] <;> omega
  rw [Int32.toInt_add, hm]
  have h5 : a.toInt = -2 ∨ a.toInt = -1 ∨ a.toInt = 0 ∨ a.toInt = 1 ∨ a.toInt = 2 := by omega
  apply Int.bmod_eq_of_le
  · rcases h5 with e | e | e | e | e <;> rw [e] <;> omega
  · rcases h5 with e | e | e | e | e <;> rw [e] <;> omega

/-- in the cells at the last iteration: in the cells at every one -/
theorem zq_last {a b : Int32} {r : Nat} (ha1 : -2 ≤ a) (ha2 : a ≤ 2) (hb0 : 0 ≤ b) (hb1 : b ≤ 15) (hr : 0 < r) (hr8 : r ≤ 8)
    (h0 : 0 ≤ a * nI (r - 1) + b) (h1 : a * nI (r - 1) + b ≤ 15) {i : Nat} (hi : i < r) : 0 ≤ a * nI i + b ∧ a * nI i + b ≤ 15 := by
  have e1 := zq_lin (i := r - 1) ha1 ha2 hb0 hb1 (by omega)
  have e2 := zq_lin (i := i) ha1 ha2 hb0 hb1 (by omega)
  rw [Int32.le_iff_toInt_le] at ha1 ha2 hb0 hb1 h0 h1
  rw [Int32.le_iff_toInt_le, Int32.le_iff_toInt_le, e2]
  rw [e1] at h0 h1
  rw [show (-2 : Int32).toInt = -2 from by decide] at ha1
  rw [show (2 : Int32).toInt = 2 from by decide] at ha2
  rw [show (0 : Int32).toInt = 0 from by decide] at hb0 h0
  rw [show (15 : Int32).toInt = 15 from by decide] at hb1 h1
  rw [show (0 : Int32).toInt = 0 from by decide, show (15 : Int32).toInt = 15 from by decide]
  have hc : ((r - 1 : Nat) : Int) = (r : Int) - 1 := by omega
  rw [hc] at h0 h1
  have h5 : a.toInt = -2 ∨ a.toInt = -1 ∨ a.toInt = 0 ∨ a.toInt = 1 ∨ a.toInt = 2 := by omega
  rcases h5 with e | e | e | e | e <;> rw [e] at h0 h1 <;> rw [e] <;> constructor <;> omega

theorem zq_cell15 {x : Int32} (h0 : 0 ≤ x) (h1 : x ≤ 15) : ∃ c, c < 16 ∧ x = nI c := by
  obtain ⟨j, hj, e⟩ := nI_of2 (M := 15) (n := 15) (by decide) (Int32.not_lt.mpr h0) h1
  exact ⟨j, by omega, e⟩

def zq_all (a b : Nat) (P : Nat → Prop) (v : Int32) : Prop := (v = 1 ∧ ∀ q, a ≤ q → q < b → P q) ∨ (v = 0 ∧ ∃ q, a ≤ q ∧ q < b ∧ ¬ P q)
theorem zq_all_e {a : Nat} {P : Nat → Prop} : zq_all a a P 1 := Or.inl ⟨rfl, fun q h1 h2 => by omega⟩
theorem zq_all_rt {a b : Nat} {P : Nat → Prop} {v : Int32} (h : zq_all a b P v) (hp : P b) : zq_all a (b + 1) P v := by
  rcases h with ⟨e, h⟩ | ⟨e, q, h1, h2, h3⟩
  · refine Or.inl ⟨e, fun q h1 h2 => ?_⟩
    by_cases hq : q = b
    · rw [hq]; exact hp
    · exact h q h1 (by omega)
  · exact Or.inr ⟨e, q, h1, by omega, h3⟩
theorem zq_all_rf {a b : Nat} {P : Nat → Prop} (hab : a ≤ b) (hp : ¬ P b) : zq_all a (b + 1) P 0 := Or.inr ⟨rfl, b, hab, by omega, hp⟩
theorem zq_all_lt {a b : Nat} {P : Nat → Prop} {v : Int32} (h : zq_all (a + 1) b P v) (hp : P a) : zq_all a b P v := by
  rcases h with ⟨e, h⟩ | ⟨e, q, h1, h2, h3⟩
  · refine Or.inl ⟨e, fun q h1 h2 => ?_⟩
    by_cases hq : q = a
    · rw [hq]; exact hp
    · exact h q (by omega) h2
  · exact Or.inr ⟨e, q, by omega, h2, h3⟩
theorem zq_all_lf {a b : Nat} {P : Nat → Prop} (hab : a < b) (hp : ¬ P a) : zq_all a b P 0 := Or.inr ⟨rfl, a, Nat.le_refl a, hab, hp⟩
theorem zq_all_01 {a b : Nat} {P : Nat → Prop} {v : Int32} (h : zq_all a b P v) : v = 0 ∨ v = 1 := h.elim (fun z => Or.inr z.1) (fun z => Or.inl z.1)
theorem zq_all_0 {b : Nat} {P : Nat → Prop} (h : zq_all 0 b P 0) : ¬ ∀ q, q < b → P q := by
  rcases h with ⟨e, _⟩ | ⟨_, q, _, h2, h3⟩
  · exact absurd e (by decide)
  · exact fun z => h3 (z q h2)
theorem zq_all_1 {b : Nat} {P : Nat → Prop} (h : zq_all 0 b P 1) : ∀ q, q < b → P q := by
  rcases h with ⟨_, h⟩ | ⟨e, _⟩
  · exact fun q hq => h q (Nat.zero_le q) hq
  · exact absurd e (by decide)

section
variable (ops xs as bs : Nat → Int32)
/-- the first of the statements a .. b - 1 that mentions x -/
def zq_firs (a b x : Nat) (g : Option Nat) : Prop := (g = none ∧ ∀ q, a ≤ q → q < b → ¬ zq_ment ops xs as q x) ∨ ∃ f, g = some f ∧ a ≤ f ∧ f < b ∧ zq_ment ops xs as f x ∧ ∀ q, a ≤ q → q < f → ¬ zq_ment ops xs as q x
theorem zq_firs_e {a x : Nat} : zq_firs ops xs as a a x none := Or.inl ⟨rfl, fun q h1 h2 => by omega⟩
theorem zq_firs_rn {a b x : Nat} {g : Option Nat} (h : zq_firs ops xs as a b x g) (hn : ¬ zq_ment ops xs as b x) : zq_firs ops xs as a (b + 1) x g := by
  rcases h with ⟨e, h⟩ | ⟨f, e, h1, h2, h3, h4⟩
  · refine Or.inl ⟨e, fun q h1 h2 => ?_⟩
    by_cases hq : q = b
    · rw [hq]; exact hn
    · exact h q h1 (by omega)
  · exact Or.inr ⟨f, e, h1, by omega, h3, h4⟩
theorem zq_firs_r0 {a b x : Nat} (hab : a ≤ b) (h : zq_firs ops xs as a b x none) (hn : zq_ment ops xs as b x) : zq_firs ops xs as a (b + 1) x (some b) := by
  rcases h with ⟨e, h⟩ | ⟨f, e, _⟩
  · exact Or.inr ⟨b, rfl, hab, by omega, hn, h⟩
  · exact nomatch e
theorem zq_firs_rs {a b f x : Nat} (h : zq_firs ops xs as a b x (some f)) : zq_firs ops xs as a (b + 1) x (some f) := by
  rcases h with ⟨e, h⟩ | ⟨f, e, h1, h2, h3, h4⟩
  · exact nomatch e
  · exact Or.inr ⟨f, e, h1, by omega, h3, h4⟩
theorem zq_firs_ln {a b x : Nat} {g : Option Nat} (h : zq_firs ops xs as (a + 1) b x g) (hn : ¬ zq_ment ops xs as a x) : zq_firs ops xs as a b x g := by
  have hh : ∀ c, (∀ q, a + 1 ≤ q → q < c → ¬ zq_ment ops xs as q x) → ∀ q, a ≤ q → q < c → ¬ zq_ment ops xs as q x := by
    intro c h q h1 h2
    by_cases hq : q = a
    · rw [hq]; exact hn
    · exact h q (by omega) h2
  rcases h with ⟨e, h⟩ | ⟨f, e, h1, h2, h3, h4⟩
  · exact Or.inl ⟨e, hh b h⟩
  · exact Or.inr ⟨f, e, by omega, h2, h3, hh f h4⟩
theorem zq_firs_lm {a b x : Nat} (hab : a < b) (hn : zq_ment ops xs as a x) : zq_firs ops xs as a b x (some a) := Or.inr ⟨a, rfl, Nat.le_refl a, hab, hn, fun q h1 h2 => by omega⟩

theorem zq_rol_0 {m x : Nat} (h : zq_firs ops xs as 0 m x none) : zq_rol ops xs as m x = 0 := by
  rcases h with ⟨_, h⟩ | ⟨f, e, _⟩
  · unfold zq_rol
    exact zq_ite_t (fun p hp => h p (Nat.zero_le p) hp)
  · exact nomatch e
theorem zq_rol_1 {m f x : Nat} (h : zq_firs ops xs as 0 m x (some f)) (h1 : ∀ p, p < m → ¬ zq_chg ops xs p x) : zq_rol ops xs as m x = 1 := by
  rcases h with ⟨e, _⟩ | ⟨f, e, _, h2, h3, h4⟩
  · exact nomatch e
  · unfold zq_rol
    rw [zq_ite_f (fun z => z f h2 h3), zq_ite_t h1]
theorem zq_rol_2 {m f x : Nat} (h : zq_firs ops xs as 0 m x (some f)) (h1 : ¬ ∀ p, p < m → ¬ zq_chg ops xs p x) (h0 : ops f = 0 ∨ ops f = 1) : zq_rol ops xs as m x = 2 := by
  rcases h with ⟨e, _⟩ | ⟨f', e, _, h2, h3, h4⟩
  · exact nomatch e
  · cases e
    unfold zq_rol
    rw [zq_ite_f (fun z => z f h2 h3), zq_ite_f h1, zq_ite_t ⟨f, h2, h3, fun q hq => h4 q (Nat.zero_le q) hq, h0⟩]
theorem zq_rol_n2 {m f x : Nat} (h : zq_firs ops xs as 0 m x (some f)) (h0 : ¬ ops f = 0) (h1 : ¬ ops f = 1) : ¬ zq_fst ops xs as m x := by
  rcases h with ⟨e, _⟩ | ⟨f', e, _, h2, h3, h4⟩
  · exact nomatch e
  · cases e
    intro z
    obtain ⟨g, _, b, c, d⟩ := z
    rcases Nat.lt_trichotomy f g with l | l | l
    · exact c f l h3
    · rw [← l] at d
      exact d.elim h0 h1
    · exact h4 g (Nat.zero_le g) l b
theorem zq_rol_m {m f x : Nat} (h : zq_firs ops xs as 0 m x (some f)) : ¬ ∀ p, p < m → ¬ zq_ment ops xs as p x := by
  rcases h with ⟨e, _⟩ | ⟨f', e, _, h2, h3, h4⟩
  · exact nomatch e
  · exact fun z => z f' h2 h3
theorem zq_rol_3 {m f x : Nat} (h : zq_firs ops xs as 0 m x (some f)) (h1 : ¬ ∀ p, p < m → ¬ zq_chg ops xs p x) (h0 : ¬ ops f = 0) (h01 : ¬ ops f = 1)
    (h3 : ∀ p, p < m → zq_ment ops xs as p x → zq_adds ops xs as p x) : zq_rol ops xs as m x = 3 := by
  unfold zq_rol
  rw [zq_ite_f (zq_rol_m ops xs as h), zq_ite_f h1, zq_ite_f (zq_rol_n2 ops xs as h h0 h01), zq_ite_t h3]
theorem zq_rol_4 {m f x : Nat} (h : zq_firs ops xs as 0 m x (some f)) (h1 : ¬ ∀ p, p < m → ¬ zq_chg ops xs p x) (h0 : ¬ ops f = 0) (h01 : ¬ ops f = 1)
    (h3 : ¬ ∀ p, p < m → zq_ment ops xs as p x → zq_adds ops xs as p x) (h4 : ∀ p, p < m → zq_ment ops xs as p x → zq_lows ops xs as p x) : zq_rol ops xs as m x = 4 := by
  unfold zq_rol
  rw [zq_ite_f (zq_rol_m ops xs as h), zq_ite_f h1, zq_ite_f (zq_rol_n2 ops xs as h h0 h01), zq_ite_f h3, zq_ite_t h4]
theorem zq_rol_5 {m f x : Nat} (h : zq_firs ops xs as 0 m x (some f)) (h1 : ¬ ∀ p, p < m → ¬ zq_chg ops xs p x) (h0 : ¬ ops f = 0) (h01 : ¬ ops f = 1)
    (h3 : ¬ ∀ p, p < m → zq_ment ops xs as p x → zq_adds ops xs as p x) (h4 : ¬ ∀ p, p < m → zq_ment ops xs as p x → zq_lows ops xs as p x) : zq_rol ops xs as m x = 5 := by
  unfold zq_rol
  rw [zq_ite_f (zq_rol_m ops xs as h), zq_ite_f h1, zq_ite_f (zq_rol_n2 ops xs as h h0 h01), zq_ite_f h3, zq_ite_f h4]
end
