section
theorem pk_us {f : Nat → Int32} {k : Nat} {x : Int32} : upd f k x k = x := if_pos rfl
theorem pk_un {f : Nat → Int32} {k j : Nat} {x : Int32} (h : j ≠ k) : upd f k x j = f j := if_neg h
theorem pk_sub {a b : Nat} (h : b ≤ a) : nI a - nI b = nI (a - b) := by
  obtain ⟨c, rfl⟩ : ∃ c, a = c + b := ⟨a - b, by omega⟩
  rw [← nI_add, Int32.add_sub_cancel, Nat.add_sub_cancel]
theorem pk_m1 (n : Nat) : nI (n + 1) + (-1) = nI n := by
  rw [← nI_1, Int32.add_assoc, show (1 : Int32) + (-1) = 0 from rfl, Int32.add_zero]
theorem pk_mul (a b : Nat) : nI a * nI b = nI (a * b) := (Int32.ofNat_mul a b).symm
theorem pk_div {a d : Nat} (ha : a < 2 ^ 31) (h0 : 0 < d) (hd : d < 2 ^ 31) : nI a / nI d = nI (a / d) := by
  apply Int32.toInt_inj.mp
  rw [lg_idiv_nonneg (by rw [nI_toInt ha]; omega) (by rw [nI_toInt hd]; omega), nI_toInt ha, nI_toInt hd, nI_toInt (Nat.lt_of_le_of_lt (Nat.div_le_self a d) ha)]
  first | rfl | exact (Int.natCast_ediv _ _).symm
theorem pk_ix (x : Int32) {n : Nat} (hn : n < 2 ^ 31) : x < 0 ∨ nI n ≤ x ∨ ∃ j : Nat, j < n ∧ x = nI j := by
  by_cases h : x < 0
  · exact Or.inl h
  · obtain ⟨j, hj, rfl⟩ := nI_of h
    by_cases h2 : j < n
    · exact Or.inr (Or.inr ⟨j, h2, rfl⟩)
    · exact Or.inr (Or.inl (nI_le (by omega) hj))
theorem pk_le {x y : Int32} {A B : Prop} (a b : Nat) (f : a ≤ b → A) (g : b < a → B) (hx : x = nI a := by rfl) (hy : y = nI b := by rfl) (ha : a < 2 ^ 31 := by omega) (hb : b < 2 ^ 31 := by omega) : (x ≤ y → A) ∧ (¬ x ≤ y → B) := by
  subst hx hy
  rw [nI_leI ha hb]
  exact ⟨f, fun z => g (by omega)⟩
theorem pk_lt {x y : Int32} {A B : Prop} (a b : Nat) (f : a < b → A) (g : b ≤ a → B) (hx : x = nI a := by rfl) (hy : y = nI b := by rfl) (ha : a < 2 ^ 31 := by omega) (hb : b < 2 ^ 31 := by omega) : (x < y → A) ∧ (¬ x < y → B) := by
  subst hx hy
  rw [nI_ltI ha hb]
  exact ⟨f, fun z => g (by omega)⟩
theorem pk_eq {x y : Int32} {A B : Prop} (a b : Nat) (f : a = b → A) (g : a ≠ b → B) (hx : x = nI a := by rfl) (hy : y = nI b := by rfl) (ha : a < 2 ^ 31 := by omega) (hb : b < 2 ^ 31 := by omega) : (x = y → A) ∧ (¬ x = y → B) := by
  subst hx hy
  rw [nI_eq ha hb]
  exact ⟨f, g⟩
theorem pk_in {x : Int32} (n N : Nat) (h : n < N) (hx : x = nI n := by rfl) (hN : N < 2 ^ 31 := by omega) : vp_in x N := by
  subst hx
  exact vp_in_nI h hN
theorem pk_cl {x : Int32} (n : Nat) (hx : x = nI n := by rfl) (h : n < 2 ^ 31 := by omega) : x.toNatClampNeg = n := by
  subst hx
  exact nI_clamp h
theorem pk_tn {n : Nat} (h : n < 2 ^ 32) : (nI n).toBitVec.toNat = n := Nat.mod_eq_of_lt h
theorem pk_and (x : Int32) {m : Int32} (k : Nat) (hm : m.toBitVec.toNat = 2 ^ k - 1) : x &&& m = nI (x.toBitVec.toNat % 2 ^ k) := by
  apply Int32.toBitVec_inj.mp
  apply BitVec.eq_of_toNat_eq
  rw [Int32.toBitVec_and, BitVec.toNat_and, hm, Nat.and_two_pow_sub_one_eq_mod]
  show _ = (BitVec.ofNat 32 _).toNat
  rw [BitVec.toNat_ofNat]
  exact (Nat.mod_eq_of_lt (Nat.lt_of_le_of_lt (Nat.mod_le _ _) x.toBitVec.isLt)).symm
theorem pk_andN {n : Nat} (h : n < 2 ^ 32) {m : Int32} (k : Nat) (hm : m.toBitVec.toNat = 2 ^ k - 1) : nI n &&& m = nI (n % 2 ^ k) := by
  rw [pk_and _ k hm, pk_tn h]
theorem pk_loop {σ : Type} (W : Nat → Nat → σ → Prop) (I : Nat → σ → Prop) (e i0 : Nat) (s : σ) (hi : i0 ≤ e) (h0 : I i0 s) (hx : ∀ n s, I e s → W (n + 1) e s)
    (hs : ∀ n i s, i < e → I i s → (∀ s', I (i + 1) s' → W n (i + 1) s') → W (n + 1) i s) : ∃ n, W n i0 s :=
  ⟨e + 1, loop_i W I e hx hs (e + 1) i0 s hi (by omega) h0⟩
theorem pk_loopD {σ : Type} (W : Nat → Nat → σ → Prop) (I : Nat → σ → Prop) (hx : ∀ n s, I 0 s → W (n + 1) 0 s)
    (hs : ∀ n i s, I (i + 1) s → (∀ s', I i s' → W n i s') → W (n + 1) (i + 1) s) : ∀ (e : Nat) (s : σ), I e s → W (e + 1) e s := by
  intro e
  induction e with
  | zero => exact fun s h => hx 0 s h
  | succ e ih => exact fun s h => hs (e + 1) e s h (fun s' h' => ih s' h')
theorem ek_if {c d A B : Prop} (e : c ↔ d) (f : d → A) (g : ¬ d → B) : (c → A) ∧ (¬ c → B) :=
  ⟨fun z => f (e.mp z), fun z => g (fun y => z (e.mpr y))⟩
theorem ek_v {α : Sort _} {P : α → Prop} {a b : α} (e : a = b) (h : P b) : P a := e ▸ h
end
section
/-! the body, its roles, its clashes, as pure facts -/
section
variable (ops xs as bs : Nat → Int32)

def zq_ment (p x : Nat) : Prop := xs p = nI x ∨ ((ops p = 3 ∨ ops p = 4) ∧ as p = nI x)
def zq_chg (p x : Nat) : Prop := xs p = nI x ∧ ¬ ops p = 2
def zq_adds (p x : Nat) : Prop := xs p = nI x ∧ (ops p = 5 ∨ (ops p = 3 ∧ ¬ as p = nI x))
def zq_lows (p x : Nat) : Prop := xs p = nI x ∧ ops p = 4 ∧ ¬ as p = nI x
def zq_fst (m x : Nat) : Prop := ∃ f, f < m ∧ zq_ment ops xs as f x ∧ (∀ q, q < f → ¬ zq_ment ops xs as q x) ∧ (ops f = 0 ∨ ops f = 1)
noncomputable def zq_ite (c : Prop) (a b : Int32) : Int32 := @ite Int32 c (Classical.propDecidable c) a b
theorem zq_ite_t {c : Prop} {a b : Int32} (h : c) : zq_ite c a b = a := by unfold zq_ite; exact if_pos h
theorem zq_ite_f {c : Prop} {a b : Int32} (h : ¬ c) : zq_ite c a b = b := by unfold zq_ite; exact if_neg h
noncomputable def zq_rol (m x : Nat) : Int32 :=
  zq_ite (∀ p, p < m → ¬ zq_ment ops xs as p x) 0
  (zq_ite (∀ p, p < m → ¬ zq_chg ops xs p x) 1
  (zq_ite (zq_fst ops xs as m x) 2
  (zq_ite (∀ p, p < m → zq_ment ops xs as p x → zq_adds ops xs as p x) 3
  (zq_ite (∀ p, p < m → zq_ment ops xs as p x → zq_lows ops xs as p x) 4 5))))

theorem zq_rol_all (m x : Nat) :
    (zq_rol ops xs as m x = 0 ∧ ∀ p, p < m → ¬ zq_chg ops xs p x) ∨
    (zq_rol ops xs as m x = 1 ∧ ∀ p, p < m → ¬ zq_chg ops xs p x) ∨
    (zq_rol ops xs as m x = 2 ∧ zq_fst ops xs as m x) ∨
    (zq_rol ops xs as m x = 3 ∧ ∀ p, p < m → zq_ment ops xs as p x → zq_adds ops xs as p x) ∨
    (zq_rol ops xs as m x = 4 ∧ ∀ p, p < m → zq_ment ops xs as p x → zq_lows ops xs as p x) ∨
    zq_rol ops xs as m x = 5 := by
  unfold zq_rol
  by_cases h0 : ∀ p, p < m → ¬ zq_ment ops xs as p x
  · exact Or.inl ⟨zq_ite_t h0, fun p hp hc => h0 p hp (Or.inl hc.1)⟩
  rw [zq_ite_f h0]
  by_cases h1 : ∀ p, p < m → ¬ zq_chg ops xs p x
  · exact Or.inr (Or.inl ⟨zq_ite_t h1, h1⟩)
  rw [zq_ite_f h1]
  by_cases h2 : zq_fst ops xs as m x
  · exact Or.inr (Or.inr (Or.inl ⟨zq_ite_t h2, h2⟩))
  rw [zq_ite_f h2]
  by_cases h3 : ∀ p, p < m → zq_ment ops xs as p x → zq_adds ops xs as p x
  · exact Or.inr (Or.inr (Or.inr (Or.inl ⟨zq_ite_t h3, h3⟩)))
  rw [zq_ite_f h3]
  by_cases h4 : ∀ p, p < m → zq_ment ops xs as p x → zq_lows ops xs as p x
  · exact Or.inr (Or.inr (Or.inr (Or.inr (Or.inl ⟨zq_ite_t h4, h4⟩))))
  rw [zq_ite_f h4]
  exact Or.inr (Or.inr (Or.inr (Or.inr (Or.inr rfl))))

theorem zq_r01 {m x : Nat} (h : zq_rol ops xs as m x = 0 ∨ zq_rol ops xs as m x = 1) : ∀ p, p < m → ¬ zq_chg ops xs p x := by
  rcases zq_rol_all ops xs as m x with ⟨_, k⟩ | ⟨_, k⟩ | ⟨e, _⟩ | ⟨e, _⟩ | ⟨e, _⟩ | e
  · exact k
  · exact k
  all_goals (rw [e] at h; exact absurd h (by decide))
theorem zq_r2 {m x : Nat} (h : zq_rol ops xs as m x = 2) : zq_fst ops xs as m x := by
  rcases zq_rol_all ops xs as m x with ⟨e, _⟩ | ⟨e, _⟩ | ⟨_, k⟩ | ⟨e, _⟩ | ⟨e, _⟩ | e
  all_goals first | exact k | (rw [e] at h; exact absurd h (by decide))
theorem zq_r3 {m x : Nat} (h : zq_rol ops xs as m x = 3) : ∀ p, p < m → zq_ment ops xs as p x → zq_adds ops xs as p x := by
  rcases zq_rol_all ops xs as m x with ⟨e, _⟩ | ⟨e, _⟩ | ⟨e, _⟩ | ⟨_, k⟩ | ⟨e, _⟩ | e
  all_goals first | exact k | (rw [e] at h; exact absurd h (by decide))
theorem zq_r4 {m x : Nat} (h : zq_rol ops xs as m x = 4) : ∀ p, p < m → zq_ment ops xs as p x → zq_lows ops xs as p x := by
  rcases zq_rol_all ops xs as m x with ⟨e, _⟩ | ⟨e, _⟩ | ⟨e, _⟩ | ⟨e, _⟩ | ⟨_, k⟩ | e
  all_goals first | exact k | (rw [e] at h; exact absurd h (by decide))
theorem zq_r_in (m x : Nat) : zq_rol ops xs as m x = 0 ∨ zq_rol ops xs as m x = 1 ∨ zq_rol ops xs as m x = 2 ∨ zq_rol ops xs as m x = 3 ∨ zq_rol ops xs as m x = 4 ∨ zq_rol ops xs as m x = 5 := by
  rcases zq_rol_all ops xs as m x with ⟨e, _⟩ | ⟨e, _⟩ | ⟨e, _⟩ | ⟨e, _⟩ | ⟨e, _⟩ | e
  · exact Or.inl e
  · exact Or.inr (Or.inl e)
  · exact Or.inr (Or.inr (Or.inl e))
  · exact Or.inr (Or.inr (Or.inr (Or.inl e)))
  · exact Or.inr (Or.inr (Or.inr (Or.inr (Or.inl e))))
  · exact Or.inr (Or.inr (Or.inr (Or.inr (Or.inr e))))

def zq_tou (p : Nat) : Prop := ops p = 1 ∨ ops p = 2
def zq_meet (r p q : Nat) : Prop := ∃ i j, i < r ∧ j < r ∧ i ≠ j ∧ as p * nI i + bs p = as q * nI j + bs q
def zq_cla (r p q : Nat) : Prop := zq_tou ops p ∧ zq_tou ops q ∧ (ops p = 2 ∨ ops q = 2) ∧ zq_meet as bs r p q
theorem zq_cla_s {r p q : Nat} (h : zq_cla ops as bs r p q) : zq_cla ops as bs r q p := by
  obtain ⟨a, b, c, i, j, hi, hj, hn, e⟩ := h
  exact ⟨b, a, c.symm, j, i, hj, hi, fun z => hn z.symm, e.symm⟩
def zq_par (m r : Nat) : Prop := (∀ x, x < 4 → ¬ zq_rol ops xs as m x = 5) ∧ ∀ p q, p < m → q < m → ¬ zq_cla ops as bs r p q

/-- a valid statement -/
def zq_ok (r p : Nat) : Prop := (∃ o, o < 6 ∧ ops p = nI o) ∧ (∃ x, x < 4 ∧ xs p = nI x) ∧
  (zq_tou ops p → ∀ i, i < r → ∃ c, c < 16 ∧ as p * nI i + bs p = nI c) ∧
  ((ops p = 3 ∨ ops p = 4) → ∃ a, a < 4 ∧ as p = nI a)

theorem zq_ok_ops {r p : Nat} (h : zq_ok ops xs as bs r p) : ops p = 0 ∨ ops p = 1 ∨ ops p = 2 ∨ ops p = 3 ∨ ops p = 4 ∨ ops p = 5 := by
  obtain ⟨⟨o, ho, e⟩, _⟩ := h
  have h6 : o = 0 ∨ o = 1 ∨ o = 2 ∨ o = 3 ∨ o = 4 ∨ o = 5 := by omega
  rcases h6 with rfl | rfl | rfl | rfl | rfl | rfl
  · exact Or.inl e
  · exact Or.inr (Or.inl e)
  · exact Or.inr (Or.inr (Or.inl e))
  · exact Or.inr (Or.inr (Or.inr (Or.inl e)))
  · exact Or.inr (Or.inr (Or.inr (Or.inr (Or.inl e))))
  · exact Or.inr (Or.inr (Or.inr (Or.inr (Or.inr e))))

/-- one statement carried out -/
def zq_min (u v : Int32) : Int32 := if u < v then u else v
def zq_ce (p i : Nat) : Nat := (as p * nI i + bs p).toNatClampNeg
def zq_stp (p i : Nat) (s c : Nat → Int32) : (Nat → Int32) × (Nat → Int32) :=
  if ops p = 0 then (upd s (xs p).toNatClampNeg (as p), c)
  else if ops p = 1 then (upd s (xs p).toNatClampNeg (c (zq_ce as bs p i)), c)
  else if ops p = 2 then (s, upd c (zq_ce as bs p i) (s (xs p).toNatClampNeg))
  else if ops p = 3 then (upd s (xs p).toNatClampNeg (s (xs p).toNatClampNeg + s (as p).toNatClampNeg), c)
  else if ops p = 4 then (upd s (xs p).toNatClampNeg (zq_min (s (xs p).toNatClampNeg) (s (as p).toNatClampNeg)), c)
  else (upd s (xs p).toNatClampNeg (s (xs p).toNatClampNeg + nI i), c)
theorem zq_s0 {p i : Nat} {s c : Nat → Int32} (h : ops p = 0) : zq_stp ops xs as bs p i s c = (upd s (xs p).toNatClampNeg (as p), c) := by
  unfold zq_stp; rw [if_pos h]
theorem zq_s1 {p i : Nat} {s c : Nat → Int32} (h : ops p = 1) : zq_stp ops xs as bs p i s c = (upd s (xs p).toNatClampNeg (c (zq_ce as bs p i)), c) := by
  unfold zq_stp; rw [if_neg (by rw [h]; decide), if_pos h]
theorem zq_s2 {p i : Nat} {s c : Nat → Int32} (h : ops p = 2) : zq_stp ops xs as bs p i s c = (s, upd c (zq_ce as bs p i) (s (xs p).toNatClampNeg)) := by
  unfold zq_stp; rw [if_neg (by rw [h]; decide), if_neg (by rw [h]; decide), if_pos h]
theorem zq_s3 {p i : Nat} {s c : Nat → Int32} (h : ops p = 3) : zq_stp ops xs as bs p i s c = (upd s (xs p).toNatClampNeg (s (xs p).toNatClampNeg + s (as p).toNatClampNeg), c) := by
  unfold zq_stp; rw [if_neg (by rw [h]; decide), if_neg (by rw [h]; decide), if_neg (by rw [h]; decide), if_pos h]
theorem zq_s4 {p i : Nat} {s c : Nat → Int32} (h : ops p = 4) : zq_stp ops xs as bs p i s c = (upd s (xs p).toNatClampNeg (zq_min (s (xs p).toNatClampNeg) (s (as p).toNatClampNeg)), c) := by
  unfold zq_stp; rw [if_neg (by rw [h]; decide), if_neg (by rw [h]; decide), if_neg (by rw [h]; decide), if_neg (by rw [h]; decide), if_pos h]
theorem zq_s5 {p i : Nat} {s c : Nat → Int32} (h : ops p = 5) : zq_stp ops xs as bs p i s c = (upd s (xs p).toNatClampNeg (s (xs p).toNatClampNeg + nI i), c) := by
  unfold zq_stp; rw [if_neg (by rw [h]; decide), if_neg (by rw [h]; decide), if_neg (by rw [h]; decide), if_neg (by rw [h]; decide), if_neg (by rw [h]; decide)]

theorem zq_min_as (a b c : Int32) : zq_min (zq_min a b) c = zq_min a (zq_min b c) := by
  unfold zq_min
  by_cases h1 : a < b <;> by_cases h2 : b < c <;> by_cases h3 : a < c <;> simp only [h1, h2, h3, if_true, if_false]
  all_goals (simp only [Int32.lt_iff_toInt_lt] at h1 h2 h3; first | rfl | omega | (apply Int32.toInt_inj.mp; omega))
theorem zq_min_le {a b : Int32} (h : a ≤ b) : zq_min a b = a := by
  unfold zq_min
  by_cases h1 : a < b
  · exact if_pos h1
  · rw [if_neg h1]
    exact Int32.le_antisymm (Int32.not_lt.mp h1) h
theorem zq_min_ll (a b : Int32) : zq_min a b ≤ a := by
  unfold zq_min
  by_cases h1 : a < b
  · rw [if_pos h1]; exact Int32.le_refl a
  · rw [if_neg h1]; exact Int32.not_lt.mp h1
theorem zq_min_c (a b : Int32) : zq_min a b = (if b < a then b else a) := by
  unfold zq_min
  by_cases h1 : a < b <;> by_cases h2 : b < a <;> simp only [h1, h2, if_true, if_false]
  all_goals (simp only [Int32.lt_iff_toInt_lt] at h1 h2; first | rfl | omega | (apply Int32.toInt_inj.mp; omega))

/-- what a statement leaves alone -/
theorem zq_keep_s {r p i x : Nat} {s c : Nat → Int32} (hok : zq_ok ops xs as bs r p) (hx : x < 4) (h : ¬ zq_chg ops xs p x) : (zq_stp ops xs as bs p i s c).1 x = s x := by
  have hops := zq_ok_ops ops xs as bs hok
  obtain ⟨_, ⟨X, hX, ex⟩, _⟩ := hok
  have cl : (xs p).toNatClampNeg = X := by rw [ex]; exact nI_clamp (by omega)
  by_cases h2 : ops p = 2
  · rw [zq_s2 ops xs as bs h2]
  · have hne : x ≠ X := fun e => h ⟨by rw [ex, e], h2⟩
    rcases hops with e | e | e | e | e | e
    · rw [zq_s0 ops xs as bs e, cl]; exact pk_un hne
    · rw [zq_s1 ops xs as bs e, cl]; exact pk_un hne
    · exact absurd e h2
    · rw [zq_s3 ops xs as bs e, cl]; exact pk_un hne
    · rw [zq_s4 ops xs as bs e, cl]; exact pk_un hne
    · rw [zq_s5 ops xs as bs e, cl]; exact pk_un hne
theorem zq_keep_hs {r p i x : Nat} {s c : Nat → Int32} (hok : zq_ok ops xs as bs r p) (hx : 4 ≤ x) : (zq_stp ops xs as bs p i s c).1 x = s x := by
  have hops := zq_ok_ops ops xs as bs hok
  obtain ⟨_, ⟨X, hX, ex⟩, _⟩ := hok
  have cl : (xs p).toNatClampNeg = X := by rw [ex]; exact nI_clamp (by omega)
  have hne : x ≠ X := by omega
  rcases hops with e | e | e | e | e | e
  · rw [zq_s0 ops xs as bs e, cl]; exact pk_un hne
  · rw [zq_s1 ops xs as bs e, cl]; exact pk_un hne
  · rw [zq_s2 ops xs as bs e]
  · rw [zq_s3 ops xs as bs e, cl]; exact pk_un hne
  · rw [zq_s4 ops xs as bs e, cl]; exact pk_un hne
  · rw [zq_s5 ops xs as bs e, cl]; exact pk_un hne
theorem zq_keep_c {r p i k : Nat} {s c : Nat → Int32} (hok : zq_ok ops xs as bs r p) (h : ¬ (ops p = 2 ∧ zq_ce as bs p i = k)) : (zq_stp ops xs as bs p i s c).2 k = c k := by
  rcases zq_ok_ops ops xs as bs hok with e | e | e | e | e | e
  · rw [zq_s0 ops xs as bs e]
  · rw [zq_s1 ops xs as bs e]
  · rw [zq_s2 ops xs as bs e]; exact pk_un (fun z => h ⟨e, z.symm⟩)
  · rw [zq_s3 ops xs as bs e]
  · rw [zq_s4 ops xs as bs e]
  · rw [zq_s5 ops xs as bs e]
theorem zq_ce_lt {r p i : Nat} (hok : zq_ok ops xs as bs r p) (ht : zq_tou ops p) (hi : i < r) : zq_ce as bs p i < 16 ∧ as p * nI i + bs p = nI (zq_ce as bs p i) := by
  obtain ⟨c, hc, e⟩ := hok.2.2.1 ht i hi
  have z : zq_ce as bs p i = c := by unfold zq_ce; rw [e]; exact nI_clamp (by omega)
  rw [z]; exact ⟨hc, e⟩
end
end
section
/-! a worker's own scalars against the plain loop's -/
section
variable (ops xs as bs : Nat → Int32)

def zq_S (m : Nat) (pb : Bool) (act : Prop) (H : Nat → Prop) (s0 sl st v : Nat → Int32) : Prop := ∀ x, x < 4 →
  (zq_rol ops xs as m x = 3 → v x - s0 x = st x - sl x) ∧
  (zq_rol ops xs as m x = 4 → zq_min (sl x) (v x) = st x) ∧
  (¬ zq_rol ops xs as m x = 3 → ¬ zq_rol ops xs as m x = 4 → act → (pb = true → zq_rol ops xs as m x = 2 → H x) → v x = st x)

theorem zq_add_l {a b c d e : Int32} (h : a - b = c - d) : a + e - b = c + e - d := by
  have h1 : a + e - b = (a - b) + e := by grind
  have h2 : c + e - d = (c - d) + e := by grind
  rw [h1, h2, h]

theorem zq_S_step {m r p i : Nat} {pb : Bool} {act : Prop} {H H' : Nat → Prop} {s0 sl st v rc kt : Nat → Int32}
    (hok : zq_ok ops xs as bs r p) (hp : p < m) (hact : act)
    (hread : ∀ y, y < 4 → zq_ment ops xs as p y → ¬ ops p = 0 → ¬ ops p = 1 → pb = true → zq_rol ops xs as m y = 2 → H y)
    (hld : ops p = 1 → rc (zq_ce as bs p i) = kt (zq_ce as bs p i))
    (hH : ∀ x, H' x → H x ∨ zq_ment ops xs as p x)
    (S : zq_S ops xs as m pb act H s0 sl st v) :
    zq_S ops xs as m pb act H' s0 sl (zq_stp ops xs as bs p i st kt).1 (zq_stp ops xs as bs p i v rc).1 ∧
    (ops p = 2 → v (xs p).toNatClampNeg = st (xs p).toNatClampNeg) := by
  have hops := zq_ok_ops ops xs as bs hok
  have hok' := hok
  obtain ⟨_, ⟨X, hX, ex⟩, _, hA⟩ := hok'
  have cl : (xs p).toNatClampNeg = X := by rw [ex]; exact nI_clamp (by omega)
  have mX : zq_ment ops xs as p X := Or.inl ex
  have rd : ∀ y, y < 4 → zq_ment ops xs as p y → ¬ ops p = 0 → ¬ ops p = 1 → ¬ zq_rol ops xs as m y = 3 → ¬ zq_rol ops xs as m y = 4 → v y = st y :=
    fun y hy hm h0 h1 h3 h4 => (S y hy).2.2 h3 h4 hact (hread y hy hm h0 h1)
  have n3 : ¬ ops p = 3 → ¬ ops p = 5 → ¬ zq_rol ops xs as m X = 3 := by
    intro a b z
    rcases (zq_r3 ops xs as z p hp mX).2 with c | c
    · exact b c
    · exact a c.1
  have n4 : ¬ ops p = 4 → ¬ zq_rol ops xs as m X = 4 := fun a z => a (zq_r4 ops xs as z p hp mX).2.1
  -- a scalar that the statement doesn't change
  have kp : ∀ x, x < 4 → ¬ zq_chg ops xs p x → (zq_ment ops xs as p x → ¬ ops p = 0 ∧ ¬ ops p = 1) →
      (zq_rol ops xs as m x = 3 → (zq_stp ops xs as bs p i v rc).1 x - s0 x = (zq_stp ops xs as bs p i st kt).1 x - sl x) ∧
      (zq_rol ops xs as m x = 4 → zq_min (sl x) ((zq_stp ops xs as bs p i v rc).1 x) = (zq_stp ops xs as bs p i st kt).1 x) ∧
      (¬ zq_rol ops xs as m x = 3 → ¬ zq_rol ops xs as m x = 4 → act → (pb = true → zq_rol ops xs as m x = 2 → H' x) → (zq_stp ops xs as bs p i v rc).1 x = (zq_stp ops xs as bs p i st kt).1 x) := by
    intro x hx hc hm
    rw [zq_keep_s ops xs as bs hok hx hc, zq_keep_s ops xs as bs hok hx hc]
    refine ⟨(S x hx).1, (S x hx).2.1, fun h3 h4 ha hH2 => ?_⟩
    by_cases pm : zq_ment ops xs as p x
    · exact rd x hx pm (hm pm).1 (hm pm).2 h3 h4
    · exact (S x hx).2.2 h3 h4 ha (fun a b => (hH x (hH2 a b)).resolve_right pm)
  -- a scalar other than X, mentioned: only by PLUS or LEAST
  have ot : ∀ x, x < 4 → x ≠ X → zq_ment ops xs as p x → ¬ ops p = 0 ∧ ¬ ops p = 1 := by
    intro x hx hne hm
    rcases hm with e | ⟨e, _⟩
    · exact absurd ((nI_eq (by omega) (by omega)).mp (ex.symm.trans e)).symm hne
    · rcases e with e | e <;> rw [e] <;> decide
  have oc : ∀ x, x < 4 → x ≠ X → ¬ zq_chg ops xs p x := fun x hx hne hc => hne ((nI_eq (by omega) (by omega)).mp (ex.symm.trans hc.1)).symm
  -- the scalar a of PLUS and LEAST
  have ra : (ops p = 3 ∨ ops p = 4) → v (as p).toNatClampNeg = st (as p).toNatClampNeg := by
    intro ho
    obtain ⟨a, ha, ea⟩ := hA ho
    have cla : (as p).toNatClampNeg = a := by rw [ea]; exact nI_clamp (by omega)
    have ma : zq_ment ops xs as p a := Or.inr ⟨ho, ea⟩
    rw [cla]
    refine rd a ha ma ?_ ?_ ?_ ?_
    · rcases ho with e | e <;> rw [e] <;> decide
    · rcases ho with e | e <;> rw [e] <;> decide
    · intro z
      rcases (zq_r3 ops xs as z p hp ma).2 with c | c
      · rcases ho with e | e <;> rw [e] at c <;> exact absurd c (by decide)
      · exact c.2 ea
    · intro z
      exact (zq_r4 ops xs as z p hp ma).2.2 ea
  constructor
  · intro x hx
    by_cases hxX : x = X
    · subst hxX
      rcases hops with e | e | e | e | e | e
      · have m3 := n3 (by rw [e]; decide) (by rw [e]; decide)
        have m4 := n4 (by rw [e]; decide)
        rw [zq_s0 ops xs as bs e, zq_s0 ops xs as bs e, cl]
        refine ⟨fun z => absurd z m3, fun z => absurd z m4, fun _ _ _ _ => ?_⟩
        show upd v x (as p) x = upd st x (as p) x
        rw [pk_us, pk_us]
      · have m3 := n3 (by rw [e]; decide) (by rw [e]; decide)
        have m4 := n4 (by rw [e]; decide)
        rw [zq_s1 ops xs as bs e, zq_s1 ops xs as bs e, cl]
        refine ⟨fun z => absurd z m3, fun z => absurd z m4, fun _ _ _ _ => ?_⟩
        show upd v x _ x = upd st x _ x
        rw [pk_us, pk_us]
        exact hld e
      · refine kp x hx (fun z => z.2 e) (fun _ => by rw [e]; decide)
      · have m4 := n4 (by rw [e]; decide)
        rw [zq_s3 ops xs as bs e, zq_s3 ops xs as bs e, cl]
        try dsimp only
        rw [pk_us, pk_us, ra (Or.inl e)]
        refine ⟨fun z => zq_add_l ((S x hx).1 z), fun z => absurd z m4, fun h3 h4 _ _ => ?_⟩
        rw [rd x hx mX (by rw [e]; decide) (by rw [e]; decide) h3 h4]
      · have m3 := n3 (by rw [e]; decide) (by rw [e]; decide)
        rw [zq_s4 ops xs as bs e, zq_s4 ops xs as bs e, cl]
        try dsimp only
        rw [pk_us, pk_us, ra (Or.inr e)]
        refine ⟨fun z => absurd z m3, fun z => ?_, fun h3 h4 _ _ => ?_⟩
        · rw [← zq_min_as, (S x hx).2.1 z]
        · rw [rd x hx mX (by rw [e]; decide) (by rw [e]; decide) h3 h4]
      · have m4 := n4 (by rw [e]; decide)
        rw [zq_s5 ops xs as bs e, zq_s5 ops xs as bs e, cl]
        try dsimp only
        rw [pk_us, pk_us]
        refine ⟨fun z => zq_add_l ((S x hx).1 z), fun z => absurd z m4, fun h3 h4 _ _ => ?_⟩
        rw [rd x hx mX (by rw [e]; decide) (by rw [e]; decide) h3 h4]
    · exact kp x hx (oc x hx hxX) (ot x hx hxX)
  · intro e
    rw [cl]
    exact rd X hX mX (by rw [e]; decide) (by rw [e]; decide) (n3 (by rw [e]; decide) (by rw [e]; decide)) (n4 (by rw [e]; decide))

/-- the plain loop, statement by statement -/
def zq_sq (m : Nat) (s0 c0 : Nat → Int32) : Nat → (Nat → Int32) × (Nat → Int32)
  | 0 => (s0, c0)
  | t + 1 => zq_stp ops xs as bs (t % m) (t / m) (zq_sq m s0 c0 t).1 (zq_sq m s0 c0 t).2

def zq_sto (m t k : Nat) : Prop := ops (t % m) = 2 ∧ zq_ce as bs (t % m) (t / m) = k

theorem zq_sq_hs {m r x : Nat} {s0 c0 : Nat → Int32} (hm : 0 < m) (hok : ∀ p, p < m → zq_ok ops xs as bs r p) (hx : 4 ≤ x) : ∀ t, (zq_sq ops xs as bs m s0 c0 t).1 x = s0 x
  | 0 => rfl
  | t + 1 => (zq_keep_hs ops xs as bs (hok _ (Nat.mod_lt t hm)) hx).trans (zq_sq_hs hm hok hx t)
theorem zq_sq_hc {m r k : Nat} {s0 c0 : Nat → Int32} (hm : 0 < m) (hok : ∀ p, p < m → zq_ok ops xs as bs r p) (hk : 16 ≤ k) : ∀ t, t ≤ r * m → (zq_sq ops xs as bs m s0 c0 t).2 k = c0 k
  | 0, _ => rfl
  | t + 1, ht => by
    refine (zq_keep_c ops xs as bs (hok _ (Nat.mod_lt t hm)) ?_).trans (zq_sq_hc hm hok hk t (by omega))
    intro z
    have hi : t / m < r := (Nat.div_lt_iff_lt_mul hm).mpr (by omega)
    have := (zq_ce_lt ops xs as bs (hok _ (Nat.mod_lt t hm)) (Or.inr z.1) hi).1
    omega
theorem zq_sq_same {m r x : Nat} {s0 c0 : Nat → Int32} (hm : 0 < m) (hok : ∀ p, p < m → zq_ok ops xs as bs r p) (hx : x < 4) (h : ∀ p, p < m → ¬ zq_chg ops xs p x) : ∀ t, (zq_sq ops xs as bs m s0 c0 t).1 x = s0 x
  | 0 => rfl
  | t + 1 => (zq_keep_s ops xs as bs (hok _ (Nat.mod_lt t hm)) hx (h _ (Nat.mod_lt t hm))).trans (zq_sq_same hm hok hx h t)
theorem zq_sq_low {m r x : Nat} {s0 c0 : Nat → Int32} (hm : 0 < m) (hok : ∀ p, p < m → zq_ok ops xs as bs r p) (hx : x < 4) (h : zq_rol ops xs as m x = 4) : ∀ t, (zq_sq ops xs as bs m s0 c0 t).1 x ≤ s0 x
  | 0 => Int32.le_refl _
  | t + 1 => by
    have hp := Nat.mod_lt t hm
    have ih := zq_sq_low (s0 := s0) (c0 := c0) hm hok hx h t
    show (zq_stp ops xs as bs (t % m) (t / m) (zq_sq ops xs as bs m s0 c0 t).1 (zq_sq ops xs as bs m s0 c0 t).2).1 x ≤ s0 x
    by_cases hc : zq_chg ops xs (t % m) x
    · have hl := zq_r4 ops xs as h _ hp (Or.inl hc.1)
      have cl : (xs (t % m)).toNatClampNeg = x := by rw [hc.1]; exact nI_clamp (by omega)
      rw [zq_s4 ops xs as bs hl.2.1, cl]
      try dsimp only
      rw [pk_us]
      exact Int32.le_trans (zq_min_ll _ _) ih
    · rw [zq_keep_s ops xs as bs (hok _ hp) hx hc]
      exact ih
theorem zq_sq_cell {m r k : Nat} {s0 c0 : Nat → Int32} (hm : 0 < m) (hok : ∀ p, p < m → zq_ok ops xs as bs r p) (a : Nat) : ∀ d, (∀ t, a ≤ t → t < a + d → ¬ zq_sto ops as bs m t k) → (zq_sq ops xs as bs m s0 c0 (a + d)).2 k = (zq_sq ops xs as bs m s0 c0 a).2 k
  | 0, _ => rfl
  | d + 1, h => (zq_keep_c ops xs as bs (hok _ (Nat.mod_lt (a + d) hm)) (h (a + d) (by omega) (by omega))).trans (zq_sq_cell hm hok a d (fun t h1 h2 => h t h1 (by omega)))
theorem zq_sq_cell2 {m r k a b : Nat} {s0 c0 : Nat → Int32} (hm : 0 < m) (hok : ∀ p, p < m → zq_ok ops xs as bs r p) (hab : a ≤ b) (h : ∀ t, a ≤ t → t < b → ¬ zq_sto ops as bs m t k) : (zq_sq ops xs as bs m s0 c0 b).2 k = (zq_sq ops xs as bs m s0 c0 a).2 k := by
  obtain ⟨d, rfl⟩ : ∃ d, b = a + d := ⟨b - a, by omega⟩
  exact zq_sq_cell ops xs as bs hm hok a d h
end
end
section
/-! shares, and the run of all workers against the plain loop -/
def zq_fr (pb : Bool) (r W w : Nat) : Nat := if pb = true then w * r / W else if w = 0 then 0 else r
theorem zq_fr_0 {pb : Bool} {r W : Nat} : zq_fr pb r W 0 = 0 := by
  unfold zq_fr
  by_cases h : pb = true
  · rw [if_pos h, Nat.zero_mul, Nat.zero_div]
  · rw [if_neg h, if_pos rfl]
theorem zq_fr_W {pb : Bool} {r W : Nat} (hW : 0 < W) : zq_fr pb r W W = r := by
  unfold zq_fr
  by_cases h : pb = true
  · rw [if_pos h, Nat.mul_div_cancel_left r hW]
  · rw [if_neg h, if_neg (by omega)]
theorem zq_fr_mono {pb : Bool} {r W u w : Nat} (h : u ≤ w) : zq_fr pb r W u ≤ zq_fr pb r W w := by
  unfold zq_fr
  by_cases hb : pb = true
  · rw [if_pos hb, if_pos hb]
    exact Nat.div_le_div_right (Nat.mul_le_mul_right r h)
  · rw [if_neg hb, if_neg hb]
    by_cases h0 : u = 0
    · rw [if_pos h0]; exact Nat.zero_le _
    · rw [if_neg h0, if_neg (by omega)]; exact Nat.le_refl r
theorem zq_fr_le {pb : Bool} {r W w : Nat} (hW : 0 < W) (h : w ≤ W) : zq_fr pb r W w ≤ r := by
  have := zq_fr_mono (pb := pb) (r := r) (W := W) h
  rw [zq_fr_W hW] at this
  exact this
theorem zq_fr_last {r W : Nat} (hr : 0 < r) (hW : 0 < W) : zq_fr true r W (W - 1) < r := by
  unfold zq_fr
  rw [if_pos rfl, Nat.div_lt_iff_lt_mul hW, Nat.mul_comm r W]
  exact Nat.mul_lt_mul_of_pos_right (by omega) hr
theorem zq_cover {pb : Bool} {r W m t : Nat} : ∀ w, t < zq_fr pb r W w * m → ∃ u, u < w ∧ zq_fr pb r W u * m ≤ t ∧ t < zq_fr pb r W (u + 1) * m
  | 0, h => by rw [zq_fr_0, Nat.zero_mul] at h; omega
  | w + 1, h => by
    by_cases h2 : t < zq_fr pb r W w * m
    · obtain ⟨u, a, b⟩ := zq_cover w h2
      exact ⟨u, by omega, b⟩
    · exact ⟨w, by omega, by omega, h⟩
theorem zq_disj {pb : Bool} {r W m t u w : Nat} (hne : u ≠ w) (h1 : zq_fr pb r W w * m ≤ t) (h2 : t < zq_fr pb r W (w + 1) * m) : ¬ (zq_fr pb r W u * m ≤ t ∧ t < zq_fr pb r W (u + 1) * m) := by
  intro z
  rcases Nat.lt_or_gt_of_ne hne with h | h
  · have := Nat.mul_le_mul_right m (zq_fr_mono (pb := pb) (r := r) (W := W) (u := u + 1) (w := w) h)
    omega
  · have := Nat.mul_le_mul_right m (zq_fr_mono (pb := pb) (r := r) (W := W) (u := w + 1) (w := u) h)
    omega

section
variable (ops xs as bs : Nat → Int32)

theorem zq_F {m r W w t k : Nat} {pb : Bool} (hm : 0 < m) (hW : 0 < W) (hok : ∀ p, p < m → zq_ok ops xs as bs r p) (hpb : pb = true → zq_par ops xs as bs m r)
    (hw : w < W) (hact : pb = true ∨ w = 0) (h1 : zq_fr pb r W w * m ≤ t) (h2 : t < zq_fr pb r W (w + 1) * m)
    (ht : zq_tou ops (t % m)) (hk : zq_ce as bs (t % m) (t / m) = k) :
    ∀ t', t' < r * m → ¬ (zq_fr pb r W w * m ≤ t' ∧ t' < zq_fr pb r W (w + 1) * m) → ¬ zq_sto ops as bs m t' k := by
  intro t' ht' hn hs
  have hp := Nat.mod_lt t hm
  have hp' := Nat.mod_lt t' hm
  have hle : zq_fr pb r W (w + 1) * m ≤ r * m := Nat.mul_le_mul_right m (zq_fr_le hW (by omega))
  have hi : t / m < r := (Nat.div_lt_iff_lt_mul hm).mpr (by omega)
  have hi' : t' / m < r := (Nat.div_lt_iff_lt_mul hm).mpr ht'
  by_cases hb : pb = true
  · by_cases he : t / m = t' / m
    · apply hn
      constructor
      · have a := (Nat.le_div_iff_mul_le hm).mpr h1
        rw [he] at a
        exact (Nat.le_div_iff_mul_le hm).mp a
      · have a := (Nat.div_lt_iff_lt_mul hm).mpr h2
        rw [he] at a
        exact (Nat.div_lt_iff_lt_mul hm).mp a
    · refine (hpb hb).2 _ _ hp hp' ⟨ht, Or.inr hs.1, Or.inr hs.1, t / m, t' / m, hi, hi', he, ?_⟩
      rw [(zq_ce_lt ops xs as bs (hok _ hp) ht hi).2, (zq_ce_lt ops xs as bs (hok _ hp') (Or.inr hs.1) hi').2, hk, hs.2]
  · have hw0 : w = 0 := hact.resolve_left hb
    subst hw0
    apply hn
    rw [zq_fr_0]
    have e1 : zq_fr pb r W (0 + 1) = r := by unfold zq_fr; rw [if_neg hb, if_neg (by omega)]
    rw [e1]
    omega

/-- the run: each worker w stands at statement t w of the plain loop -/
def zq_Run (m r W : Nat) (pb : Bool) (s0 c0 : Nat → Int32) (t : Nat → Nat) (own rc : Nat → Int32) : Prop := ∀ w, w < W →
  (zq_fr pb r W w * m ≤ t w ∧ t w ≤ zq_fr pb r W (w + 1) * m) ∧
  zq_S ops xs as m pb (pb = true ∨ w = 0) (fun x => ∃ t', zq_fr pb r W w * m ≤ t' ∧ t' < t w ∧ zq_ment ops xs as (t' % m) x) s0
    (zq_sq ops xs as bs m s0 c0 (zq_fr pb r W w * m)).1 (zq_sq ops xs as bs m s0 c0 (t w)).1 (fun x => own (w * 4 + x)) ∧
  (∀ k, k < 16 → (∀ t', t' < r * m → ¬ (zq_fr pb r W w * m ≤ t' ∧ t' < zq_fr pb r W (w + 1) * m) → ¬ zq_sto ops as bs m t' k) → rc k = (zq_sq ops xs as bs m s0 c0 (t w)).2 k)

theorem zq_run_init {m r W : Nat} {pb : Bool} {s0 c0 own rc : Nat → Int32} (hm : 0 < m) (hW : 0 < W) (hok : ∀ p, p < m → zq_ok ops xs as bs r p) (hpb : pb = true → zq_par ops xs as bs m r)
    (ho : ∀ w, w < W → ∀ x, x < 4 → own (w * 4 + x) = s0 x) (hc : ∀ k, k < 16 → rc k = c0 k) :
    zq_Run ops xs as bs m r W pb s0 c0 (fun w => zq_fr pb r W w * m) own rc := by
  intro w hw
  have hle : zq_fr pb r W w * m ≤ zq_fr pb r W (w + 1) * m := Nat.mul_le_mul_right m (zq_fr_mono (by omega))
  have hle2 : zq_fr pb r W w * m ≤ r * m := Nat.mul_le_mul_right m (zq_fr_le hW (by omega))
  refine ⟨⟨Nat.le_refl _, hle⟩, ?_, ?_⟩
  · intro x hx
    try dsimp only
    rw [ho w hw x hx]
    refine ⟨fun _ => ?_, fun h4 => ?_, fun h3 h4 ha hH => ?_⟩
    · rw [Int32.sub_self, Int32.sub_self]
    · exact zq_min_le (zq_sq_low ops xs as bs hm hok hx h4 _)
    · by_cases hb : pb = true
      · have n2 : ¬ zq_rol ops xs as m x = 2 := by
          intro z
          obtain ⟨t', a, b, _⟩ := hH hb z
          omega
        have n5 := (hpb hb).1 x hx
        have h01 : zq_rol ops xs as m x = 0 ∨ zq_rol ops xs as m x = 1 := by
          rcases zq_r_in ops xs as m x with e | e | e | e | e | e
          · exact Or.inl e
          · exact Or.inr e
          · exact absurd e n2
          · exact absurd e h3
          · exact absurd e h4
          · exact absurd e n5
        exact (zq_sq_same ops xs as bs hm hok hx (zq_r01 ops xs as h01) _).symm
      · have hw0 : w = 0 := ha.resolve_left hb
        subst hw0
        rw [zq_fr_0, Nat.zero_mul]
        rfl
  · intro k hk hf
    try dsimp only
    rw [hc k hk]
    refine (zq_sq_cell2 ops xs as bs hm hok (a := 0) (Nat.zero_le _) (fun t' _ h2 => hf t' (by omega) (fun z => by omega))).symm

theorem zq_run_step {m r W w : Nat} {pb : Bool} {s0 c0 own own' rc rc' : Nat → Int32} {t : Nat → Nat} (hm : 0 < m) (hW : 0 < W) (hok : ∀ p, p < m → zq_ok ops xs as bs r p) (hpb : pb = true → zq_par ops xs as bs m r)
    (R : zq_Run ops xs as bs m r W pb s0 c0 t own rc) (hw : w < W) (ht : t w < zq_fr pb r W (w + 1) * m)
    (h1 : ∀ x, x < 4 → own' (w * 4 + x) = (zq_stp ops xs as bs (t w % m) (t w / m) (fun x => own (w * 4 + x)) rc).1 x)
    (h2 : ∀ u x, u ≠ w → x < 4 → own' (u * 4 + x) = own (u * 4 + x))
    (h3 : ∀ k, k < 16 → rc' k = (zq_stp ops xs as bs (t w % m) (t w / m) (fun x => own (w * 4 + x)) rc).2 k) :
    zq_Run ops xs as bs m r W pb s0 c0 (fun u => if u = w then t w + 1 else t u) own' rc' := by
  obtain ⟨⟨hlo, hhi⟩, S, C⟩ := R w hw
  have hp := Nat.mod_lt (t w) hm
  have hle : zq_fr pb r W (w + 1) * m ≤ r * m := Nat.mul_le_mul_right m (zq_fr_le hW (by omega))
  have hi : t w / m < r := (Nat.div_lt_iff_lt_mul hm).mpr (by omega)
  have hact : pb = true ∨ w = 0 := by
    by_cases hb : pb = true
    · exact Or.inl hb
    · by_cases h0 : w = 0
      · exact Or.inr h0
      · exfalso
        have e1 : zq_fr pb r W w = r := by unfold zq_fr; rw [if_neg hb, if_neg h0]
        rw [e1] at hlo
        omega
  have hld : ops (t w % m) = 1 → rc (zq_ce as bs (t w % m) (t w / m)) = (zq_sq ops xs as bs m s0 c0 (t w)).2 (zq_ce as bs (t w % m) (t w / m)) := by
    intro e
    exact C _ (zq_ce_lt ops xs as bs (hok _ hp) (Or.inl e) hi).1 (zq_F ops xs as bs hm hW hok hpb hw hact hlo ht (Or.inl e) rfl)
  have hread : ∀ y, y < 4 → zq_ment ops xs as (t w % m) y → ¬ ops (t w % m) = 0 → ¬ ops (t w % m) = 1 → pb = true → zq_rol ops xs as m y = 2 → ∃ t', zq_fr pb r W w * m ≤ t' ∧ t' < t w ∧ zq_ment ops xs as (t' % m) y := by
    intro y hy hm1 n0 n1 hb e2
    obtain ⟨f, hf, mf, nf, of⟩ := zq_r2 ops xs as e2
    have hfp : f < t w % m := by
      rcases Nat.lt_trichotomy f (t w % m) with c | c | c
      · exact c
      · rw [c] at of
        exact absurd of (fun z => z.elim n0 n1)
      · exact absurd hm1 (nf _ c)
    have hq : zq_fr pb r W w ≤ t w / m := (Nat.le_div_iff_mul_le hm).mpr hlo
    have hq2 : zq_fr pb r W w * m ≤ t w / m * m := Nat.mul_le_mul_right m hq
    have hdm := Nat.div_add_mod' (t w) m
    refine ⟨t w / m * m + f, by omega, by omega, ?_⟩
    rw [Nat.mul_comm (t w / m) m, Nat.mul_add_mod, Nat.mod_eq_of_lt hf]
    exact mf
  obtain ⟨S', hst⟩ := zq_S_step ops xs as bs (i := t w / m) (H' := fun x => ∃ t', zq_fr pb r W w * m ≤ t' ∧ t' < t w + 1 ∧ zq_ment ops xs as (t' % m) x) (hok _ hp) hp hact hread hld
    (by
      intro x hx
      obtain ⟨t', a, b, c⟩ := hx
      by_cases e : t' = t w
      · exact Or.inr (e ▸ c)
      · exact Or.inl ⟨t', a, by omega, c⟩) S
  intro u hu
  by_cases huw : u = w
  · subst huw
    try dsimp only
    rw [if_pos rfl]
    refine ⟨⟨by omega, by omega⟩, ?_, ?_⟩
    · intro x hx
      try dsimp only
      rw [h1 x hx]
      exact S' x hx
    · intro k hk hf
      rw [h3 k hk]
      show _ = (zq_stp ops xs as bs (t u % m) (t u / m) (zq_sq ops xs as bs m s0 c0 (t u)).1 (zq_sq ops xs as bs m s0 c0 (t u)).2).2 k
      have hC := C k hk hf
      by_cases e : ops (t u % m) = 2
      · rw [zq_s2 ops xs as bs e, zq_s2 ops xs as bs e]
        try dsimp only
        have hv := hst e
        try dsimp only at hv
        rw [hv]
        unfold upd
        by_cases ek : k = zq_ce as bs (t u % m) (t u / m)
        · rw [if_pos ek, if_pos ek]
        · rw [if_neg ek, if_neg ek]; exact hC
      · rw [zq_keep_c ops xs as bs (hok _ hp) (fun z => e z.1), zq_keep_c ops xs as bs (hok _ hp) (fun z => e z.1)]
        exact hC
  · obtain ⟨hb, Su, Cu⟩ := R u hu
    try dsimp only
    rw [if_neg huw]
    refine ⟨hb, ?_, ?_⟩
    · intro x hx
      try dsimp only
      rw [h2 u x huw hx]
      exact Su x hx
    · intro k hk hf
      rw [h3 k hk, zq_keep_c ops xs as bs (hok _ hp) (fun z => hf (t w) (by omega) (zq_disj huw hlo ht) z)]
      exact Cu k hk hf

theorem zq_end_cells {m r W : Nat} {pb : Bool} {s0 c0 own rc : Nat → Int32} {t : Nat → Nat} (hm : 0 < m) (hW : 0 < W) (hok : ∀ p, p < m → zq_ok ops xs as bs r p) (hpb : pb = true → zq_par ops xs as bs m r)
    (R : zq_Run ops xs as bs m r W pb s0 c0 t own rc) (ht : ∀ w, w < W → t w = zq_fr pb r W (w + 1) * m) :
    ∀ k, k < 16 → rc k = (zq_sq ops xs as bs m s0 c0 (r * m)).2 k := by
  intro k hk
  by_cases hs : ∃ t', t' < r * m ∧ zq_sto ops as bs m t' k
  · obtain ⟨t', h1, h2⟩ := hs
    obtain ⟨u, hu, a, b⟩ := zq_cover (pb := pb) (r := r) (W := W) (m := m) (t := t') W (by rw [zq_fr_W hW]; exact h1)
    have hact : pb = true ∨ u = 0 := by
      by_cases hb : pb = true
      · exact Or.inl hb
      · by_cases h0 : u = 0
        · exact Or.inr h0
        · exfalso
          have e1 : zq_fr pb r W u = r := by unfold zq_fr; rw [if_neg hb, if_neg h0]
          rw [e1] at a
          omega
    have hf := zq_F ops xs as bs hm hW hok hpb hu hact a b (Or.inr h2.1) h2.2
    rw [(R u hu).2.2 k hk hf, ht u hu]
    refine (zq_sq_cell2 ops xs as bs hm hok (Nat.mul_le_mul_right m (zq_fr_le hW (by omega))) ?_).symm
    intro t2 h3 h4
    exact hf t2 h4 (fun z => by omega)
  · have hn : ∀ t', t' < r * m → ¬ zq_sto ops as bs m t' k := fun t' a b => hs ⟨t', a, b⟩
    rw [(R 0 hW).2.2 k hk (fun t' a _ => hn t' a), ht 0 hW]
    exact (zq_sq_cell2 ops xs as bs hm hok (Nat.mul_le_mul_right m (zq_fr_le hW (by omega))) (fun t2 _ h4 => hn t2 h4)).symm

theorem zq_end_sum {m r W w x : Nat} {pb : Bool} {s0 c0 own rc : Nat → Int32} {t : Nat → Nat}
    (R : zq_Run ops xs as bs m r W pb s0 c0 t own rc) (ht : ∀ w, w < W → t w = zq_fr pb r W (w + 1) * m) (hw : w < W) (hx : x < 4) (h : zq_rol ops xs as m x = 3) :
    (zq_sq ops xs as bs m s0 c0 (zq_fr pb r W w * m)).1 x + (own (w * 4 + x) - s0 x) = (zq_sq ops xs as bs m s0 c0 (zq_fr pb r W (w + 1) * m)).1 x := by
  have h1 := ((R w hw).2.1 x hx).1 h
  try dsimp only at h1
  rw [ht w hw] at h1
  rw [h1]
  generalize (zq_sq ops xs as bs m s0 c0 (zq_fr pb r W w * m)).1 x = a
  generalize (zq_sq ops xs as bs m s0 c0 (zq_fr pb r W (w + 1) * m)).1 x = b
  grind

theorem zq_end_min {m r W w x : Nat} {pb : Bool} {s0 c0 own rc : Nat → Int32} {t : Nat → Nat}
    (R : zq_Run ops xs as bs m r W pb s0 c0 t own rc) (ht : ∀ w, w < W → t w = zq_fr pb r W (w + 1) * m) (hw : w < W) (hx : x < 4) (h : zq_rol ops xs as m x = 4) :
    zq_min ((zq_sq ops xs as bs m s0 c0 (zq_fr pb r W w * m)).1 x) (own (w * 4 + x)) = (zq_sq ops xs as bs m s0 c0 (zq_fr pb r W (w + 1) * m)).1 x := by
  have h1 := ((R w hw).2.1 x hx).2.1 h
  try dsimp only at h1
  rw [ht w hw] at h1
  exact h1

theorem zq_end_last {m r W x : Nat} {pb : Bool} {s0 c0 own rc : Nat → Int32} {t : Nat → Nat} (hm : 0 < m) (hr : 0 < r) (hW : 0 < W)
    (R : zq_Run ops xs as bs m r W pb s0 c0 t own rc) (ht : ∀ w, w < W → t w = zq_fr pb r W (w + 1) * m) (hx : x < 4) (h3 : ¬ zq_rol ops xs as m x = 3) (h4 : ¬ zq_rol ops xs as m x = 4) :
    own ((if pb = true then W - 1 else 0) * 4 + x) = (zq_sq ops xs as bs m s0 c0 (r * m)).1 x := by
  by_cases hb : pb = true
  · rw [if_pos hb]
    have h1 := ((R (W - 1) (by omega)).2.1 x hx).2.2 h3 h4 (Or.inl hb)
    have e : zq_fr pb r W (W - 1 + 1) = r := by rw [show W - 1 + 1 = W from by omega]; exact zq_fr_W hW
    rw [ht (W - 1) (by omega), e] at h1
    refine h1 (fun _ h2 => ?_)
    obtain ⟨f, hf, mf, _⟩ := zq_r2 ops xs as h2
    have hl : zq_fr pb r W (W - 1) < r := by rw [hb]; exact zq_fr_last hr hW
    have hl2 : (zq_fr pb r W (W - 1) + 1) * m ≤ r * m := Nat.mul_le_mul_right m hl
    rw [Nat.add_mul, Nat.one_mul] at hl2
    refine ⟨zq_fr pb r W (W - 1) * m + f, by omega, by omega, ?_⟩
    rw [Nat.mul_comm (zq_fr pb r W (W - 1)) m, Nat.mul_add_mod, Nat.mod_eq_of_lt hf]
    exact mf
  · rw [if_neg hb]
    have h1 := ((R 0 hW).2.1 x hx).2.2 h3 h4 (Or.inr rfl) (fun z => absurd z hb)
    have e : zq_fr pb r W (0 + 1) = r := by unfold zq_fr; rw [if_neg hb, if_neg (by omega)]
    rw [ht 0 hW, e] at h1
    exact h1
end
end
section
/-! numbers, and summaries of a range of statements -/
theorem zq_in4 {x : Int32} {n : Nat} (hn : n < 2 ^ 31) (h0 : ¬ x < 0) (h1 : x < nI n) : ∃ j, j < n ∧ x = nI j := by
  rcases pk_ix x hn with h | h | h
  · exact absurd h h0
  · exact absurd h1 (Int32.not_lt.mpr h)
  · exact h

theorem zq_lin {a b : Int32} {i : Nat} (ha1 : -2 ≤ a) (ha2 : a ≤ 2) (hb0 : 0 ≤ b) (hb1 : b ≤ 15) (hi : i < 8) : (a * nI i + b).toInt = a.toInt * (i : Int) + b.toInt := by
  rw [Int32.le_iff_toInt_le] at ha1 ha2 hb0 hb1
  rw [show (-2 : Int32).toInt = -2 from by decide] at ha1
  rw [show (2 : Int32).toInt = 2 from by decide] at ha2
  rw [show (0 : Int32).toInt = 0 from by decide] at hb0
  rw [show (15 : Int32).toInt = 15 from by decide] at hb1
  have hm : (a * nI i).toInt = a.toInt * (i : Int) := by
    rw [Int32.toInt_mul, nI_toInt (by omega)]
    have h5 : a.toInt = -2 ∨ a.toInt = -1 ∨ a.toInt = 0 ∨ a.toInt = 1 ∨ a.toInt = 2 := by omega
    apply Int.bmod_eq_of_le
    · rcases h5 with e | e | e | e | e <;> rw [e] <;> omega
    · rcases h5 with e | e | e | e | e <;> rw [e] <;> omega
  rw [Int32.toInt_add, hm]
  have h5 : a.toInt = -2 ∨ a.toInt = -1 ∨ a.toInt = 0 ∨ a.toInt = 1 ∨ a.toInt = 2 := by omega
  apply Int.bmod_eq_of_le
  · rcases h5 with e | e | e | e | e <;> rw [e] <;> omega
  · rcases h5 with e | e | e | e | e <;> rw [e] <;> omega

/-- in the cells at the last iteration: in the cells at every one -/
theorem zq_last {a b : Int32} {r : Nat} (ha1 : -2 ≤ a) (ha2 : a ≤ 2) (hb0 : 0 ≤ b) (hb1 : b ≤ 15) (hr : 0 < r) (hr8 : r ≤ 8)
    (h0 : 0 ≤ a * nI (r - 1) + b) (h1 : a * nI (r - 1) + b ≤ 15) {i : Nat} (hi : i < r) : 0 ≤ a * nI i + b ∧ a * nI i + b ≤ 15 := by
  have e1 := zq_lin (i := r - 1) ha1 ha2 hb0 hb1 (by omega)
  have e2 := zq_lin (i := i) ha1 ha2 hb0 hb1 (by omega)
  rw [Int32.le_iff_toInt_le] at ha1 ha2 hb0 hb1 h0 h1
  rw [Int32.le_iff_toInt_le, Int32.le_iff_toInt_le, e2]
  rw [e1] at h0 h1
  rw [show (-2 : Int32).toInt = -2 from by decide] at ha1
  rw [show (2 : Int32).toInt = 2 from by decide] at ha2
  rw [show (0 : Int32).toInt = 0 from by decide] at hb0 h0
  rw [show (15 : Int32).toInt = 15 from by decide] at hb1 h1
  rw [show (0 : Int32).toInt = 0 from by decide, show (15 : Int32).toInt = 15 from by decide]
  have hc : ((r - 1 : Nat) : Int) = (r : Int) - 1 := by omega
  rw [hc] at h0 h1
  have h5 : a.toInt = -2 ∨ a.toInt = -1 ∨ a.toInt = 0 ∨ a.toInt = 1 ∨ a.toInt = 2 := by omega
  rcases h5 with e | e | e | e | e <;> rw [e] at h0 h1 <;> rw [e] <;> constructor <;> omega

theorem zq_cell15 {x : Int32} (h0 : 0 ≤ x) (h1 : x ≤ 15) : ∃ c, c < 16 ∧ x = nI c := by
  obtain ⟨j, hj, e⟩ := nI_of2 (M := 15) (n := 15) (by decide) (Int32.not_lt.mpr h0) h1
  exact ⟨j, by omega, e⟩

def zq_all (a b : Nat) (P : Nat → Prop) (v : Int32) : Prop := (v = 1 ∧ ∀ q, a ≤ q → q < b → P q) ∨ (v = 0 ∧ ∃ q, a ≤ q ∧ q < b ∧ ¬ P q)
theorem zq_all_e {a : Nat} {P : Nat → Prop} : zq_all a a P 1 := Or.inl ⟨rfl, fun q h1 h2 => by omega⟩
theorem zq_all_rt {a b : Nat} {P : Nat → Prop} {v : Int32} (h : zq_all a b P v) (hp : P b) : zq_all a (b + 1) P v := by
  rcases h with ⟨e, h⟩ | ⟨e, q, h1, h2, h3⟩
  · refine Or.inl ⟨e, fun q h1 h2 => ?_⟩
    by_cases hq : q = b
    · rw [hq]; exact hp
    · exact h q h1 (by omega)
  · exact Or.inr ⟨e, q, h1, by omega, h3⟩
theorem zq_all_rf {a b : Nat} {P : Nat → Prop} (hab : a ≤ b) (hp : ¬ P b) : zq_all a (b + 1) P 0 := Or.inr ⟨rfl, b, hab, by omega, hp⟩
theorem zq_all_lt {a b : Nat} {P : Nat → Prop} {v : Int32} (h : zq_all (a + 1) b P v) (hp : P a) : zq_all a b P v := by
  rcases h with ⟨e, h⟩ | ⟨e, q, h1, h2, h3⟩
  · refine Or.inl ⟨e, fun q h1 h2 => ?_⟩
    by_cases hq : q = a
    · rw [hq]; exact hp
    · exact h q (by omega) h2
  · exact Or.inr ⟨e, q, by omega, h2, h3⟩
theorem zq_all_lf {a b : Nat} {P : Nat → Prop} (hab : a < b) (hp : ¬ P a) : zq_all a b P 0 := Or.inr ⟨rfl, a, Nat.le_refl a, hab, hp⟩
theorem zq_all_01 {a b : Nat} {P : Nat → Prop} {v : Int32} (h : zq_all a b P v) : v = 0 ∨ v = 1 := h.elim (fun z => Or.inr z.1) (fun z => Or.inl z.1)
theorem zq_all_0 {b : Nat} {P : Nat → Prop} (h : zq_all 0 b P 0) : ¬ ∀ q, q < b → P q := by
  rcases h with ⟨e, _⟩ | ⟨_, q, _, h2, h3⟩
  · exact absurd e (by decide)
  · exact fun z => h3 (z q h2)
theorem zq_all_1 {b : Nat} {P : Nat → Prop} (h : zq_all 0 b P 1) : ∀ q, q < b → P q := by
  rcases h with ⟨_, h⟩ | ⟨e, _⟩
  · exact fun q hq => h q (Nat.zero_le q) hq
  · exact absurd e (by decide)

section
variable (ops xs as bs : Nat → Int32)
/-- the first of the statements a .. b - 1 that mentions x -/
def zq_firs (a b x : Nat) (g : Option Nat) : Prop := (g = none ∧ ∀ q, a ≤ q → q < b → ¬ zq_ment ops xs as q x) ∨ ∃ f, g = some f ∧ a ≤ f ∧ f < b ∧ zq_ment ops xs as f x ∧ ∀ q, a ≤ q → q < f → ¬ zq_ment ops xs as q x
theorem zq_firs_e {a x : Nat} : zq_firs ops xs as a a x none := Or.inl ⟨rfl, fun q h1 h2 => by omega⟩
theorem zq_firs_rn {a b x : Nat} {g : Option Nat} (h : zq_firs ops xs as a b x g) (hn : ¬ zq_ment ops xs as b x) : zq_firs ops xs as a (b + 1) x g := by
  rcases h with ⟨e, h⟩ | ⟨f, e, h1, h2, h3, h4⟩
  · refine Or.inl ⟨e, fun q h1 h2 => ?_⟩
    by_cases hq : q = b
    · rw [hq]; exact hn
    · exact h q h1 (by omega)
  · exact Or.inr ⟨f, e, h1, by omega, h3, h4⟩
theorem zq_firs_r0 {a b x : Nat} (hab : a ≤ b) (h : zq_firs ops xs as a b x none) (hn : zq_ment ops xs as b x) : zq_firs ops xs as a (b + 1) x (some b) := by
  rcases h with ⟨e, h⟩ | ⟨f, e, _⟩
  · exact Or.inr ⟨b, rfl, hab, by omega, hn, h⟩
  · exact nomatch e
theorem zq_firs_rs {a b f x : Nat} (h : zq_firs ops xs as a b x (some f)) : zq_firs ops xs as a (b + 1) x (some f) := by
  rcases h with ⟨e, h⟩ | ⟨f, e, h1, h2, h3, h4⟩
  · exact nomatch e
  · exact Or.inr ⟨f, e, h1, by omega, h3, h4⟩
theorem zq_firs_ln {a b x : Nat} {g : Option Nat} (h : zq_firs ops xs as (a + 1) b x g) (hn : ¬ zq_ment ops xs as a x) : zq_firs ops xs as a b x g := by
  have hh : ∀ c, (∀ q, a + 1 ≤ q → q < c → ¬ zq_ment ops xs as q x) → ∀ q, a ≤ q → q < c → ¬ zq_ment ops xs as q x := by
    intro c h q h1 h2
    by_cases hq : q = a
    · rw [hq]; exact hn
    · exact h q (by omega) h2
  rcases h with ⟨e, h⟩ | ⟨f, e, h1, h2, h3, h4⟩
  · exact Or.inl ⟨e, hh b h⟩
  · exact Or.inr ⟨f, e, by omega, h2, h3, hh f h4⟩
theorem zq_firs_lm {a b x : Nat} (hab : a < b) (hn : zq_ment ops xs as a x) : zq_firs ops xs as a b x (some a) := Or.inr ⟨a, rfl, Nat.le_refl a, hab, hn, fun q h1 h2 => by omega⟩

theorem zq_rol_0 {m x : Nat} (h : zq_firs ops xs as 0 m x none) : zq_rol ops xs as m x = 0 := by
  rcases h with ⟨_, h⟩ | ⟨f, e, _⟩
  · unfold zq_rol
    exact zq_ite_t (fun p hp => h p (Nat.zero_le p) hp)
  · exact nomatch e
theorem zq_rol_1 {m f x : Nat} (h : zq_firs ops xs as 0 m x (some f)) (h1 : ∀ p, p < m → ¬ zq_chg ops xs p x) : zq_rol ops xs as m x = 1 := by
  rcases h with ⟨e, _⟩ | ⟨f, e, _, h2, h3, h4⟩
  · exact nomatch e
  · unfold zq_rol
    rw [zq_ite_f (fun z => z f h2 h3), zq_ite_t h1]
theorem zq_rol_2 {m f x : Nat} (h : zq_firs ops xs as 0 m x (some f)) (h1 : ¬ ∀ p, p < m → ¬ zq_chg ops xs p x) (h0 : ops f = 0 ∨ ops f = 1) : zq_rol ops xs as m x = 2 := by
  rcases h with ⟨e, _⟩ | ⟨f', e, _, h2, h3, h4⟩
  · exact nomatch e
  · cases e
    unfold zq_rol
    rw [zq_ite_f (fun z => z f h2 h3), zq_ite_f h1, zq_ite_t ⟨f, h2, h3, fun q hq => h4 q (Nat.zero_le q) hq, h0⟩]
theorem zq_rol_n2 {m f x : Nat} (h : zq_firs ops xs as 0 m x (some f)) (h0 : ¬ ops f = 0) (h1 : ¬ ops f = 1) : ¬ zq_fst ops xs as m x := by
  rcases h with ⟨e, _⟩ | ⟨f', e, _, h2, h3, h4⟩
  · exact nomatch e
  · cases e
    intro z
    obtain ⟨g, _, b, c, d⟩ := z
    rcases Nat.lt_trichotomy f g with l | l | l
    · exact c f l h3
    · rw [← l] at d
      exact d.elim h0 h1
    · exact h4 g (Nat.zero_le g) l b
theorem zq_rol_m {m f x : Nat} (h : zq_firs ops xs as 0 m x (some f)) : ¬ ∀ p, p < m → ¬ zq_ment ops xs as p x := by
  rcases h with ⟨e, _⟩ | ⟨f', e, _, h2, h3, h4⟩
  · exact nomatch e
  · exact fun z => z f' h2 h3
theorem zq_rol_3 {m f x : Nat} (h : zq_firs ops xs as 0 m x (some f)) (h1 : ¬ ∀ p, p < m → ¬ zq_chg ops xs p x) (h0 : ¬ ops f = 0) (h01 : ¬ ops f = 1)
    (h3 : ∀ p, p < m → zq_ment ops xs as p x → zq_adds ops xs as p x) : zq_rol ops xs as m x = 3 := by
  unfold zq_rol
  rw [zq_ite_f (zq_rol_m ops xs as h), zq_ite_f h1, zq_ite_f (zq_rol_n2 ops xs as h h0 h01), zq_ite_t h3]
theorem zq_rol_4 {m f x : Nat} (h : zq_firs ops xs as 0 m x (some f)) (h1 : ¬ ∀ p, p < m → ¬ zq_chg ops xs p x) (h0 : ¬ ops f = 0) (h01 : ¬ ops f = 1)
    (h3 : ¬ ∀ p, p < m → zq_ment ops xs as p x → zq_adds ops xs as p x) (h4 : ∀ p, p < m → zq_ment ops xs as p x → zq_lows ops xs as p x) : zq_rol ops xs as m x = 4 := by
  unfold zq_rol
  rw [zq_ite_f (zq_rol_m ops xs as h), zq_ite_f h1, zq_ite_f (zq_rol_n2 ops xs as h h0 h01), zq_ite_f h3, zq_ite_t h4]
theorem zq_rol_5 {m f x : Nat} (h : zq_firs ops xs as 0 m x (some f)) (h1 : ¬ ∀ p, p < m → ¬ zq_chg ops xs p x) (h0 : ¬ ops f = 0) (h01 : ¬ ops f = 1)
    (h3 : ¬ ∀ p, p < m → zq_ment ops xs as p x → zq_adds ops xs as p x) (h4 : ¬ ∀ p, p < m → zq_ment ops xs as p x → zq_lows ops xs as p x) : zq_rol ops xs as m x = 5 := by
  unfold zq_rol
  rw [zq_ite_f (zq_rol_m ops xs as h), zq_ite_f h1, zq_ite_f (zq_rol_n2 ops xs as h h0 h01), zq_ite_f h3, zq_ite_f h4]
end
end
section
/-! the component's reading methods against the pure picture -/
theorem zx_1 {A B : Prop} (h : B) : ((1 : Int32) = 0 → A) ∧ (¬ (1 : Int32) = 0 → B) := br_f (by decide) h
theorem zx_0 {A B : Prop} (h : A) : ((0 : Int32) = 0 → A) ∧ (¬ (0 : Int32) = 0 → B) := br_t rfl h
theorem zx_rsa {post : Int32 → Prop} {o : Int32} (ht : (o = 3 ∨ o = 4) → post 1) (hf : ¬ (o = 3 ∨ o = 4) → post 0) : wpX_readsScalarA post o :=
  br_c (fun h => ht (Or.inl h)) (fun h => br_c (fun h2 => ht (Or.inr h2)) (fun h2 => hf (fun z => z.elim h h2)))
theorem zx_uc {post : Int32 → Prop} {o : Int32} (ht : (o = 1 ∨ o = 2) → post 1) (hf : ¬ (o = 1 ∨ o = 2) → post 0) : wpX_usesCell post o :=
  br_c (fun h => ht (Or.inl h)) (fun h => br_c (fun h2 => ht (Or.inr h2)) (fun h2 => hf (fun z => z.elim h h2)))
theorem zx_i6 {p : Nat} (hp : p < 6) : vp_in (nI p) 6 ∧ (nI p).toNatClampNeg = p := ⟨vp_in_nI hp (by decide), nI_clamp (by omega)⟩
theorem zx_i4 {p : Nat} (hp : p < 4) : vp_in (nI p) 4 ∧ (nI p).toNatClampNeg = p := ⟨vp_in_nI hp (by decide), nI_clamp (by omega)⟩
theorem zx_i16 {p : Nat} (hp : p < 16) : vp_in (nI p) 16 ∧ (nI p).toNatClampNeg = p := ⟨vp_in_nI hp (by decide), nI_clamp (by omega)⟩

def zq_any (a b : Nat) (P : Nat → Prop) (v : Int32) : Prop := (v = 0 ∧ ∀ q, a ≤ q → q < b → ¬ P q) ∨ (v = 1 ∧ ∃ q, a ≤ q ∧ q < b ∧ P q)
theorem zq_any_e {a : Nat} {P : Nat → Prop} : zq_any a a P 0 := Or.inl ⟨rfl, fun q h1 h2 => by omega⟩
theorem zq_any_rn {a b : Nat} {P : Nat → Prop} {v : Int32} (h : zq_any a b P v) (hp : ¬ P b) : zq_any a (b + 1) P v := by
  rcases h with ⟨e, h⟩ | ⟨e, q, h1, h2, h3⟩
  · refine Or.inl ⟨e, fun q h1 h2 => ?_⟩
    by_cases hq : q = b
    · rw [hq]; exact hp
    · exact h q h1 (by omega)
  · exact Or.inr ⟨e, q, h1, by omega, h3⟩
theorem zq_any_rp {a b : Nat} {P : Nat → Prop} (hab : a ≤ b) (hp : P b) : zq_any a (b + 1) P 1 := Or.inr ⟨rfl, b, hab, by omega, hp⟩
theorem zq_any_01 {a b : Nat} {P : Nat → Prop} {v : Int32} (h : zq_any a b P v) : v = 0 ∨ v = 1 := h.elim (fun z => Or.inl z.1) (fun z => Or.inr z.1)
theorem zq_any_0 {b : Nat} {P : Nat → Prop} (h : zq_any 0 b P 0) : ∀ q, q < b → ¬ P q := by
  rcases h with ⟨_, h⟩ | ⟨e, _⟩
  · exact fun q hq => h q (Nat.zero_le q) hq
  · exact absurd e (by decide)
theorem zq_any_1 {b : Nat} {P : Nat → Prop} (h : zq_any 0 b P 1) : ¬ ∀ q, q < b → ¬ P q := by
  rcases h with ⟨e, _⟩ | ⟨_, q, _, h2, h3⟩
  · exact absurd e (by decide)
  · exact fun z => z q h2 h3

section
variable {r W m : Nat} {fR fL : Int32} {ops xs as bs sc ce rc own it pl lf : Nat → Int32}

theorem zx_ment {post : Int32 → Prop} {p x : Nat} (hp : p < 6) (ht : zq_ment ops xs as p x → post 1) (hf : ¬ zq_ment ops xs as p x → post 0) : wpX_mentions post (nI r, nI W, nI m, fR, fL, ops, xs, as, bs, sc, ce, rc, own, it, pl, lf) (nI p) (nI x) := by
  obtain ⟨i6, e⟩ := zx_i6 hp
  unfold wpX_mentions
  dsimp only
  rw [e]
  exact ⟨i6, br_c (fun h => ht (Or.inl h)) (fun h => ⟨i6, zx_rsa (fun h3 => zx_1 ⟨i6, br_c (fun h4 => ht (Or.inr ⟨h3, h4⟩)) (fun h4 => hf (fun z => z.elim h (fun z2 => h4 z2.2)))⟩) (fun h3 => zx_0 (hf (fun z => z.elim h (fun z2 => h3 z2.1))))⟩)⟩
theorem zx_chg {post : Int32 → Prop} {p x : Nat} (hp : p < 6) (ht : zq_chg ops xs p x → post 1) (hf : ¬ zq_chg ops xs p x → post 0) : wpX_changes post (nI r, nI W, nI m, fR, fL, ops, xs, as, bs, sc, ce, rc, own, it, pl, lf) (nI p) (nI x) := by
  obtain ⟨i6, e⟩ := zx_i6 hp
  unfold wpX_changes
  dsimp only
  rw [e]
  exact ⟨i6, br_c (fun h => ⟨i6, br_c (fun h2 => hf (fun z => z.2 h2)) (fun h2 => ht ⟨h, h2⟩)⟩) (fun h => hf (fun z => h z.1))⟩
theorem zx_adds {post : Int32 → Prop} {p x : Nat} (hp : p < 6) (ht : zq_adds ops xs as p x → post 1) (hf : ¬ zq_adds ops xs as p x → post 0) : wpX_addsTo post (nI r, nI W, nI m, fR, fL, ops, xs, as, bs, sc, ce, rc, own, it, pl, lf) (nI p) (nI x) := by
  obtain ⟨i6, e⟩ := zx_i6 hp
  unfold wpX_addsTo
  dsimp only
  rw [e]
  exact ⟨i6, br_c (fun h => ⟨i6, br_c (fun h5 => ht ⟨h, Or.inl h5⟩) (fun h5 => ⟨i6, br_c (fun h3 => ⟨i6, br_c (fun h4 => hf (fun z => z.2.elim h5 (fun y => y.2 h4))) (fun h4 => ht ⟨h, Or.inr ⟨h3, h4⟩⟩)⟩) (fun h3 => hf (fun z => z.2.elim h5 (fun y => h3 y.1)))⟩)⟩) (fun h => hf (fun z => h z.1))⟩
theorem zx_lows {post : Int32 → Prop} {p x : Nat} (hp : p < 6) (ht : zq_lows ops xs as p x → post 1) (hf : ¬ zq_lows ops xs as p x → post 0) : wpX_lowers post (nI r, nI W, nI m, fR, fL, ops, xs, as, bs, sc, ce, rc, own, it, pl, lf) (nI p) (nI x) := by
  obtain ⟨i6, e⟩ := zx_i6 hp
  unfold wpX_lowers
  dsimp only
  rw [e]
  exact ⟨i6, br_c (fun h => ⟨i6, br_c (fun h3 => ⟨i6, br_c (fun h4 => hf (fun z => z.2.2 h4)) (fun h4 => ht ⟨h, h3, h4⟩)⟩) (fun h3 => hf (fun z => h3 z.2.1))⟩) (fun h => hf (fun z => h z.1))⟩

theorem zx_r89 {post : Int32 → Prop} {J : Int32 → Int32 → Int32 → Int32 → Int32 → Prop} {p x : Nat} {a b ol z : Int32} (hp : p < 6) (hol : ol = 0 ∨ ol = 1)
    (ht : zq_lows ops xs as p x → J a b z ol (nI (p + 1))) (hf : ¬ zq_lows ops xs as p x → J a b z 0 (nI (p + 1))) : wX_roleOf_89 post J (nI x) a b ol (nI p) z (nI r) (nI W) (nI m) fR fL ops xs as bs sc ce rc own it pl lf := by
  unfold wX_roleOf_89
  refine zx_lows hp (fun h => zx_1 ?_) (fun h => zx_0 (nm_r (nI_1 p) (hf h)))
  rcases hol with e | e
  · exact br_t e (nm_r (nI_1 p) (by have := ht h; rw [e] at this; exact this))
  · exact br_f (by rw [e]; decide) (nm_r (nI_1 p) (by have := ht h; rw [e] at this; exact this))
theorem zx_r68 {post : Int32 → Prop} {J : Int32 → Int32 → Int32 → Int32 → Int32 → Prop} {p x : Nat} {a oa ol z : Int32} (hp : p < 6) (hoa : oa = 0 ∨ oa = 1)
    (ht : zq_adds ops xs as p x → wX_roleOf_89 post J (nI x) a z ol (nI p) oa (nI r) (nI W) (nI m) fR fL ops xs as bs sc ce rc own it pl lf) (hf : ¬ zq_adds ops xs as p x → wX_roleOf_89 post J (nI x) a z ol (nI p) 0 (nI r) (nI W) (nI m) fR fL ops xs as bs sc ce rc own it pl lf) : wX_roleOf_68 post J (nI x) a oa ol (nI p) z (nI r) (nI W) (nI m) fR fL ops xs as bs sc ce rc own it pl lf := by
  unfold wX_roleOf_68
  refine zx_adds hp (fun h => zx_1 ?_) (fun h => zx_0 (hf h))
  rcases hoa with e | e
  · exact br_t e (by have := ht h; rw [e] at this; exact this)
  · exact br_f (by rw [e]; decide) (by have := ht h; rw [e] at this; exact this)
theorem zx_r48 {post : Int32 → Prop} {J : Int32 → Int32 → Int32 → Int32 → Int32 → Prop} {p x : Nat} {ch oa ol z : Int32} (hp : p < 6) (hch : ch = 0 ∨ ch = 1)
    (ht : zq_chg ops xs p x → wX_roleOf_68 post J (nI x) z oa ol (nI p) 1 (nI r) (nI W) (nI m) fR fL ops xs as bs sc ce rc own it pl lf) (hf : ¬ zq_chg ops xs p x → wX_roleOf_68 post J (nI x) z oa ol (nI p) ch (nI r) (nI W) (nI m) fR fL ops xs as bs sc ce rc own it pl lf) : wX_roleOf_48 post J (nI x) ch oa ol (nI p) z (nI r) (nI W) (nI m) fR fL ops xs as bs sc ce rc own it pl lf := by
  unfold wX_roleOf_48
  refine zx_chg hp (fun h => zx_1 (ht h)) (fun h => zx_0 ?_)
  rcases hch with e | e
  · exact br_t e (by have := hf h; rw [e] at this; exact this)
  · exact br_f (by rw [e]; decide) (by have := hf h; rw [e] at this; exact this)

def zx_fo (ops : Nat → Int32) (g : Option Nat) : Int32 := match g with
  | none => -1
  | some f => ops f
theorem zq_ok_n1 {p : Nat} (h : zq_ok ops xs as bs r p) : ¬ ops p = -1 := by
  rcases zq_ok_ops ops xs as bs h with e | e | e | e | e | e <;> rw [e] <;> decide

theorem zx_rol_lp {post : Int32 → Prop} {x : Nat} (hm : m ≤ 6) (hok : ∀ p, p < m → zq_ok ops xs as bs r p) (hpost : post (zq_rol ops xs as m x)) :
    ∀ d p ch oa ol g, p + d = m → zq_firs ops xs as 0 p x g → zq_any 0 p (fun q => zq_chg ops xs q x) ch →
      zq_all 0 p (fun q => zq_ment ops xs as q x → zq_adds ops xs as q x) oa → zq_all 0 p (fun q => zq_ment ops xs as q x → zq_lows ops xs as q x) ol →
      wX_roleOf_13 post (nI x) (nI r) (nI W) (nI m) fR fL ops xs as bs sc ce rc own it pl lf (d + 1) (zx_fo ops g) ch oa ol (nI p) := by
  intro d
  induction d with
  | zero =>
    intro p ch oa ol g hpd hg hch hoa hol
    have hpm : p = m := by omega
    subst hpm
    refine br_t (nI_le (Nat.le_refl _) (by omega)) ?_
    cases g with
    | none =>
      rw [zq_rol_0 ops xs as hg] at hpost
      exact br_t rfl hpost
    | some f =>
      have hf : f < p := by
        rcases hg with ⟨e, _⟩ | ⟨f', e, _, h2, _⟩
        · exact nomatch e
        · cases e; exact h2
      refine br_f (zq_ok_n1 (hok f hf)) ?_
      rcases zq_any_01 hch with e | e
      · subst e
        rw [zq_rol_1 ops xs as hg (zq_any_0 hch)] at hpost
        exact br_t rfl hpost
      · subst e
        have n1 := zq_any_1 hch
        refine br_f (by decide) ?_
        by_cases h0 : ops f = 0
        · rw [zq_rol_2 ops xs as hg n1 (Or.inl h0)] at hpost
          exact br_t h0 hpost
        refine br_f h0 ?_
        by_cases h1 : ops f = 1
        · rw [zq_rol_2 ops xs as hg n1 (Or.inr h1)] at hpost
          exact br_t h1 hpost
        refine br_f h1 ?_
        rcases zq_all_01 hoa with e | e
        · subst e
          refine br_t rfl ?_
          rcases zq_all_01 hol with e | e
          · subst e
            rw [zq_rol_5 ops xs as hg n1 h0 h1 (zq_all_0 hoa) (zq_all_0 hol)] at hpost
            exact br_t rfl hpost
          · subst e
            rw [zq_rol_4 ops xs as hg n1 h0 h1 (zq_all_0 hoa) (zq_all_1 hol)] at hpost
            exact br_f (by decide) hpost
        · subst e
          rw [zq_rol_3 ops xs as hg n1 h0 h1 (zq_all_1 hoa)] at hpost
          exact br_f (by decide) hpost
  | succ d ih =>
    intro p ch oa ol g hpd hg hch hoa hol
    have hp : p < m := by omega
    refine br_f (nI_ge hp (by omega)) (zx_ment (by omega) (fun hmt => zx_1 ?_) (fun hmt => zx_0 ?_))
    · -- mentioned
      have key : ∀ g', zq_firs ops xs as 0 (p + 1) x g' → wX_roleOf_48 post (wX_roleOf_13 post (nI x) (nI r) (nI W) (nI m) fR fL ops xs as bs sc ce rc own it pl lf (d + 1)) (nI x) ch oa ol (nI p) (zx_fo ops g') (nI r) (nI W) (nI m) fR fL ops xs as bs sc ce rc own it pl lf := by
        intro g' hg'
        have k3 : ∀ ch' oa' ol', zq_any 0 (p + 1) (fun q => zq_chg ops xs q x) ch' → zq_all 0 (p + 1) (fun q => zq_ment ops xs as q x → zq_adds ops xs as q x) oa' → zq_all 0 (p + 1) (fun q => zq_ment ops xs as q x → zq_lows ops xs as q x) ol' →
            wX_roleOf_13 post (nI x) (nI r) (nI W) (nI m) fR fL ops xs as bs sc ce rc own it pl lf (d + 1) (zx_fo ops g') ch' oa' ol' (nI (p + 1)) :=
          fun ch' oa' ol' a b c => ih (p + 1) ch' oa' ol' g' (by omega) hg' a b c
        have k2 : ∀ ch' oa', zq_any 0 (p + 1) (fun q => zq_chg ops xs q x) ch' → zq_all 0 (p + 1) (fun q => zq_ment ops xs as q x → zq_adds ops xs as q x) oa' →
            wX_roleOf_89 post (wX_roleOf_13 post (nI x) (nI r) (nI W) (nI m) fR fL ops xs as bs sc ce rc own it pl lf (d + 1)) (nI x) (zx_fo ops g') ch' ol (nI p) oa' (nI r) (nI W) (nI m) fR fL ops xs as bs sc ce rc own it pl lf :=
          fun ch' oa' a b => zx_r89 (by omega) (zq_all_01 hol) (fun h => k3 ch' oa' ol a b (zq_all_rt hol (fun _ => h))) (fun h => k3 ch' oa' 0 a b (zq_all_rf (by omega) (fun z => h (z hmt))))
        have k1 : ∀ ch', zq_any 0 (p + 1) (fun q => zq_chg ops xs q x) ch' →
            wX_roleOf_68 post (wX_roleOf_13 post (nI x) (nI r) (nI W) (nI m) fR fL ops xs as bs sc ce rc own it pl lf (d + 1)) (nI x) (zx_fo ops g') oa ol (nI p) ch' (nI r) (nI W) (nI m) fR fL ops xs as bs sc ce rc own it pl lf :=
          fun ch' a => zx_r68 (by omega) (zq_all_01 hoa) (fun h => k2 ch' oa a (zq_all_rt hoa (fun _ => h))) (fun h => k2 ch' 0 a (zq_all_rf (by omega) (fun z => h (z hmt))))
        exact zx_r48 (by omega) (zq_any_01 hch) (fun h => k1 1 (zq_any_rp (by omega) h)) (fun h => k1 ch (zq_any_rn hch h))
      cases g with
      | none =>
        refine br_t rfl ⟨(zx_i6 (by omega)).1, ?_⟩
        have := key (some p) (zq_firs_r0 ops xs as (by omega) hg hmt)
        rw [(zx_i6 (p := p) (by omega)).2]
        exact this
      | some f =>
        have hf : f < p := by
          rcases hg with ⟨e, _⟩ | ⟨f', e, _, h2, _⟩
          · exact nomatch e
          · cases e; exact h2
        exact br_f (zq_ok_n1 (hok f (by omega))) (key (some f) (zq_firs_rs ops xs as hg))
    · refine nm_r (nI_1 p) (ih (p + 1) ch oa ol g (by omega) (zq_firs_rn ops xs as hg hmt) (zq_any_rn hch (fun z => hmt (Or.inl z.1))) (zq_all_rt hoa (fun z => absurd z hmt)) (zq_all_rt hol (fun z => absurd z hmt)))

theorem zx_rol {post : Int32 → Prop} {x : Nat} (hm : m ≤ 6) (hok : ∀ p, p < m → zq_ok ops xs as bs r p) (hpost : post (zq_rol ops xs as m x)) : wpX_roleOf post (nI r, nI W, nI m, fR, fL, ops, xs, as, bs, sc, ce, rc, own, it, pl, lf) (nI x) :=
  ⟨m + 1, zx_rol_lp hm hok hpost m 0 0 1 1 none (by omega) (zq_firs_e ops xs as) zq_any_e zq_all_e zq_all_e⟩
end
end
section
/-! the reference's role -/
theorem zq_m1 (k : Nat) : nI k + (-1) = nI k - 1 := by rw [Int32.sub_eq_add_neg]
def zq_rds (ops as : Nat → Int32) (p x : Nat) : Prop := (ops p = 3 ∨ ops p = 4) ∧ as p = nI x
def zq_alo (ops xs as : Nat → Int32) (p x : Nat) : Prop := xs p = nI x ∧ ¬ zq_rds ops as p x
section
variable {r W m : Nat} {fR : Int32} {ops xs as bs sc ce dn : Nat → Int32}

theorem zq_alo_l {p x : Nat} : zq_lows ops xs as p x ↔ (zq_alo ops xs as p x ∧ ops p = 4) :=
  ⟨fun h => ⟨⟨h.1, fun z => h.2.2 z.2⟩, h.2.1⟩, fun h => ⟨h.1.1, h.2, fun z => h.1.2 ⟨Or.inr h.2, z⟩⟩⟩
theorem zq_alo_a {p x : Nat} : zq_adds ops xs as p x ↔ (zq_alo ops xs as p x ∧ (ops p = 3 ∨ ops p = 5)) := by
  constructor
  · intro h
    refine ⟨⟨h.1, fun z => ?_⟩, ?_⟩
    · rcases h.2 with e | e
      · rcases z.1 with e2 | e2 <;> rw [e] at e2 <;> exact absurd e2 (by decide)
      · exact e.2 z.2
    · rcases h.2 with e | e
      · exact Or.inr e
      · exact Or.inl e.1
  · intro h
    refine ⟨h.1.1, ?_⟩
    rcases h.2 with e | e
    · exact Or.inr ⟨e, fun z => h.1.2 ⟨Or.inl e, z⟩⟩
    · exact Or.inl e

theorem zy_rds {post : Int32 → Prop} {p x : Nat} (hp : p < 6) (ht : zq_rds ops as p x → post 1) (hf : ¬ zq_rds ops as p x → post 0) : wpY_reads post (nI r, nI W, nI m, fR, ops, xs, as, bs, sc, ce, dn) (nI p) (nI x) := by
  obtain ⟨i6, e⟩ := zx_i6 hp
  unfold wpY_reads wY_reads_20
  dsimp only
  rw [e]
  exact ⟨i6, br_c (fun h => ⟨i6, br_c (fun h4 => ht ⟨Or.inl h, h4⟩) (fun h4 => hf (fun z => h4 z.2))⟩) (fun h => ⟨i6, br_c (fun h2 => ⟨i6, br_c (fun h4 => ht ⟨Or.inr h2, h4⟩) (fun h4 => hf (fun z => h4 z.2))⟩) (fun h2 => hf (fun z => z.1.elim h h2))⟩)⟩
theorem zy_ment {post : Int32 → Prop} {p x : Nat} (hp : p < 6) (ht : zq_ment ops xs as p x → post 1) (hf : ¬ zq_ment ops xs as p x → post 0) : wpY_mentions post (nI r, nI W, nI m, fR, ops, xs, as, bs, sc, ce, dn) (nI p) (nI x) := by
  obtain ⟨i6, e⟩ := zx_i6 hp
  unfold wpY_mentions
  dsimp only
  rw [e]
  exact ⟨i6, br_c (fun h => ht (Or.inl h)) (fun h => zy_rds hp (fun h2 => zx_1 (ht (Or.inr h2))) (fun h2 => zx_0 (hf (fun z => z.elim h h2))))⟩

theorem zy_r144 {post : Int32 → Prop} {J : Int32 → Int32 → Int32 → Int32 → Int32 → Prop} {p x : Nat} {a b ol al z : Int32} (hp : p < 6) (hol : ol = 0 ∨ ol = 1)
    (hal : (al = 1 ∧ zq_alo ops xs as p x) ∨ (al = 0 ∧ ¬ zq_alo ops xs as p x))
    (ht : zq_lows ops xs as p x → J a b z ol (nI p - 1)) (hf : ¬ zq_lows ops xs as p x → J a b z 0 (nI p - 1)) : wY_role_144 post J (nI x) a b ol (nI p) al z (nI r) (nI W) (nI m) fR ops xs as bs sc ce dn := by
  obtain ⟨i6, e⟩ := zx_i6 hp
  unfold wY_role_144
  rw [e]
  rcases hol with e0 | e1
  · subst e0
    refine br_t rfl (nm_r (zq_m1 p) ?_)
    by_cases h : zq_lows ops xs as p x
    · exact ht h
    · exact hf h
  · subst e1
    refine br_f (by decide) ?_
    rcases hal with ⟨ea, ha⟩ | ⟨ea, ha⟩
    · subst ea
      exact br_f (by decide) ⟨i6, br_c (fun h4 => nm_r (zq_m1 p) (ht (zq_alo_l.mpr ⟨ha, h4⟩))) (fun h4 => nm_r (zq_m1 p) (hf (fun z => h4 (zq_alo_l.mp z).2)))⟩
    · subst ea
      exact br_t rfl (nm_r (zq_m1 p) (hf (fun z => ha (zq_alo_l.mp z).1)))
theorem zy_r105 {post : Int32 → Prop} {J : Int32 → Int32 → Int32 → Int32 → Int32 → Prop} {p x : Nat} {a b oa ol al : Int32} (hp : p < 6) (hoa : oa = 0 ∨ oa = 1)
    (hal : (al = 1 ∧ zq_alo ops xs as p x) ∨ (al = 0 ∧ ¬ zq_alo ops xs as p x))
    (ht : zq_adds ops xs as p x → wY_role_144 post J (nI x) a b ol (nI p) al oa (nI r) (nI W) (nI m) fR ops xs as bs sc ce dn) (hf : ¬ zq_adds ops xs as p x → wY_role_144 post J (nI x) a b ol (nI p) al 0 (nI r) (nI W) (nI m) fR ops xs as bs sc ce dn) : wY_role_105 post J (nI x) a b oa ol (nI p) al (nI r) (nI W) (nI m) fR ops xs as bs sc ce dn := by
  obtain ⟨i6, e⟩ := zx_i6 hp
  unfold wY_role_105 wY_role_143 wY_role_139
  rw [e]
  rcases hoa with e0 | e1
  · subst e0
    refine br_t rfl ?_
    by_cases h : zq_adds ops xs as p x
    · exact ht h
    · exact hf h
  · subst e1
    refine br_f (by decide) ?_
    rcases hal with ⟨ea, ha⟩ | ⟨ea, ha⟩
    · subst ea
      exact br_f (by decide) ⟨i6, br_c (fun h3 => ht (zq_alo_a.mpr ⟨ha, Or.inl h3⟩)) (fun h3 => ⟨i6, br_c (fun h5 => ht (zq_alo_a.mpr ⟨ha, Or.inr h5⟩)) (fun h5 => hf (fun z => (zq_alo_a.mp z).2.elim h3 h5))⟩)⟩
    · subst ea
      exact br_t rfl (hf (fun z => ha (zq_alo_a.mp z).1))
theorem zy_r78 {post : Int32 → Prop} {J : Int32 → Int32 → Int32 → Int32 → Int32 → Prop} {p x : Nat} {a b oa ol : Int32} (hp : p < 6)
    (h : ∀ al, ((al = 1 ∧ zq_alo ops xs as p x) ∨ (al = 0 ∧ ¬ zq_alo ops xs as p x)) → wY_role_105 post J (nI x) a b oa ol (nI p) al (nI r) (nI W) (nI m) fR ops xs as bs sc ce dn) : wY_role_78 post J (nI x) a oa ol (nI p) b (nI r) (nI W) (nI m) fR ops xs as bs sc ce dn := by
  obtain ⟨i6, e⟩ := zx_i6 hp
  unfold wY_role_78 wY_role_104
  rw [e]
  exact ⟨i6, br_c (fun hx => zy_rds hp (fun h2 => zx_1 (h 0 (Or.inr ⟨rfl, fun z => z.2 h2⟩))) (fun h2 => zx_0 (h 1 (Or.inl ⟨rfl, hx, h2⟩)))) (fun hx => h 0 (Or.inr ⟨rfl, fun z => hx z.1⟩))⟩

def zy_fi (g : Option Nat) : Int32 := match g with
  | none => -1
  | some f => nI f

theorem zy_rol_lp {post : Int32 → Prop} {x : Nat} (hm : m ≤ 6) (hok : ∀ p, p < m → zq_ok ops xs as bs r p) (hpost : post (zq_rol ops xs as m x)) :
    ∀ k sh oa ol g, k ≤ m → zq_firs ops xs as k m x g → zq_all k m (fun q => ¬ zq_chg ops xs q x) sh →
      zq_all k m (fun q => zq_ment ops xs as q x → zq_adds ops xs as q x) oa → zq_all k m (fun q => zq_ment ops xs as q x → zq_lows ops xs as q x) ol →
      wY_role_29 post (nI x) (nI r) (nI W) (nI m) fR ops xs as bs sc ce dn (k + 1) (zy_fi g) sh oa ol (nI k - 1) := by
  intro k
  induction k with
  | zero =>
    intro sh oa ol g hkm hg hsh hoa hol
    refine br_t (by decide) ?_
    cases g with
    | none =>
      rw [zq_rol_0 ops xs as hg] at hpost
      exact br_f (by decide) hpost
    | some f =>
      have hf : f < m := by
        rcases hg with ⟨e, _⟩ | ⟨f', e, _, h2, _⟩
        · exact nomatch e
        · cases e; exact h2
      have hof := zq_ok_ops ops xs as bs (hok f hf)
      refine br_t (nI_pos' (by omega)) ?_
      rcases zq_all_01 hsh with e | e
      · subst e
        have n1 := zq_all_0 hsh
        refine br_t rfl ⟨(zx_i6 (by omega)).1, ?_⟩
        show (1 < ops (nI f).toNatClampNeg → _) ∧ (¬ 1 < ops (nI f).toNatClampNeg → _)
        rw [(zx_i6 (p := f) (by omega)).2]
        by_cases h0 : ops f = 0
        · rw [zq_rol_2 ops xs as hg n1 (Or.inl h0)] at hpost
          exact br_f (by rw [h0]; decide) hpost
        by_cases h1 : ops f = 1
        · rw [zq_rol_2 ops xs as hg n1 (Or.inr h1)] at hpost
          exact br_f (by rw [h1]; decide) hpost
        have hgt : 1 < ops f := by
          rcases hof with e | e | e | e | e | e
          · exact absurd e h0
          · exact absurd e h1
          · rw [e]; decide
          · rw [e]; decide
          · rw [e]; decide
          · rw [e]; decide
        refine br_t hgt ?_
        rcases zq_all_01 hoa with e | e
        · subst e
          refine br_t rfl ?_
          rcases zq_all_01 hol with e | e
          · subst e
            rw [zq_rol_5 ops xs as hg n1 h0 h1 (zq_all_0 hoa) (zq_all_0 hol)] at hpost
            exact br_t rfl hpost
          · subst e
            rw [zq_rol_4 ops xs as hg n1 h0 h1 (zq_all_0 hoa) (zq_all_1 hol)] at hpost
            exact br_f (by decide) hpost
        · subst e
          rw [zq_rol_3 ops xs as hg n1 h0 h1 (zq_all_1 hoa)] at hpost
          exact br_f (by decide) hpost
      · subst e
        rw [zq_rol_1 ops xs as hg (zq_all_1 hsh)] at hpost
        exact br_f (by decide) hpost
  | succ p ih =>
    intro sh oa ol g hkm hg hsh hoa hol
    have hp : p < m := by omega
    rw [nI_pred]
    refine br_f (nI_pos (by omega)) (zy_ment (by omega) (fun hmt => zx_1 ?_) (fun hmt => zx_0 ?_))
    · have hg' : zq_firs ops xs as p m x (some p) := zq_firs_lm ops xs as hp hmt
      have key : ∀ sh', zq_all p m (fun q => ¬ zq_chg ops xs q x) sh' → wY_role_78 post (wY_role_29 post (nI x) (nI r) (nI W) (nI m) fR ops xs as bs sc ce dn (p + 1)) (nI x) (nI p) oa ol (nI p) sh' (nI r) (nI W) (nI m) fR ops xs as bs sc ce dn := by
        intro sh' hsh'
        have k3 : ∀ oa' ol', zq_all p m (fun q => zq_ment ops xs as q x → zq_adds ops xs as q x) oa' → zq_all p m (fun q => zq_ment ops xs as q x → zq_lows ops xs as q x) ol' →
            wY_role_29 post (nI x) (nI r) (nI W) (nI m) fR ops xs as bs sc ce dn (p + 1) (nI p) sh' oa' ol' (nI p - 1) :=
          fun oa' ol' b c => ih sh' oa' ol' (some p) (by omega) hg' hsh' b c
        refine zy_r78 (by omega) (fun al hal => ?_)
        have k2 : ∀ oa', zq_all p m (fun q => zq_ment ops xs as q x → zq_adds ops xs as q x) oa' →
            wY_role_144 post (wY_role_29 post (nI x) (nI r) (nI W) (nI m) fR ops xs as bs sc ce dn (p + 1)) (nI x) (nI p) sh' ol (nI p) al oa' (nI r) (nI W) (nI m) fR ops xs as bs sc ce dn :=
          fun oa' b => zy_r144 (by omega) (zq_all_01 hol) hal (fun h => k3 oa' ol b (zq_all_lt hol (fun _ => h))) (fun h => k3 oa' 0 b (zq_all_lf hp (fun z => h (z hmt))))
        exact zy_r105 (by omega) (zq_all_01 hoa) hal (fun h => k2 oa (zq_all_lt hoa (fun _ => h))) (fun h => k2 0 (zq_all_lf hp (fun z => h (z hmt))))
      have kt : zq_chg ops xs p x → wY_role_77 post (wY_role_29 post (nI x) (nI r) (nI W) (nI m) fR ops xs as bs sc ce dn (p + 1)) (nI x) (nI p) oa ol (nI p) (nI r) (nI W) (nI m) fR ops xs as bs sc ce dn :=
        fun h => key 0 (zq_all_lf hp (fun z => z h))
      rcases zq_all_01 hsh with e | e
      · subst e
        refine br_t rfl (key 0 ?_)
        by_cases h : zq_chg ops xs p x
        · exact zq_all_lf hp (fun z => z h)
        · exact zq_all_lt hsh h
      · subst e
        have kf : ¬ zq_chg ops xs p x → wY_role_73 post (wY_role_29 post (nI x) (nI r) (nI W) (nI m) fR ops xs as bs sc ce dn (p + 1)) (nI x) (nI p) oa ol (nI p) (nI r) (nI W) (nI m) fR ops xs as bs sc ce dn :=
          fun h => key 1 (zq_all_lt hsh h)
        obtain ⟨i6, e6⟩ := zx_i6 (p := p) (by omega)
        refine br_f (by decide) ⟨i6, ?_⟩
        rw [e6]
        exact br_c (fun hx => ⟨i6, br_c (fun h2 => kf (fun z => z.2 h2)) (fun h2 => kt ⟨hx, h2⟩)⟩) (fun hx => kf (fun z => hx z.1))
    · refine nm_r (zq_m1 p) (ih sh oa ol g (by omega) (zq_firs_ln ops xs as hg hmt) (zq_all_lt hsh (fun z => hmt (Or.inl z.1))) (zq_all_lt hoa (fun z => absurd z hmt)) (zq_all_lt hol (fun z => absurd z hmt)))

theorem zy_rol {post : Int32 → Prop} {x : Nat} (hx : x < 4) (hm : m ≤ 6) (hok : ∀ p, p < m → zq_ok ops xs as bs r p) (hpost : post (zq_rol ops xs as m x)) : wpY_role post (nI r, nI W, nI m, fR, ops, xs, as, bs, sc, ce, dn) (nI x) :=
  br_f (nI_pos (by omega)) (br_t (nI_le (b := 3) (by omega) (by decide)) (nm_e ⟨m + 1, zy_rol_lp hm hok hpost m 1 1 1 none (Nat.le_refl m) (zq_firs_e ops xs as) zq_all_e zq_all_e zq_all_e⟩))
end
end
section
/-! clash and parallel, of both -/
def zq_hit (as bs : Nat → Int32) (r p q i j : Nat) : Prop := i < r ∧ j < r ∧ i ≠ j ∧ as p * nI i + bs p = as q * nI j + bs q
theorem zq_hit_m {as bs : Nat → Int32} {r p q i j : Nat} (h : zq_hit as bs r p q i j) : zq_meet as bs r p q := ⟨i, j, h.1, h.2.1, h.2.2.1, h.2.2.2⟩
theorem zq_hit_n {as bs : Nat → Int32} {r p q : Nat} (h : ∀ i, i < r → ∀ j, ¬ zq_hit as bs r p q i j) : ¬ zq_meet as bs r p q := by
  intro z
  obtain ⟨i, j, a, b, c, d⟩ := z
  exact h i a j ⟨a, b, c, d⟩

section
variable {r W m : Nat} {fR fL : Int32} {ops xs as bs sc ce rc own it pl lf : Nat → Int32}
theorem zx_ceo {post : Int32 → Prop} {p : Nat} {i : Int32} (hp : p < 6) (h : post (as p * i + bs p)) : wpX_cellOf post (nI r, nI W, nI m, fR, fL, ops, xs, as, bs, sc, ce, rc, own, it, pl, lf) (nI p) i := by
  obtain ⟨i6, e⟩ := zx_i6 hp
  unfold wpX_cellOf
  dsimp only
  rw [e]
  exact ⟨i6, i6, h⟩
theorem zx_meet_in {post : Int32 → Prop} {J : Int32 → Prop} {p q i : Nat} (hr : r ≤ 8) (hp : p < 6) (hq : q < 6) (hi : i < r) (h1 : zq_meet as bs r p q → post 1)
    (hJ : (∀ j, ¬ zq_hit as bs r p q i j) → J (nI (i + 1))) :
    ∀ d j, j + d = r → (∀ j', j' < j → ¬ zq_hit as bs r p q i j') → wX_meetAcrossIterations_13 post J (nI p) (nI q) (nI i) (nI r) (nI W) (nI m) fR fL ops xs as bs sc ce rc own it pl lf (d + 1) (nI j) := by
  intro d
  induction d with
  | zero =>
    intro j hj hn
    have e : j = r := by omega
    subst e
    exact br_t (nI_le (Nat.le_refl _) (by omega)) (nm_r (nI_1 i) (hJ (fun j' z => hn j' z.2.1 z)))
  | succ d ih =>
    intro j hj hn
    have hjr : j < r := by omega
    have nx : ¬ zq_hit as bs r p q i j → wX_meetAcrossIterations_13 post J (nI p) (nI q) (nI i) (nI r) (nI W) (nI m) fR fL ops xs as bs sc ce rc own it pl lf (d + 1) (nI (j + 1)) := by
      intro hh
      refine ih (j + 1) (by omega) (fun j' h' => ?_)
      by_cases e : j' = j
      · rw [e]; exact hh
      · exact hn j' (by omega)
    refine br_f (nI_ge hjr (by omega)) (br_c (fun he => nm_r (nI_1 j) (nx ?_)) (fun he => zx_ceo hp (zx_ceo hq (br_c (fun hc => h1 ?_) (fun hc => nm_r (nI_1 j) (nx (fun z => hc z.2.2.2)))))))
    · intro z
      exact z.2.2.1 ((nI_eq (by omega) (by omega)).mp he)
    · exact ⟨i, j, hi, hjr, fun z => he (by rw [z]), hc⟩
theorem zx_meet_out {post : Int32 → Prop} {p q : Nat} (hr : r ≤ 8) (hp : p < 6) (hq : q < 6) (h1 : zq_meet as bs r p q → post 1) (h0 : ¬ zq_meet as bs r p q → post 0) :
    ∀ d i, i + d = r → (∀ i', i' < i → ∀ j, ¬ zq_hit as bs r p q i' j) → wX_meetAcrossIterations_2 post (nI p) (nI q) (nI r) (nI W) (nI m) fR fL ops xs as bs sc ce rc own it pl lf (d + 1) (nI i) := by
  intro d
  induction d with
  | zero =>
    intro i hi hn
    have e : i = r := by omega
    subst e
    exact br_t (nI_le (Nat.le_refl _) (by omega)) (h0 (zq_hit_n hn))
  | succ d ih =>
    intro i hi hn
    have hir : i < r := by omega
    refine br_f (nI_ge hir (by omega)) ⟨r + 1, zx_meet_in hr hp hq hir h1 (fun hh => ih (i + 1) (by omega) (fun i' h' => ?_)) r 0 (by omega) (fun j' h' => by omega)⟩
    by_cases e : i' = i
    · rw [e]; exact hh
    · exact hn i' (by omega)
theorem zx_meet {post : Int32 → Prop} {p q : Nat} (hr : r ≤ 8) (hp : p < 6) (hq : q < 6) (h1 : zq_meet as bs r p q → post 1) (h0 : ¬ zq_meet as bs r p q → post 0) : wpX_meetAcrossIterations post (nI r, nI W, nI m, fR, fL, ops, xs, as, bs, sc, ce, rc, own, it, pl, lf) (nI p) (nI q) :=
  ⟨r + 1, zx_meet_out hr hp hq h1 h0 r 0 (by omega) (fun i' h' => by omega)⟩
theorem zx_plc {post : Int32 → Prop} {p : Nat} (hm : m ≤ 6) (hp : p < m) (h : post 1) : wpX_isPlace post (nI r, nI W, nI m, fR, fL, ops, xs, as, bs, sc, ce, rc, own, it, pl, lf) (nI p) :=
  br_f (nI_pos (by omega)) (br_f (nI_ge hp (by omega)) h)
theorem zx_plc0 {post : Int32 → Prop} {v : Int32} (hv : v < 0 ∨ nI m ≤ v) (h : post 0) : wpX_isPlace post (nI r, nI W, nI m, fR, fL, ops, xs, as, bs, sc, ce, rc, own, it, pl, lf) v :=
  br_c (fun _ => h) (fun n => br_t (hv.resolve_left n) h)
theorem zx_cla {post : Int32 → Prop} {p q : Nat} (hr : r ≤ 8) (hm : m ≤ 6) (hp : p < m) (hq : q < m) (h1 : zq_cla ops as bs r p q → post 1) (h0 : ¬ zq_cla ops as bs r p q → post 0) : wpX_clash post (nI r, nI W, nI m, fR, fL, ops, xs, as, bs, sc, ce, rc, own, it, pl, lf) (nI p) (nI q) := by
  obtain ⟨ip, ep⟩ := zx_i6 (p := p) (by omega)
  obtain ⟨iq, eq⟩ := zx_i6 (p := q) (by omega)
  have k : zq_tou ops p → zq_tou ops q → (ops p = 2 ∨ ops q = 2) → wX_clash_66 post (nI p) (nI q) (nI r) (nI W) (nI m) fR fL ops xs as bs sc ce rc own it pl lf := fun a b c =>
    zx_meet hr (by omega) (by omega) (fun z => ⟨narrow_b1, h1 ⟨a, b, c, z⟩⟩) (fun z => ⟨narrow_b0, h0 (fun y => z y.2.2.2)⟩)
  unfold wpX_clash
  refine zx_plc hm hp (zx_1 (zx_plc hm hq (zx_1 ⟨ip, ?_⟩)))
  rw [ep, eq]
  exact zx_uc (fun a => zx_1 ⟨iq, zx_uc (fun b => zx_1 ⟨ip, br_c (fun c => k a b (Or.inl c)) (fun c => ⟨iq, br_c (fun d => k a b (Or.inr d)) (fun d => h0 (fun y => y.2.2.1.elim c d))⟩)⟩) (fun b => zx_0 (h0 (fun y => b y.2.1)))⟩) (fun a => zx_0 (h0 (fun y => a y.1)))

theorem zx_anc {post : Int32 → Prop} (hm : m ≤ 6) (hok : ∀ p, p < m → zq_ok ops xs as bs r p) (h0 : (∀ x, x < 4 → ¬ zq_rol ops xs as m x = 5) → post 0) (h1 : (¬ ∀ x, x < 4 → ¬ zq_rol ops xs as m x = 5) → post 1) :
    ∀ d x, x + d = 4 → (∀ x', x' < x → ¬ zq_rol ops xs as m x' = 5) → wX_anyCarried_2 post (nI r) (nI W) (nI m) fR fL ops xs as bs sc ce rc own it pl lf (d + 1) (nI x) := by
  intro d
  induction d with
  | zero =>
    intro x hx hn
    have e : x = 4 := by omega
    subst e
    exact br_t (nI_le (a := 4) (b := 4) (Nat.le_refl _) (by omega)) (h0 hn)
  | succ d ih =>
    intro x hx hn
    refine br_f (nI_ge (b := 4) (by omega) (by omega)) (zx_rol hm hok (br_c (fun h => h1 (fun z => z x (by omega) h)) (fun h => nm_r (nI_1 x) (ih (x + 1) (by omega) (fun x' h' => ?_)))))
    by_cases e : x' = x
    · rw [e]; exact h
    · exact hn x' (by omega)
theorem zx_ancl_in {post : Int32 → Prop} {J : Int32 → Prop} {p : Nat} (hr : r ≤ 8) (hm : m ≤ 6) (hp : p < m) (h1 : (∃ p q, p < m ∧ q < m ∧ zq_cla ops as bs r p q) → post 1)
    (hJ : (∀ q, p ≤ q → q < m → ¬ zq_cla ops as bs r p q) → J (nI (p + 1))) :
    ∀ d q, q + d = m → p ≤ q → (∀ q', p ≤ q' → q' < q → ¬ zq_cla ops as bs r p q') → wX_anyClash_12 post J (nI p) (nI r) (nI W) (nI m) fR fL ops xs as bs sc ce rc own it pl lf (d + 1) (nI q) := by
  intro d
  induction d with
  | zero =>
    intro q hq hpq hn
    have e : q = m := by omega
    subst e
    exact br_t (nI_le (Nat.le_refl _) (by omega)) (nm_r (nI_1 p) (hJ hn))
  | succ d ih =>
    intro q hq hpq hn
    have hqm : q < m := by omega
    refine br_f (nI_ge hqm (by omega)) (zx_cla hr hm hp hqm (fun h => zx_1 (h1 ⟨p, q, hp, hqm, h⟩)) (fun h => zx_0 (nm_r (nI_1 q) (ih (q + 1) (by omega) (by omega) (fun q' a b => ?_)))))
    by_cases e : q' = q
    · rw [e]; exact h
    · exact hn q' a (by omega)
theorem zx_ancl_out {post : Int32 → Prop} (hr : r ≤ 8) (hm : m ≤ 6) (h1 : (∃ p q, p < m ∧ q < m ∧ zq_cla ops as bs r p q) → post 1) (h0 : (∀ p q, p < m → q < m → ¬ zq_cla ops as bs r p q) → post 0) :
    ∀ d p, p + d = m → (∀ p', p' < p → ∀ q, p' ≤ q → q < m → ¬ zq_cla ops as bs r p' q) → wX_anyClash_2 post (nI r) (nI W) (nI m) fR fL ops xs as bs sc ce rc own it pl lf (d + 1) (nI p) := by
  intro d
  induction d with
  | zero =>
    intro p hp hn
    have e : p = m := by omega
    subst e
    refine br_t (nI_le (Nat.le_refl _) (by omega)) (h0 (fun a b ha hb hc => ?_))
    rcases Nat.le_total a b with l | l
    · exact hn a ha b l hb hc
    · exact hn b hb a l ha (zq_cla_s ops as bs hc)
  | succ d ih =>
    intro p hp hn
    have hpm : p < m := by omega
    refine br_f (nI_ge hpm (by omega)) ⟨m - p + 1, zx_ancl_in hr hm hpm h1 (fun hh => ih (p + 1) (by omega) (fun p' h' => ?_)) (m - p) p (by omega) (Nat.le_refl p) (fun q' a b => by omega)⟩
    by_cases e : p' = p
    · rw [e]; exact hh
    · exact hn p' (by omega)
theorem zx_anyC {post : Int32 → Prop} (hm : m ≤ 6) (hok : ∀ p, p < m → zq_ok ops xs as bs r p) (h0 : (∀ x, x < 4 → ¬ zq_rol ops xs as m x = 5) → post 0) (h1 : (¬ ∀ x, x < 4 → ¬ zq_rol ops xs as m x = 5) → post 1) : wpX_anyCarried post (nI r, nI W, nI m, fR, fL, ops, xs, as, bs, sc, ce, rc, own, it, pl, lf) :=
  ⟨5, zx_anc hm hok h0 h1 4 0 (by omega) (fun x' h' => by omega)⟩
theorem zx_anyCl {post : Int32 → Prop} (hr : r ≤ 8) (hm : m ≤ 6) (h1 : (∃ p q, p < m ∧ q < m ∧ zq_cla ops as bs r p q) → post 1) (h0 : (∀ p q, p < m → q < m → ¬ zq_cla ops as bs r p q) → post 0) : wpX_anyClash post (nI r, nI W, nI m, fR, fL, ops, xs, as, bs, sc, ce, rc, own, it, pl, lf) :=
  ⟨m + 1, zx_ancl_out hr hm h1 h0 m 0 (by omega) (fun p' h' => by omega)⟩
theorem zx_par {post : Int32 → Prop} (hr : r ≤ 8) (hm : m ≤ 6) (hok : ∀ p, p < m → zq_ok ops xs as bs r p) (h1 : zq_par ops xs as bs m r → post 1) (h0 : ¬ zq_par ops xs as bs m r → post 0) : wpX_parallel post (nI r, nI W, nI m, fR, fL, ops, xs, as, bs, sc, ce, rc, own, it, pl, lf) := by
  unfold wpX_parallel
  refine zx_anyC hm hok (fun a => zx_0 (zx_anyCl hr hm (fun b => zx_1 (h0 (fun z => ?_))) (fun b => zx_0 (h1 ⟨a, b⟩)))) (fun a => zx_1 (h0 (fun z => a z.1)))
  obtain ⟨p, q, hp, hq, hc⟩ := b
  exact z.2 p q hp hq hc
end

section
variable {r W m : Nat} {fR : Int32} {ops xs as bs sc ce dn : Nat → Int32}
def zq_fd (as bs : Nat → Int32) (r p q i j : Nat) (v : Int32) : Prop := (v = 1 ∧ zq_meet as bs r p q) ∨ (v = 0 ∧ (∀ i', i' < i → ∀ j', ¬ zq_hit as bs r p q i' j') ∧ ∀ j', j' < j → ¬ zq_hit as bs r p q i j')
theorem zy_meet_in {post : Int32 → Prop} {J : Int32 → Int32 → Prop} {p q i : Nat} (hr : r ≤ 8) (hp : p < 6) (hq : q < 6) (hi : i < r)
    (hJ : ∀ v, zq_fd as bs r p q (i + 1) 0 v → J v (nI (i + 1))) :
    ∀ d j v, j + d = r → zq_fd as bs r p q i j v → wY_clash_79 post J (nI p) (nI q) (nI i) (nI r) (nI W) (nI m) fR ops xs as bs sc ce dn (d + 1) v (nI j) := by
  obtain ⟨ip, ep⟩ := zx_i6 hp
  obtain ⟨iq, eq⟩ := zx_i6 hq
  intro d
  induction d with
  | zero =>
    intro j v hj hn
    have e : j = r := by omega
    subst e
    refine br_t (nI_le (Nat.le_refl _) (by omega)) (nm_r (nI_1 i) (hJ v ?_))
    rcases hn with h | ⟨h, a, b⟩
    · exact Or.inl h
    · refine Or.inr ⟨h, fun i' h' => ?_, fun j' h' => by omega⟩
      by_cases e : i' = i
      · rw [e]; exact fun j' z => b j' z.2.1 z
      · exact a i' (by omega)
  | succ d ih =>
    intro j v hj hn
    have hjr : j < r := by omega
    refine br_f (nI_ge hjr (by omega)) ?_
    rcases hn with ⟨h, a⟩ | ⟨h, a, b⟩
    · subst h
      exact br_f (by decide) (nm_r (nI_1 j) (ih (j + 1) 1 (by omega) (Or.inl ⟨rfl, a⟩)))
    · subst h
      have nx : ¬ zq_hit as bs r p q i j → wY_clash_79 post J (nI p) (nI q) (nI i) (nI r) (nI W) (nI m) fR ops xs as bs sc ce dn (d + 1) 0 (nI (j + 1)) := by
        intro hh
        refine ih (j + 1) 0 (by omega) (Or.inr ⟨rfl, a, fun j' h' => ?_⟩)
        by_cases e : j' = j
        · rw [e]; exact hh
        · exact b j' (by omega)
      refine br_t rfl (br_c (fun he => nm_r (nI_1 j) (nx (fun z => z.2.2.1 ((nI_eq (by omega) (by omega)).mp he)))) (fun he => ⟨ip, ip, iq, iq, ?_⟩))
      rw [ep, eq]
      exact br_c (fun hc => nm_r (nI_1 j) (ih (j + 1) 1 (by omega) (Or.inl ⟨rfl, i, j, hi, hjr, fun z => he (by rw [z]), hc⟩))) (fun hc => nm_r (nI_1 j) (nx (fun z => hc z.2.2.2)))
theorem zy_meet_out {post : Int32 → Prop} {p q : Nat} (hr : r ≤ 8) (hp : p < 6) (hq : q < 6) (h1 : zq_meet as bs r p q → post 1) (h0 : ¬ zq_meet as bs r p q → post 0) :
    ∀ d i v, i + d = r → zq_fd as bs r p q i 0 v → wY_clash_67 post (nI p) (nI q) (nI r) (nI W) (nI m) fR ops xs as bs sc ce dn (d + 1) v (nI i) := by
  intro d
  induction d with
  | zero =>
    intro i v hi hn
    have e : i = r := by omega
    subst e
    refine br_t (nI_le (Nat.le_refl _) (by omega)) ?_
    rcases hn with ⟨h, a⟩ | ⟨h, a, b⟩
    · subst h; exact ⟨narrow_b1, h1 a⟩
    · subst h; exact ⟨narrow_b0, h0 (zq_hit_n a)⟩
  | succ d ih =>
    intro i v hi hn
    have hir : i < r := by omega
    exact br_f (nI_ge hir (by omega)) ⟨r + 1, zy_meet_in hr hp hq hir (fun v' h' => ih (i + 1) v' (by omega) h') r 0 v (by omega) hn⟩
theorem zy_tou {post : Int32 → Prop} {p : Nat} (hp : p < 6) (h1 : zq_tou ops p → post 1) (h0 : ¬ zq_tou ops p → post 0) : wpY_touches post (nI r, nI W, nI m, fR, ops, xs, as, bs, sc, ce, dn) (nI p) := by
  obtain ⟨ip, ep⟩ := zx_i6 hp
  unfold wpY_touches
  dsimp only
  rw [ep]
  exact ⟨ip, br_c (fun h => h1 (Or.inl h)) (fun h => ⟨ip, br_c (fun h2 => h1 (Or.inr h2)) (fun h2 => h0 (fun z => z.elim h h2))⟩)⟩
theorem zy_cla {post : Int32 → Prop} {p q : Nat} (hr : r ≤ 8) (hm : m ≤ 6) (hp : p < m) (hq : q < m) (h1 : zq_cla ops as bs r p q → post 1) (h0 : ¬ zq_cla ops as bs r p q → post 0) : wpY_clash post (nI r, nI W, nI m, fR, ops, xs, as, bs, sc, ce, dn) (nI p) (nI q) := by
  obtain ⟨ip, ep⟩ := zx_i6 (p := p) (by omega)
  obtain ⟨iq, eq⟩ := zx_i6 (p := q) (by omega)
  have k : zq_tou ops p → zq_tou ops q → (ops p = 2 ∨ ops q = 2) → ∃ n67 : Nat, wY_clash_67 post (nI p) (nI q) (nI r) (nI W) (nI m) fR ops xs as bs sc ce dn n67 0 0 := fun a b c =>
    ⟨r + 1, zy_meet_out hr (by omega) (by omega) (fun z => h1 ⟨a, b, c, z⟩) (fun z => h0 (fun y => z y.2.2.2)) r 0 0 (by omega) (Or.inr ⟨rfl, fun i' h' => by omega, fun j' h' => by omega⟩)⟩
  unfold wpY_clash
  refine br_f (nI_pos (by omega)) (br_f (nI_ge hp (by omega)) (br_f (nI_pos (by omega)) (br_f (nI_ge hq (by omega)) (zy_tou (by omega) (fun a => zx_1 (zy_tou (by omega) (fun b => zx_1 ⟨ip, ?_⟩) (fun b => zx_0 (h0 (fun y => b y.2.1))))) (fun a => zx_0 (h0 (fun y => a y.1)))))))
  rw [ep, eq]
  exact br_c (fun c => k a b (Or.inl c)) (fun c => ⟨iq, br_c (fun d => k a b (Or.inr d)) (fun d => h0 (fun y => y.2.2.1.elim c d))⟩)

/-- the reference's running answer: 1 while nothing was found -/
def zq_okv (P : Prop) (Q : Prop) (v : Int32) : Prop := (v = 1 ∧ Q) ∨ (v = 0 ∧ ¬ P)
theorem zy_par46 {post : Int32 → Prop} {J : Int32 → Int32 → Prop} {p : Nat} (hr : r ≤ 8) (hm : m ≤ 6) (hp : p < m) {Q : Prop}
    (hJ : ∀ v, zq_okv (zq_par ops xs as bs m r) (Q ∧ ∀ q, q < m → ¬ zq_cla ops as bs r p q) v → J v (nI (p + 1))) :
    ∀ d q v, q + d = m → zq_okv (zq_par ops xs as bs m r) (Q ∧ ∀ q', q' < q → ¬ zq_cla ops as bs r p q') v → wY_parallel_46 post J (nI p) (nI r) (nI W) (nI m) fR ops xs as bs sc ce dn (d + 1) v (nI q) := by
  intro d
  induction d with
  | zero =>
    intro q v hq hn
    have e : q = m := by omega
    subst e
    exact br_t (nI_le (Nat.le_refl _) (by omega)) (nm_r (nI_1 p) (hJ v hn))
  | succ d ih =>
    intro q v hq hn
    have hqm : q < m := by omega
    refine br_f (nI_ge hqm (by omega)) ?_
    rcases hn with ⟨h, a⟩ | ⟨h, a⟩
    · subst h
      refine br_f (by decide) (zy_cla hr hm hp hqm (fun h => zx_1 (nm_r (nI_1 q) (ih (q + 1) 0 (by omega) (Or.inr ⟨rfl, fun z => z.2 p q hp hqm h⟩)))) (fun h => zx_0 (nm_r (nI_1 q) (ih (q + 1) 1 (by omega) (Or.inl ⟨rfl, a.1, fun q' h' => ?_⟩)))))
      by_cases e : q' = q
      · rw [e]; exact h
      · exact a.2 q' (by omega)
    · subst h
      exact br_t rfl (nm_r (nI_1 q) (ih (q + 1) 0 (by omega) (Or.inr ⟨rfl, a⟩)))
theorem zy_par36 {post : Int32 → Prop} (hr : r ≤ 8) (hm : m ≤ 6) {Q : Prop} (h1 : (Q ∧ ∀ p, p < m → ∀ q, q < m → ¬ zq_cla ops as bs r p q) → post 1) (h0 : ¬ zq_par ops xs as bs m r → post 0) :
    ∀ d p v, p + d = m → zq_okv (zq_par ops xs as bs m r) (Q ∧ ∀ p', p' < p → ∀ q, q < m → ¬ zq_cla ops as bs r p' q) v → wY_parallel_36 post (nI r) (nI W) (nI m) fR ops xs as bs sc ce dn (d + 1) v (nI p) := by
  intro d
  induction d with
  | zero =>
    intro p v hp hn
    have e : p = m := by omega
    subst e
    refine br_t (nI_le (Nat.le_refl _) (by omega)) ?_
    rcases hn with ⟨h, a⟩ | ⟨h, a⟩
    · subst h; exact ⟨narrow_b1, h1 a⟩
    · subst h; exact ⟨narrow_b0, h0 a⟩
  | succ d ih =>
    intro p v hp hn
    have hpm : p < m := by omega
    refine br_f (nI_ge hpm (by omega)) ⟨m + 1, zy_par46 (xs := xs) (Q := Q ∧ ∀ p', p' < p → ∀ q, q < m → ¬ zq_cla ops as bs r p' q) hr hm hpm (fun v' h' => ih (p + 1) v' (by omega) ?_) m 0 v (by omega) ?_⟩
    · rcases h' with ⟨h, a⟩ | ⟨h, a⟩
      · refine Or.inl ⟨h, a.1.1, fun p' hp' => ?_⟩
        by_cases e : p' = p
        · rw [e]; exact a.2
        · exact a.1.2 p' (by omega)
      · exact Or.inr ⟨h, a⟩
    · rcases hn with ⟨h, a⟩ | ⟨h, a⟩
      · exact Or.inl ⟨h, a, fun q' h' => by omega⟩
      · exact Or.inr ⟨h, a⟩
theorem zy_par4 {post : Int32 → Prop} (hr : r ≤ 8) (hm : m ≤ 6) (hok : ∀ p, p < m → zq_ok ops xs as bs r p) (h1 : zq_par ops xs as bs m r → post 1) (h0 : ¬ zq_par ops xs as bs m r → post 0) :
    ∀ d x v, x + d = 4 → zq_okv (zq_par ops xs as bs m r) (∀ x', x' < x → ¬ zq_rol ops xs as m x' = 5) v → wY_parallel_4 post (nI r) (nI W) (nI m) fR ops xs as bs sc ce dn (d + 1) v (nI x) := by
  intro d
  induction d with
  | zero =>
    intro x v hx hn
    have e : x = 4 := by omega
    subst e
    refine br_t (nI_le (a := 4) (b := 4) (Nat.le_refl _) (by omega)) ⟨m + 1, zy_par36 (xs := xs) (Q := ∀ x', x' < 4 → ¬ zq_rol ops xs as m x' = 5) hr hm (fun z => h1 ⟨z.1, fun p q a b => z.2 p a q b⟩) h0 m 0 v (by omega) ?_⟩
    rcases hn with ⟨h, a⟩ | ⟨h, a⟩
    · exact Or.inl ⟨h, a, fun p' h' => by omega⟩
    · exact Or.inr ⟨h, a⟩
  | succ d ih =>
    intro x v hx hn
    refine br_f (nI_ge (b := 4) (by omega) (by omega)) ?_
    rcases hn with ⟨h, a⟩ | ⟨h, a⟩
    · subst h
      refine br_f (by decide) (zy_rol (by omega) hm hok (br_c (fun h => nm_r (nI_1 x) (ih (x + 1) 0 (by omega) (Or.inr ⟨rfl, fun z => z.1 x (by omega) h⟩))) (fun h => nm_r (nI_1 x) (ih (x + 1) 1 (by omega) (Or.inl ⟨rfl, fun x' h' => ?_⟩)))))
      by_cases e : x' = x
      · rw [e]; exact h
      · exact a x' (by omega)
    · subst h
      exact br_t rfl (nm_r (nI_1 x) (ih (x + 1) 0 (by omega) (Or.inr ⟨rfl, a⟩)))
theorem zy_par {post : Int32 → Prop} (hr : r ≤ 8) (hm : m ≤ 6) (hok : ∀ p, p < m → zq_ok ops xs as bs r p) (h1 : zq_par ops xs as bs m r → post 1) (h0 : ¬ zq_par ops xs as bs m r → post 0) : wpY_parallel post (nI r, nI W, nI m, fR, ops, xs, as, bs, sc, ce, dn) :=
  ⟨5, zy_par4 hr hm hok h1 h0 4 0 1 (by omega) (Or.inl ⟨rfl, fun x' h' => by omega⟩)⟩
end
end
section
/-! the component's run -/
theorem zq_ix (w x : Nat) : nI w * 4 + nI x = nI (w * 4 + x) := by
  rw [show (4 : Int32) = nI 4 from rfl, pk_mul, nI_add]
theorem zq_dm1 {m t : Nat} (hm : 0 < m) (h : t % m + 1 = m) : (t + 1) % m = 0 ∧ (t + 1) / m = t / m + 1 := by
  have e := Nat.div_add_mod t m
  have e2 : t + 1 = m * (t / m + 1) := by rw [Nat.mul_add, Nat.mul_one]; omega
  constructor
  · rw [e2]; exact Nat.mul_mod_right m _
  · rw [e2, Nat.mul_div_cancel_left _ hm]
theorem zq_dm2 {m t : Nat} (hm : 0 < m) (h : t % m + 1 < m) : (t + 1) % m = t % m + 1 ∧ (t + 1) / m = t / m := by
  have e := Nat.div_add_mod t m
  have e2 : t + 1 = m * (t / m) + (t % m + 1) := by omega
  constructor
  · have := Nat.mul_add_mod m (t / m) (t % m + 1)
    rw [← e2, Nat.mod_eq_of_lt h] at this
    exact this
  · have := Nat.mul_add_div hm (t / m) (t % m + 1)
    rw [← e2, Nat.div_eq_of_lt h] at this
    omega
theorem zq_updv {own : Nat → Int32} {w X x : Nat} {v : Int32} : upd own (w * 4 + X) v (w * 4 + x) = upd (fun x => own (w * 4 + x)) X v x := by
  unfold upd
  by_cases h : x = X
  · rw [if_pos (by omega), if_pos h]
  · rw [if_neg (by omega), if_neg h]
theorem zq_updo {own : Nat → Int32} {w X u x : Nat} {v : Int32} (hu : u ≠ w) (hX : X < 4) (hx : x < 4) : upd own (w * 4 + X) v (u * 4 + x) = own (u * 4 + x) := by
  unfold upd
  rw [if_neg (by omega)]
theorem zx_les {post : Int32 → Prop} {u v : Int32} (h : post (zq_min u v)) : wpX_lesser post u v := by
  unfold zq_min at h
  refine br_c (fun h1 => ?_) (fun h1 => ?_)
  · rw [if_neg (Int32.not_lt.mpr h1)] at h; exact h
  · rw [if_pos (Int32.not_le.mp h1)] at h; exact h

section
variable {r W m : Nat} {fR fL : Int32} {ops xs as bs sc ce rc own it pl lf : Nat → Int32}

theorem zx_copy38 {post : SX → Prop} {J : Int32 → (Nat → Int32) → (Nat → Int32) → (Nat → Int32) → (Nat → Int32) → (Nat → Int32) → (Nat → Int32) → (Nat → Int32) → (Nat → Int32) → (Nat → Int32) → (Nat → Int32) → (Nat → Int32) → Prop} {w : Nat} (hw : w < 4)
    (hJ : ∀ own', (∀ w', w' ≤ w → ∀ x, x < 4 → own' (w' * 4 + x) = sc x) → J (nI (w + 1)) ops xs as bs sc ce rc own' it pl lf) :
    ∀ d x own', x + d = 4 → (∀ w', w' < w → ∀ x, x < 4 → own' (w' * 4 + x) = sc x) → (∀ x', x' < x → own' (w * 4 + x') = sc x') →
      wX_copyState_38 post J (nI w) (nI r) (nI W) (nI m) fR fL (d + 1) (nI x) ops xs as bs sc ce rc own' it pl lf := by
  intro d
  induction d with
  | zero =>
    intro x own' hx h1 h2
    have e : x = 4 := by omega
    subst e
    refine br_t (nI_le (a := 4) (b := 4) (Nat.le_refl _) (by omega)) (nm_r (nI_1 w) (hJ own' (fun w' hw' x hx => ?_)))
    by_cases e : w' = w
    · rw [e]; exact h2 x hx
    · exact h1 w' (by omega) x hx
  | succ d ih =>
    intro x own' hx h1 h2
    have hx4 : x < 4 := by omega
    obtain ⟨i4, e4⟩ := zx_i4 hx4
    obtain ⟨i16, e16⟩ := zx_i16 (p := w * 4 + x) (by omega)
    refine br_f (nI_ge (b := 4) hx4 (by omega)) ⟨i4, ?_⟩
    rw [zq_ix]
    refine ⟨i16, ?_⟩
    rw [e16, e4]
    refine nm_e (nm_r (nI_1 x) (ih (x + 1) _ (by omega) (fun w' hw' x'' hx'' => ?_) (fun x' hx' => ?_)))
    · rw [pk_un (by omega)]; exact h1 w' hw' x'' hx''
    · by_cases e : x' = x
      · rw [e, pk_us]
      · rw [pk_un (by omega)]; exact h2 x' (by omega)
theorem zx_copy28 {post : SX → Prop} (hW : W ≤ 4) (h : ∀ own', (∀ w, w < W → ∀ x, x < 4 → own' (w * 4 + x) = sc x) → post (nI r, nI W, nI m, fR, fL, ops, xs, as, bs, sc, ce, rc, own', it, pl, lf)) :
    ∀ d w own', w + d = W → (∀ w', w' < w → ∀ x, x < 4 → own' (w' * 4 + x) = sc x) → wX_copyState_28 post (nI r) (nI W) (nI m) fR fL (d + 1) (nI w) ops xs as bs sc ce rc own' it pl lf := by
  intro d
  induction d with
  | zero =>
    intro w own' hw h1
    have e : w = W := by omega
    subst e
    exact br_t (nI_le (Nat.le_refl _) (by omega)) (h own' h1)
  | succ d ih =>
    intro w own' hw h1
    have hwW : w < W := by omega
    refine br_f (nI_ge hwW (by omega)) ⟨5, zx_copy38 (by omega) (fun own2 h2 => ih (w + 1) own2 (by omega) (fun w' hw' => h2 w' (by omega))) 4 0 own' (by omega) h1 (fun x' hx' => by omega)⟩
theorem zx_copy2 {post : SX → Prop} (hW : W ≤ 4) (h : ∀ rc' own', (∀ k, k < 16 → rc' k = ce k) → (∀ w, w < W → ∀ x, x < 4 → own' (w * 4 + x) = sc x) → post (nI r, nI W, nI m, fR, fL, ops, xs, as, bs, sc, ce, rc', own', it, pl, lf)) :
    ∀ d k rc', k + d = 16 → (∀ k', k' < k → rc' k' = ce k') → wX_copyState_2 post (nI r) (nI W) (nI m) fR fL (d + 1) (nI k) ops xs as bs sc ce rc' own it pl lf := by
  intro d
  induction d with
  | zero =>
    intro k rc' hk h1
    have e : k = 16 := by omega
    subst e
    exact br_t (nI_le (a := 16) (b := 16) (Nat.le_refl _) (by omega)) ⟨W + 1, zx_copy28 hW (fun own' h2 => h rc' own' h1 h2) W 0 own (by omega) (fun w' hw' => by omega)⟩
  | succ d ih =>
    intro k rc' hk h1
    have hk16 : k < 16 := by omega
    obtain ⟨i16, e16⟩ := zx_i16 hk16
    refine br_f (nI_ge (b := 16) hk16 (by omega)) ⟨i16, i16, ?_⟩
    rw [e16]
    refine nm_e (nm_r (nI_1 k) (ih (k + 1) _ (by omega) (fun k' hk' => ?_)))
    by_cases e : k' = k
    · rw [e, pk_us]
    · rw [pk_un e]; exact h1 k' (by omega)
theorem zx_copy {post : SX → Prop} (hW : W ≤ 4) (h : ∀ rc' own', (∀ k, k < 16 → rc' k = ce k) → (∀ w, w < W → ∀ x, x < 4 → own' (w * 4 + x) = sc x) → post (nI r, nI W, nI m, fR, fL, ops, xs, as, bs, sc, ce, rc', own', it, pl, lf)) : wpX_copyState post (nI r, nI W, nI m, fR, fL, ops, xs, as, bs, sc, ce, rc, own, it, pl, lf) :=
  ⟨17, zx_copy2 hW h 16 0 rc (by omega) (fun k' hk' => by omega)⟩

theorem zx_s69 {post : SX → Prop} {J : Int32 → (Nat → Int32) → (Nat → Int32) → (Nat → Int32) → (Nat → Int32) → (Nat → Int32) → (Nat → Int32) → (Nat → Int32) → (Nat → Int32) → (Nat → Int32) → (Nat → Int32) → (Nat → Int32) → Prop} {w a b : Nat} {x1 : Int32} (hw : w < 4) (hab : a ≤ b)
    (h : J (nI (w + 1)) ops xs as bs sc ce rc own (upd it w (nI a)) (upd pl w 0) (upd lf w (nI ((b - a) * m)))) : wX_shareOut_69 post J x1 (nI w) (nI a) (nI b) 0 (nI r) (nI W) (nI m) fR fL ops xs as bs sc ce rc own it pl lf := by
  obtain ⟨i4, e4⟩ := zx_i4 hw
  unfold wX_shareOut_69
  rw [e4, pk_sub hab, pk_mul]
  exact ⟨i4, nm_e ⟨i4, nm_e (br_t rfl ⟨i4, nm_e (nm_r (nI_1 w) h)⟩)⟩⟩
theorem zx_s69i {post : SX → Prop} {J : Int32 → (Nat → Int32) → (Nat → Int32) → (Nat → Int32) → (Nat → Int32) → (Nat → Int32) → (Nat → Int32) → (Nat → Int32) → (Nat → Int32) → (Nat → Int32) → (Nat → Int32) → (Nat → Int32) → Prop} {w : Nat} {x1 x3 x4 : Int32} (hw : w < 4)
    (h : J (nI (w + 1)) ops xs as bs sc ce rc own (upd it w x3) (upd pl w 0) (upd lf w 0)) : wX_shareOut_69 post J x1 (nI w) x3 x4 1 (nI r) (nI W) (nI m) fR fL ops xs as bs sc ce rc own it pl lf := by
  obtain ⟨i4, e4⟩ := zx_i4 hw
  unfold wX_shareOut_69
  rw [e4]
  exact ⟨i4, nm_e ⟨i4, nm_e (br_f (by decide) ⟨i4, nm_e (nm_r (nI_1 w) h)⟩)⟩⟩

def zq_shr (pb : Bool) (r W m w : Nat) (it pl lf : Nat → Int32) : Prop := lf w = nI ((zq_fr pb r W (w + 1) - zq_fr pb r W w) * m) ∧ pl w = 0 ∧ (zq_fr pb r W w < zq_fr pb r W (w + 1) → it w = nI (zq_fr pb r W w))
theorem zq_shr_k {pb : Bool} {w u : Nat} {a b c : Int32} (hu : u ≠ w) (h : zq_shr pb r W m u it pl lf) : zq_shr pb r W m u (upd it w a) (upd pl w b) (upd lf w c) := by
  unfold zq_shr
  rw [pk_un hu, pk_un hu, pk_un hu]
  exact h
theorem zx_share_lp {post : SX → Prop} {pb : Bool} (hr : r ≤ 8) (hW0 : 0 < W) (hW : W ≤ 4) (h : ∀ it' pl' lf', (∀ w, w < W → zq_shr pb r W m w it' pl' lf') → post (nI r, nI W, nI m, fR, nI (if pb = true then W - 1 else 0), ops, xs, as, bs, sc, ce, rc, own, it', pl', lf')) :
    ∀ d w it' pl' lf', w + d = W → (∀ u, u < w → zq_shr pb r W m u it' pl' lf') → wX_shareOut_2 post (if pb = true then 1 else 0) (nI r) (nI W) (nI m) fR fL (d + 1) (nI w) ops xs as bs sc ce rc own it' pl' lf' := by
  have hW1 : ¬ nI W = 0 := nI_ne0 hW0 (by omega)
  intro d
  induction d with
  | zero =>
    intro w it' pl' lf' hw h1
    have e : w = W := by omega
    subst e
    refine br_t (nI_le (Nat.le_refl _) (by omega)) ?_
    have h2 := h it' pl' lf' h1
    by_cases hb : pb = true
    · rw [if_pos hb] at h2
      rw [if_pos hb]
      refine br_f (by decide) (nm_r ?_ h2)
      rw [show (1 : Int32) = nI 1 from rfl, pk_sub hW0]
    · rw [if_neg hb] at h2
      rw [if_neg hb]
      exact br_t rfl h2
  | succ d ih =>
    intro w it' pl' lf' hw h1
    have hwW : w < W := by omega
    have hw4 : w < 4 := by omega
    refine br_f (nI_ge hwW (by omega)) ?_
    have hlt : (w + 1) * r ≤ 32 := Nat.le_trans (Nat.mul_le_mul (show w + 1 ≤ 4 by omega) hr) (by omega)
    have hlt0 : w * r ≤ (w + 1) * r := Nat.mul_le_mul_right r (by omega)
    by_cases hb : pb = true
    · have f0 : zq_fr pb r W w = w * r / W := by unfold zq_fr; rw [if_pos hb]
      have f1 : zq_fr pb r W (w + 1) = (w + 1) * r / W := by unfold zq_fr; rw [if_pos hb]
      have ihw := ih (w + 1) (upd it' w (nI (w * r / W))) (upd pl' w 0) (upd lf' w (nI (((w + 1) * r / W - w * r / W) * m))) (by omega) (fun u hu => by
        by_cases e : u = w
        · subst e
          unfold zq_shr
          rw [pk_us, pk_us, pk_us, f0, f1]
          exact ⟨rfl, rfl, fun _ => rfl⟩
        · exact zq_shr_k e (h1 u (by omega)))
      rw [if_pos hb] at ihw
      rw [if_pos hb]
      refine br_f (by decide) ⟨hW1, ?_⟩
      rw [pk_mul, pk_div (by omega) hW0 (by omega)]
      refine br_f (by decide) ⟨hW1, ?_⟩
      rw [nI_1, pk_mul, pk_div (by omega) hW0 (by omega)]
      exact br_f (by decide) (zx_s69 hw4 (Nat.div_le_div_right hlt0) ihw)
    · by_cases h0 : w = 0
      · have f0 : zq_fr pb r W w = 0 := by rw [h0]; exact zq_fr_0
        have f1 : zq_fr pb r W (w + 1) = r := by unfold zq_fr; rw [if_neg hb, if_neg (by omega)]
        have ihw := ih (w + 1) (upd it' w (nI 0)) (upd pl' w 0) (upd lf' w (nI ((r - 0) * m))) (by omega) (fun u hu => by
          by_cases e : u = w
          · subst e
            unfold zq_shr
            rw [pk_us, pk_us, pk_us, f0, f1]
            exact ⟨rfl, rfl, fun _ => rfl⟩
          · exact zq_shr_k e (h1 u (by omega)))
        rw [if_neg hb] at ihw
        rw [if_neg hb]
        refine br_t rfl (br_t rfl (br_t rfl (br_t (nI_le (b := 0) (by omega) (by omega)) ?_)))
        exact zx_s69 (a := 0) hw4 (Nat.zero_le r) ihw
      · have f0 : zq_fr pb r W w = r := by unfold zq_fr; rw [if_neg hb, if_neg h0]
        have f1 : zq_fr pb r W (w + 1) = r := by unfold zq_fr; rw [if_neg hb, if_neg (by omega)]
        have ihw := ih (w + 1) (upd it' w 0) (upd pl' w 0) (upd lf' w 0) (by omega) (fun u hu => by
          by_cases e : u = w
          · subst e
            unfold zq_shr
            rw [pk_us, pk_us, pk_us, f0, f1, Nat.sub_self, Nat.zero_mul]
            exact ⟨rfl, rfl, fun z => by omega⟩
          · exact zq_shr_k e (h1 u (by omega)))
        rw [if_neg hb] at ihw
        rw [if_neg hb]
        refine br_t rfl (br_t rfl (br_t rfl (br_f (nI_ge (b := w) (a := 0) (by omega) (by omega)) ?_)))
        exact zx_s69i hw4 ihw
theorem zx_share {post : SX → Prop} {pb : Bool} (hr : r ≤ 8) (hW0 : 0 < W) (hW : W ≤ 4) (h : ∀ it' pl' lf', (∀ w, w < W → zq_shr pb r W m w it' pl' lf') → post (nI r, nI W, nI m, fR, nI (if pb = true then W - 1 else 0), ops, xs, as, bs, sc, ce, rc, own, it', pl', lf')) : wpX_shareOut post (nI r, nI W, nI m, fR, fL, ops, xs, as, bs, sc, ce, rc, own, it, pl, lf) (if pb = true then 1 else 0) :=
  ⟨W + 1, zx_share_lp hr hW0 hW h W 0 it pl lf (by omega) (fun u hu => by omega)⟩
end
end
section
/-! the component carries out, and brings together -/
section
variable {r W m : Nat} {fR fL : Int32} {ops xs as bs sc ce rc own it pl lf : Nat → Int32}

theorem zx_cos {post : SX → Prop} {w p i : Nat} (hw : w < 4) (hp : p < 6) (hi : i < r) (hok : zq_ok ops xs as bs r p)
    (h : ∀ own' rc', (∀ x, x < 4 → own' (w * 4 + x) = (zq_stp ops xs as bs p i (fun x => own (w * 4 + x)) rc).1 x) → (∀ u x, u ≠ w → x < 4 → own' (u * 4 + x) = own (u * 4 + x)) →
      rc' = (zq_stp ops xs as bs p i (fun x => own (w * 4 + x)) rc).2 → post (nI r, nI W, nI m, fR, fL, ops, xs, as, bs, sc, ce, rc', own', it, pl, lf)) : wpX_carryOutStatement post (nI r, nI W, nI m, fR, fL, ops, xs, as, bs, sc, ce, rc, own, it, pl, lf) (nI w) (nI p) (nI i) := by
  obtain ⟨i6, e6⟩ := zx_i6 hp
  have hops := zq_ok_ops ops xs as bs hok
  obtain ⟨_, ⟨X, hX, ex⟩, _, hA⟩ := id hok
  have cl : (xs p).toNatClampNeg = X := by rw [ex]; exact nI_clamp (by omega)
  obtain ⟨j16, f16⟩ := zx_i16 (p := w * 4 + X) (by omega)
  have e1 : nI w * 4 = nI (w * 4) := by rw [show (4 : Int32) = nI 4 from rfl, pk_mul]
  -- a new value of the scalar X
  have kS : ∀ v, (∀ x, x < 4 → (zq_stp ops xs as bs p i (fun x => own (w * 4 + x)) rc).1 x = upd (fun x => own (w * 4 + x)) X v x) → (zq_stp ops xs as bs p i (fun x => own (w * 4 + x)) rc).2 = rc → post (nI r, nI W, nI m, fR, fL, ops, xs, as, bs, sc, ce, rc, upd own (w * 4 + X) v, it, pl, lf) := by
    intro v h1 h2
    refine h (upd own (w * 4 + X) v) rc (fun x hx => ?_) (fun u x hu hx => zq_updo hu hX hx) h2.symm
    rw [h1 x hx]
    exact zq_updv
  unfold wpX_carryOutStatement
  refine nm_r e1 ⟨i6, ?_⟩
  rw [e6]
  refine nm_r (e' := nI (w * 4 + X)) (by rw [ex, nI_add]) ⟨i6, ?_⟩
  rw [f16]
  rcases hops with e | e | e | e | e | e
  · refine nm_r e (br_f (by decide) (br_f (by decide) (br_t rfl ⟨i6, j16, nm_e (kS _ (fun x hx => ?_) ?_)⟩)))
    · rw [zq_s0 ops xs as bs e, cl]
    · rw [zq_s0 ops xs as bs e]
  · obtain ⟨hc, ec⟩ := zq_ce_lt ops xs as bs hok (Or.inl e) hi
    obtain ⟨k16, g16⟩ := zx_i16 hc
    refine nm_r e (br_f (by decide) (br_f (by decide) (br_f (by decide) (br_t rfl (zx_ceo hp ?_)))))
    rw [ec, g16]
    refine ⟨k16, j16, nm_e (kS _ (fun x hx => ?_) ?_)⟩
    · rw [zq_s1 ops xs as bs e, cl]
    · rw [zq_s1 ops xs as bs e]
  · obtain ⟨hc, ec⟩ := zq_ce_lt ops xs as bs hok (Or.inr e) hi
    obtain ⟨k16, g16⟩ := zx_i16 hc
    refine nm_r e (br_f (by decide) (br_f (by decide) (br_f (by decide) (br_f (by decide) (br_t rfl (zx_ceo hp ?_))))))
    rw [ec, g16]
    refine ⟨j16, k16, nm_e (h own _ (fun x hx => ?_) (fun _ _ _ _ => rfl) ?_)⟩
    · rw [zq_s2 ops xs as bs e]
    · rw [zq_s2 ops xs as bs e, cl]
  · obtain ⟨a, ha, ea⟩ := hA (Or.inl e)
    have cla : (as p).toNatClampNeg = a := by rw [ea]; exact nI_clamp (by omega)
    obtain ⟨k16, g16⟩ := zx_i16 (p := w * 4 + a) (by omega)
    refine nm_r e (br_f (by decide) (br_f (by decide) (br_f (by decide) (br_f (by decide) (br_f (by decide) (br_t rfl ⟨j16, i6, ?_⟩))))))
    rw [ea, nI_add, g16]
    refine ⟨k16, j16, nm_e (kS _ (fun x hx => ?_) ?_)⟩
    · rw [zq_s3 ops xs as bs e, cl, cla]
    · rw [zq_s3 ops xs as bs e]
  · obtain ⟨a, ha, ea⟩ := hA (Or.inr e)
    have cla : (as p).toNatClampNeg = a := by rw [ea]; exact nI_clamp (by omega)
    obtain ⟨k16, g16⟩ := zx_i16 (p := w * 4 + a) (by omega)
    refine nm_r e (br_f (by decide) (br_f (by decide) (br_f (by decide) (br_f (by decide) (br_f (by decide) (br_f (by decide) (br_t rfl ⟨j16, i6, ?_⟩)))))))
    rw [ea, nI_add, g16]
    refine ⟨k16, zx_les ⟨j16, nm_e (kS _ (fun x hx => ?_) ?_)⟩⟩
    · rw [zq_s4 ops xs as bs e, cl, cla]
    · rw [zq_s4 ops xs as bs e]
  · refine nm_r e (br_f (by decide) (br_t (by decide) ⟨j16, j16, nm_e (kS _ (fun x hx => ?_) ?_)⟩))
    · rw [zq_s5 ops xs as bs e, cl]
    · rw [zq_s5 ops xs as bs e]

/-- the run, with each worker's place -/
def zq_XR (ops xs as bs : Nat → Int32) (m r W : Nat) (pb : Bool) (s0 c0 : Nat → Int32) (t : Nat → Nat) (own rc it pl : Nat → Int32) : Prop :=
  zq_Run ops xs as bs m r W pb s0 c0 t own rc ∧ ∀ w, w < W → t w < zq_fr pb r W (w + 1) * m → pl w = nI (t w % m) ∧ it w = nI (t w / m)

theorem zx_co_lp {post : SX → Prop} {w c T : Nat} {pb : Bool} {s0 c0 : Nat → Int32} {t0 : Nat → Nat} (hm0 : 0 < m) (hm : m ≤ 6) (hr : r ≤ 8) (hW0 : 0 < W) (hW : W ≤ 4) (hok : ∀ p, p < m → zq_ok ops xs as bs r p) (hpb : pb = true → zq_par ops xs as bs m r)
    (hw : w < W) (hc : c < 2 ^ 31) (hT : T ≤ zq_fr pb r W (w + 1) * m)
    (h : ∀ t' own' rc' it' pl', zq_XR ops xs as bs m r W pb s0 c0 t' own' rc' it' pl' → t' w = T → (∀ u, u ≠ w → t' u = t0 u) → post (nI r, nI W, nI m, fR, fL, ops, xs, as, bs, sc, ce, rc', own', it', pl', upd lf w (lf w - nI c))) :
    ∀ d k t own' rc' it' pl', k + d = c → t w + d = T → (∀ u, u ≠ w → t u = t0 u) → zq_XR ops xs as bs m r W pb s0 c0 t own' rc' it' pl' →
      wX_carryOut_2 post (nI w) (nI c) (d + 1) (nI k) (nI r) (nI W) (nI m) fR fL ops xs as bs sc ce rc' own' it' pl' lf := by
  obtain ⟨i4, e4⟩ := zx_i4 (p := w) (by omega)
  intro d
  induction d with
  | zero =>
    intro k t own' rc' it' pl' hk ht hu R
    have e : k = c := by omega
    subst e
    refine br_t (nI_le (Nat.le_refl _) hc) ⟨i4, i4, ?_⟩
    rw [e4]
    exact nm_e (h t own' rc' it' pl' R (by omega) hu)
  | succ d ih =>
    intro k t own' rc' it' pl' hk ht hu R
    have htw : t w < zq_fr pb r W (w + 1) * m := by omega
    obtain ⟨hpl, hit⟩ := R.2 w hw htw
    have hp := Nat.mod_lt (t w) hm0
    have hle : zq_fr pb r W (w + 1) * m ≤ r * m := Nat.mul_le_mul_right m (zq_fr_le hW0 (by omega))
    have hi : t w / m < r := (Nat.div_lt_iff_lt_mul hm0).mpr (by omega)
    refine br_f (nI_ge (by omega) hc) ⟨i4, i4, ?_⟩
    rw [e4, hpl, hit]
    refine zx_cos (by omega) (by omega) hi (hok _ hp) (fun own2 rc2 h1 h2 h3 => ?_)
    have R2 := zq_run_step (rc' := rc2) ops xs as bs hm0 hW0 hok hpb R.1 hw htw h1 h2 (fun k _ => by rw [h3])
    have hne : ∀ u, u ≠ w → (fun u => if u = w then t w + 1 else t u) u = t0 u := by
      intro u hu2
      show (if u = w then t w + 1 else t u) = t0 u
      rw [if_neg hu2]; exact hu u hu2
    have hw1 : (fun u => if u = w then t w + 1 else t u) w + d = T := by
      show (if w = w then t w + 1 else t w) + d = T
      rw [if_pos rfl]; omega
    refine ⟨i4, i4, nm_r (e' := upd pl' w (nI (t w % m + 1))) (by rw [hpl, nI_1]) ⟨i4, ?_⟩⟩
    rw [pk_us]
    refine pk_eq (t w % m + 1) m (fun he => ?_) (fun he => ?_) rfl rfl (by omega) (by omega)
    · obtain ⟨d1, d2⟩ := zq_dm1 hm0 he
      refine ⟨i4, nm_e ⟨i4, i4, nm_r (e' := upd it' w (nI (t w / m + 1))) (by rw [hit, nI_1]) (nm_r (nI_1 k) (ih (k + 1) _ own2 rc2 _ _ (by omega) hw1 hne ⟨R2, fun u hu2 htu => ?_⟩))⟩⟩
      by_cases hx : u = w
      · subst hx
        rw [pk_us, pk_us]
        show 0 = nI ((if u = u then t u + 1 else t u) % m) ∧ nI (t u / m + 1) = nI ((if u = u then t u + 1 else t u) / m)
        rw [if_pos rfl, d1, d2]
        exact ⟨rfl, rfl⟩
      · rw [pk_un hx, pk_un hx, pk_un hx]
        have htu' : t u < zq_fr pb r W (u + 1) * m := by
          have : (if u = w then t w + 1 else t u) < zq_fr pb r W (u + 1) * m := htu
          rw [if_neg hx] at this; exact this
        show pl' u = nI ((if u = w then t w + 1 else t u) % m) ∧ it' u = nI ((if u = w then t w + 1 else t u) / m)
        rw [if_neg hx]
        exact R.2 u hu2 htu'
    · obtain ⟨d1, d2⟩ := zq_dm2 (m := m) (t := t w) hm0 (by omega)
      refine nm_r (nI_1 k) (ih (k + 1) _ own2 rc2 it' _ (by omega) hw1 hne ⟨R2, fun u hu2 htu => ?_⟩)
      by_cases hx : u = w
      · subst hx
        rw [pk_us]
        show nI (t u % m + 1) = nI ((if u = u then t u + 1 else t u) % m) ∧ it' u = nI ((if u = u then t u + 1 else t u) / m)
        rw [if_pos rfl, d1, d2]
        exact ⟨rfl, hit⟩
      · rw [pk_un hx]
        have htu' : t u < zq_fr pb r W (u + 1) * m := by
          have : (if u = w then t w + 1 else t u) < zq_fr pb r W (u + 1) * m := htu
          rw [if_neg hx] at this; exact this
        show pl' u = nI ((if u = w then t w + 1 else t u) % m) ∧ it' u = nI ((if u = w then t w + 1 else t u) / m)
        rw [if_neg hx]
        exact R.2 u hu2 htu'
theorem zx_co {post : SX → Prop} {w c : Nat} {pb : Bool} {s0 c0 : Nat → Int32} {t : Nat → Nat} (hm0 : 0 < m) (hm : m ≤ 6) (hr : r ≤ 8) (hW0 : 0 < W) (hW : W ≤ 4) (hok : ∀ p, p < m → zq_ok ops xs as bs r p) (hpb : pb = true → zq_par ops xs as bs m r)
    (hw : w < W) (hc : c < 2 ^ 31) (hT : t w + c ≤ zq_fr pb r W (w + 1) * m) (R : zq_XR ops xs as bs m r W pb s0 c0 t own rc it pl)
    (h : ∀ t' own' rc' it' pl', zq_XR ops xs as bs m r W pb s0 c0 t' own' rc' it' pl' → t' w = t w + c → (∀ u, u ≠ w → t' u = t u) → post (nI r, nI W, nI m, fR, fL, ops, xs, as, bs, sc, ce, rc', own', it', pl', upd lf w (lf w - nI c))) :
    wpX_carryOut post (nI r, nI W, nI m, fR, fL, ops, xs, as, bs, sc, ce, rc, own, it, pl, lf) (nI w) (nI c) :=
  ⟨c + 1, zx_co_lp hm0 hm hr hW0 hW hok hpb hw hc hT h c 0 t own rc it pl (by omega) rfl (fun _ _ => rfl) R⟩

theorem zx_nol_lp {post : Int32 → Prop} {L : Nat → Nat} (hW : W ≤ 4) (hL : ∀ w, w < W → lf w = nI (L w) ∧ L w < 2 ^ 31) (h1 : (∀ w, w < W → L w = 0) → post 1) (h0 : (¬ ∀ w, w < W → L w = 0) → post 0) :
    ∀ d w, w + d = W → (∀ u, u < w → L u = 0) → wX_nothingLeft_2 post (nI r) (nI W) (nI m) fR fL ops xs as bs sc ce rc own it pl lf (d + 1) (nI w) := by
  intro d
  induction d with
  | zero =>
    intro w hw hn
    have e : w = W := by omega
    subst e
    exact br_t (nI_le (Nat.le_refl _) (by omega)) (h1 hn)
  | succ d ih =>
    intro w hw hn
    have hwW : w < W := by omega
    obtain ⟨i4, e4⟩ := zx_i4 (p := w) (by omega)
    obtain ⟨a, b⟩ := hL w hwW
    refine br_f (nI_ge hwW (by omega)) ⟨i4, ?_⟩
    rw [e4, a]
    refine pk_le (L w) 0 (fun h => nm_r (nI_1 w) (ih (w + 1) (by omega) (fun u hu => ?_))) (fun h => h0 (fun z => ?_)) rfl rfl b (by omega)
    · by_cases e : u = w
      · rw [e]; omega
      · exact hn u (by omega)
    · have := z w hwW; omega
theorem zx_nol {post : Int32 → Prop} {L : Nat → Nat} (hW : W ≤ 4) (hL : ∀ w, w < W → lf w = nI (L w) ∧ L w < 2 ^ 31) (h1 : (∀ w, w < W → L w = 0) → post 1) (h0 : (¬ ∀ w, w < W → L w = 0) → post 0) : wpX_nothingLeft post (nI r, nI W, nI m, fR, fL, ops, xs, as, bs, sc, ce, rc, own, it, pl, lf) :=
  ⟨W + 1, zx_nol_lp hW hL h1 h0 W 0 (by omega) (fun u hu => by omega)⟩
end
end
section
/-! the component ends a run -/
section
variable {r W m : Nat} {fR fL : Int32} {ops xs as bs sc ce rc own it pl lf : Nat → Int32}

theorem zx_sum_lp {post : Int32 → Prop} {x : Nat} {pb : Bool} {s0 c0 : Nat → Int32} {t : Nat → Nat} (hW0 : 0 < W) (hW : W ≤ 4) (hx : x < 4) (h3 : zq_rol ops xs as m x = 3)
    (R : zq_Run ops xs as bs m r W pb s0 c0 t own rc) (ht : ∀ w, w < W → t w = zq_fr pb r W (w + 1) * m) (h : post ((zq_sq ops xs as bs m s0 c0 (r * m)).1 x)) :
    ∀ d w, w + d = W → wX_sumOfAll_12 post (nI x) (s0 x) (nI r) (nI W) (nI m) fR fL ops xs as bs sc ce rc own it pl lf (d + 1) ((zq_sq ops xs as bs m s0 c0 (zq_fr pb r W w * m)).1 x) (nI w) := by
  intro d
  induction d with
  | zero =>
    intro w hw
    have e : w = W := by omega
    subst e
    rw [zq_fr_W hW0]
    exact br_t (nI_le (Nat.le_refl _) (by omega)) h
  | succ d ih =>
    intro w hw
    have hwW : w < W := by omega
    obtain ⟨j16, f16⟩ := zx_i16 (p := w * 4 + x) (by omega)
    refine br_f (nI_ge hwW (by omega)) ?_
    rw [zq_ix, f16]
    exact ⟨j16, nm_r (zq_end_sum ops xs as bs R ht hwW hx h3) (nm_r (nI_1 w) (ih (w + 1) (by omega)))⟩
theorem zx_min_lp {post : Int32 → Prop} {x : Nat} {pb : Bool} {s0 c0 : Nat → Int32} {t : Nat → Nat} (hW0 : 0 < W) (hW : W ≤ 4) (hx : x < 4) (h4 : zq_rol ops xs as m x = 4)
    (R : zq_Run ops xs as bs m r W pb s0 c0 t own rc) (ht : ∀ w, w < W → t w = zq_fr pb r W (w + 1) * m) (h : post ((zq_sq ops xs as bs m s0 c0 (r * m)).1 x)) :
    ∀ d w, w + d = W → wX_leastOfAll_9 post (nI x) (nI r) (nI W) (nI m) fR fL ops xs as bs sc ce rc own it pl lf (d + 1) ((zq_sq ops xs as bs m s0 c0 (zq_fr pb r W w * m)).1 x) (nI w) := by
  intro d
  induction d with
  | zero =>
    intro w hw
    have e : w = W := by omega
    subst e
    rw [zq_fr_W hW0]
    exact br_t (nI_le (Nat.le_refl _) (by omega)) h
  | succ d ih =>
    intro w hw
    have hwW : w < W := by omega
    obtain ⟨j16, f16⟩ := zx_i16 (p := w * 4 + x) (by omega)
    refine br_f (nI_ge hwW (by omega)) ?_
    rw [zq_ix, f16]
    refine ⟨j16, zx_les ?_⟩
    rw [zq_end_min ops xs as bs R ht hwW hx h4]
    exact nm_r (nI_1 w) (ih (w + 1) (by omega))
theorem zx_bt {post : Int32 → Prop} {x : Nat} {pb : Bool} {s0 c0 : Nat → Int32} {t : Nat → Nat} (hm0 : 0 < m) (hm : m ≤ 6) (hr0 : 0 < r) (hW0 : 0 < W) (hW : W ≤ 4) (hok : ∀ p, p < m → zq_ok ops xs as bs r p) (hx : x < 4) (hs : sc x = s0 x)
    (R : zq_Run ops xs as bs m r W pb s0 c0 t own rc) (ht : ∀ w, w < W → t w = zq_fr pb r W (w + 1) * m) (h : post ((zq_sq ops xs as bs m s0 c0 (r * m)).1 x)) :
    wpX_broughtTogether post (nI r, nI W, nI m, fR, nI (if pb = true then W - 1 else 0), ops, xs, as, bs, sc, ce, rc, own, it, pl, lf) (nI x) := by
  obtain ⟨i4, e4⟩ := zx_i4 hx
  have z0 : (zq_sq ops xs as bs m s0 c0 (zq_fr pb r W 0 * m)).1 x = s0 x := by rw [zq_fr_0, Nat.zero_mul]; rfl
  unfold wpX_broughtTogether
  refine zx_rol hm hok (br_c (fun h3 => ?_) (fun h3 => br_c (fun h4 => ?_) (fun h4 => ?_)))
  · unfold wpX_sumOfAll
    dsimp only
    refine ⟨i4, ?_⟩
    rw [e4, hs]
    refine nm_e ⟨W + 1, ?_⟩
    have := zx_sum_lp (post := post) (fR := fR) (fL := nI (if pb = true then W - 1 else 0)) (sc := sc) (ce := ce) (it := it) (pl := pl) (lf := lf) hW0 hW hx h3 R ht h W 0 (by omega)
    rw [z0] at this
    exact this
  · unfold wpX_leastOfAll
    dsimp only
    refine ⟨i4, ?_⟩
    rw [e4, hs]
    refine nm_e ⟨W + 1, ?_⟩
    have := zx_min_lp (post := post) (fR := fR) (fL := nI (if pb = true then W - 1 else 0)) (sc := sc) (ce := ce) (it := it) (pl := pl) (lf := lf) hW0 hW hx h4 R ht h W 0 (by omega)
    rw [z0] at this
    exact this
  · have hl : (if pb = true then W - 1 else 0) < 4 := by
      by_cases hb : pb = true
      · rw [if_pos hb]; omega
      · rw [if_neg hb]; omega
    obtain ⟨j16, f16⟩ := zx_i16 (p := (if pb = true then W - 1 else 0) * 4 + x) (by omega)
    rw [zq_ix, f16]
    refine ⟨j16, ?_⟩
    rw [zq_end_last ops xs as bs hm0 hr0 hW0 R ht hx h3 h4]
    exact h
theorem zx_end28 {post : SX → Prop} {pb : Bool} {s0 c0 : Nat → Int32} {t : Nat → Nat} (hm0 : 0 < m) (hm : m ≤ 6) (hr0 : 0 < r) (hW0 : 0 < W) (hW : W ≤ 4) (hok : ∀ p, p < m → zq_ok ops xs as bs r p)
    (R : zq_Run ops xs as bs m r W pb s0 c0 t own rc) (ht : ∀ w, w < W → t w = zq_fr pb r W (w + 1) * m)
    (h : post (nI r, nI W, nI m, 0, nI (if pb = true then W - 1 else 0), ops, xs, as, bs, (zq_sq ops xs as bs m s0 c0 (r * m)).1, ce, rc, own, it, pl, lf)) :
    ∀ d x sc', x + d = 4 → (∀ y, y < x → sc' y = (zq_sq ops xs as bs m s0 c0 (r * m)).1 y) → (∀ y, x ≤ y → sc' y = s0 y) →
      wX_endRun_28 post (nI r) (nI W) (nI m) fR (nI (if pb = true then W - 1 else 0)) (d + 1) (nI x) ops xs as bs sc' ce rc own it pl lf := by
  intro d
  induction d with
  | zero =>
    intro x sc' hx h1 h2
    have e : x = 4 := by omega
    subst e
    have es : sc' = (zq_sq ops xs as bs m s0 c0 (r * m)).1 := by
      funext y
      rcases Nat.lt_or_ge y 4 with l | l
      · exact h1 y l
      · rw [h2 y l, zq_sq_hs ops xs as bs hm0 hok l]
    rw [es]
    exact br_t (nI_le (a := 4) (b := 4) (Nat.le_refl _) (by omega)) h
  | succ d ih =>
    intro x sc' hx h1 h2
    have hx4 : x < 4 := by omega
    obtain ⟨i4, e4⟩ := zx_i4 hx4
    refine br_f (nI_ge (b := 4) hx4 (by omega)) (zx_bt hm0 hm hr0 hW0 hW hok hx4 (h2 x (Nat.le_refl x)) R ht ⟨i4, ?_⟩)
    rw [e4]
    refine nm_e (nm_r (nI_1 x) (ih (x + 1) _ (by omega) (fun y hy => ?_) (fun y hy => ?_)))
    · by_cases e : y = x
      · rw [e, pk_us]
      · rw [pk_un e]; exact h1 y (by omega)
    · rw [pk_un (by omega)]; exact h2 y (by omega)
theorem zx_end2 {post : SX → Prop} {pb : Bool} {c0 : Nat → Int32} {t : Nat → Nat} (hm0 : 0 < m) (hm : m ≤ 6) (hr0 : 0 < r) (hW0 : 0 < W) (hW : W ≤ 4) (hok : ∀ p, p < m → zq_ok ops xs as bs r p) (hpb : pb = true → zq_par ops xs as bs m r)
    (R : zq_Run ops xs as bs m r W pb sc c0 t own rc) (ht : ∀ w, w < W → t w = zq_fr pb r W (w + 1) * m)
    (h : post (nI r, nI W, nI m, 0, nI (if pb = true then W - 1 else 0), ops, xs, as, bs, (zq_sq ops xs as bs m sc c0 (r * m)).1, (zq_sq ops xs as bs m sc c0 (r * m)).2, rc, own, it, pl, lf)) :
    ∀ d k ce', k + d = 16 → (∀ y, y < k → ce' y = rc y) → (∀ y, k ≤ y → ce' y = c0 y) →
      wX_endRun_2 post (nI r) (nI W) (nI m) fR (nI (if pb = true then W - 1 else 0)) (d + 1) (nI k) ops xs as bs sc ce' rc own it pl lf := by
  intro d
  induction d with
  | zero =>
    intro k ce' hk h1 h2
    have e : k = 16 := by omega
    subst e
    have es : ce' = (zq_sq ops xs as bs m sc c0 (r * m)).2 := by
      funext y
      rcases Nat.lt_or_ge y 16 with l | l
      · rw [h1 y l]; exact zq_end_cells ops xs as bs hm0 hW0 hok hpb R ht y l
      · rw [h2 y l, zq_sq_hc ops xs as bs hm0 hok l _ (Nat.le_refl _)]
    rw [es]
    exact br_t (nI_le (a := 16) (b := 16) (Nat.le_refl _) (by omega)) ⟨5, zx_end28 hm0 hm hr0 hW0 hW hok R ht h 4 0 sc (by omega) (fun y hy => by omega) (fun y _ => rfl)⟩
  | succ d ih =>
    intro k ce' hk h1 h2
    have hk16 : k < 16 := by omega
    obtain ⟨i16, e16⟩ := zx_i16 hk16
    refine br_f (nI_ge (b := 16) hk16 (by omega)) ⟨i16, i16, ?_⟩
    rw [e16]
    refine nm_e (nm_r (nI_1 k) (ih (k + 1) _ (by omega) (fun y hy => ?_) (fun y hy => ?_)))
    · by_cases e : y = k
      · rw [e, pk_us]
      · rw [pk_un e]; exact h1 y (by omega)
    · rw [pk_un (by omega)]; exact h2 y (by omega)
theorem zx_end {post : SX → Prop} {pb : Bool} {t : Nat → Nat} (hm0 : 0 < m) (hm : m ≤ 6) (hr0 : 0 < r) (hW0 : 0 < W) (hW : W ≤ 4) (hok : ∀ p, p < m → zq_ok ops xs as bs r p) (hpb : pb = true → zq_par ops xs as bs m r)
    (R : zq_Run ops xs as bs m r W pb sc ce t own rc) (ht : ∀ w, w < W → t w = zq_fr pb r W (w + 1) * m)
    (h : post (nI r, nI W, nI m, 0, nI (if pb = true then W - 1 else 0), ops, xs, as, bs, (zq_sq ops xs as bs m sc ce (r * m)).1, (zq_sq ops xs as bs m sc ce (r * m)).2, rc, own, it, pl, lf)) :
    wpX_endRun post (nI r, nI W, nI m, fR, nI (if pb = true then W - 1 else 0), ops, xs, as, bs, sc, ce, rc, own, it, pl, lf) :=
  ⟨17, zx_end2 hm0 hm hr0 hW0 hW hok hpb R ht h 16 0 ce (by omega) (fun y hy => by omega) (fun y _ => rfl)⟩
end
end
section
/-! the reference's run -/
section
variable {r W m : Nat} {fR : Int32} {ops xs as bs sc ce dn : Nat → Int32}
theorem zy_wk1 {post : Int32 → Prop} {w : Nat} (hW : W ≤ 4) (hw : w < W) (h : post 1) : wpY_worker post (nI r, nI W, nI m, 1, ops, xs, as, bs, sc, ce, dn) (nI w) :=
  br_f (by decide) (br_f (nI_pos (by omega)) (br_f (nI_ge hw (by omega)) h))
theorem zy_wk0 {post : Int32 → Prop} {v : Int32} (hv : v < 0 ∨ nI W ≤ v) (h : post 0) : wpY_worker post (nI r, nI W, nI m, fR, ops, xs, as, bs, sc, ce, dn) v :=
  br_c (fun _ => h) (fun _ => br_c (fun _ => h) (fun n => br_t (hv.resolve_left n) h))
theorem zy_wkn {post : Int32 → Prop} {v : Int32} (h : post 0) : wpY_worker post (nI r, nI W, nI m, 0, ops, xs, as, bs, sc, ce, dn) v := br_t rfl h
theorem zy_left {post : Int32 → Prop} {w : Nat} {pb : Bool} (hr : r ≤ 8) (hW0 : 0 < W) (hW : W ≤ 4) (hm : m ≤ 6) (hok : ∀ p, p < m → zq_ok ops xs as bs r p) (hpb : pb = true ↔ zq_par ops xs as bs m r) (hw : w < W)
    (h : post (nI ((zq_fr pb r W (w + 1) - zq_fr pb r W w) * m) - dn w)) : wpY_left post (nI r, nI W, nI m, 1, ops, xs, as, bs, sc, ce, dn) (nI w) := by
  obtain ⟨i4, e4⟩ := zx_i4 (p := w) (by omega)
  have hW1 : ¬ nI W = 0 := nI_ne0 hW0 (by omega)
  have hlt : (w + 1) * r ≤ 32 := Nat.le_trans (Nat.mul_le_mul (show w + 1 ≤ 4 by omega) hr) (by omega)
  have hlt0 : w * r ≤ (w + 1) * r := Nat.mul_le_mul_right r (by omega)
  unfold wpY_left
  refine zy_wk1 hW hw (zx_1 (zy_par hr hm hok (fun hp => zx_1 ⟨hW1, hW1, ?_⟩) (fun hp => zx_0 ?_)))
  · have hb := hpb.mpr hp
    unfold wY_left_57
    rw [e4, nI_1, pk_mul, pk_mul, pk_div (by omega) hW0 (by omega), pk_div (by omega) hW0 (by omega), pk_sub (Nat.div_le_div_right hlt0), pk_mul]
    unfold zq_fr at h
    rw [if_pos hb, if_pos hb] at h
    exact ⟨i4, h⟩
  · have hb : ¬ pb = true := fun z => hp (hpb.mp z)
    unfold wY_left_57
    rw [e4]
    unfold zq_fr at h
    rw [if_neg hb, if_neg hb, if_neg (by omega)] at h
    refine pk_eq w 0 (fun h0 => ⟨i4, ?_⟩) (fun h0 => ⟨i4, ?_⟩) rfl rfl (by omega) (by omega)
    · rw [if_pos h0, Nat.sub_zero, ← pk_mul] at h
      exact h
    · rw [if_neg h0, Nat.sub_self, ← pk_mul] at h
      exact h
theorem zy_co {post : SY → Prop} {p i : Nat} (hp : p < 6) (hi : i < r) (hok : zq_ok ops xs as bs r p)
    (h : post (nI r, nI W, nI m, fR, ops, xs, as, bs, (zq_stp ops xs as bs p i sc ce).1, (zq_stp ops xs as bs p i sc ce).2, dn)) : wpY_carryOut post (nI r, nI W, nI m, fR, ops, xs, as, bs, sc, ce, dn) (nI p) (nI i) := by
  obtain ⟨i6, e6⟩ := zx_i6 hp
  have hops := zq_ok_ops ops xs as bs hok
  obtain ⟨_, ⟨X, hX, ex⟩, _, hA⟩ := id hok
  obtain ⟨j4, f4⟩ := zx_i4 hX
  have cl : (xs p).toNatClampNeg = X := by rw [ex]; exact f4
  have ix : vp_in (xs p) 4 := by rw [ex]; exact j4
  unfold wpY_carryOut
  rw [e6]
  refine ⟨i6, nm_e ⟨i6, nm_e ⟨i6, ?_⟩⟩⟩
  rcases hops with e | e | e | e | e | e
  · rw [zq_s0 ops xs as bs e] at h
    exact br_t e ⟨ix, nm_e h⟩
  · rw [zq_s1 ops xs as bs e] at h
    obtain ⟨hc, ec⟩ := zq_ce_lt ops xs as bs hok (Or.inl e) hi
    obtain ⟨k16, g16⟩ := zx_i16 hc
    refine br_f (by rw [e]; decide) ⟨i6, br_t e ⟨i6, ?_⟩⟩
    rw [ec, pk_andN (m := 15) (by omega) 4 (by decide), show 2 ^ 4 = 16 from rfl, Nat.mod_eq_of_lt hc, g16]
    exact ⟨k16, ix, nm_e h⟩
  · rw [zq_s2 ops xs as bs e] at h
    obtain ⟨hc, ec⟩ := zq_ce_lt ops xs as bs hok (Or.inr e) hi
    obtain ⟨k16, g16⟩ := zx_i16 hc
    refine br_f (by rw [e]; decide) ⟨i6, br_f (by rw [e]; decide) ⟨i6, br_t e ⟨i6, ix, ?_⟩⟩⟩
    rw [ec, pk_andN (m := 15) (by omega) 4 (by decide), show 2 ^ 4 = 16 from rfl, Nat.mod_eq_of_lt hc, g16]
    exact ⟨k16, nm_e h⟩
  · rw [zq_s3 ops xs as bs e] at h
    obtain ⟨a, ha, ea⟩ := hA (Or.inl e)
    obtain ⟨k4, g4⟩ := zx_i4 ha
    rw [ea, g4] at h
    refine br_f (by rw [e]; decide) ⟨i6, br_f (by rw [e]; decide) ⟨i6, br_f (by rw [e]; decide) ⟨i6, br_t e ⟨ix, ?_⟩⟩⟩⟩
    rw [ea, pk_andN (m := 3) (by omega) 2 (by decide), show 2 ^ 2 = 4 from rfl, Nat.mod_eq_of_lt ha, g4]
    exact ⟨k4, ix, nm_e h⟩
  · rw [zq_s4 ops xs as bs e] at h
    obtain ⟨a, ha, ea⟩ := hA (Or.inr e)
    obtain ⟨k4, g4⟩ := zx_i4 ha
    rw [ea, g4] at h
    refine br_f (by rw [e]; decide) ⟨i6, br_f (by rw [e]; decide) ⟨i6, br_f (by rw [e]; decide) ⟨i6, br_f (by rw [e]; decide) ⟨i6, br_t e ?_⟩⟩⟩⟩
    rw [ea, pk_andN (m := 3) (by omega) 2 (by decide), show 2 ^ 2 = 4 from rfl, Nat.mod_eq_of_lt ha, g4]
    refine ⟨k4, ix, br_c (fun hle => ⟨ix, ix, nm_e ?_⟩) (fun hle => ⟨k4, ix, nm_e ?_⟩)⟩
    · rw [zq_min_le hle] at h
      exact h
    · have hlt := Int32.not_le.mp hle
      rw [zq_min_c, if_pos hlt] at h
      exact h
  · rw [zq_s5 ops xs as bs e] at h
    exact br_f (by rw [e]; decide) ⟨i6, br_f (by rw [e]; decide) ⟨i6, br_f (by rw [e]; decide) ⟨i6, br_f (by rw [e]; decide) ⟨i6, br_f (by rw [e]; decide) ⟨ix, ix, nm_e h⟩⟩⟩⟩⟩

theorem zy_fin26 {post : Int32 → SY → Prop} {J : Int32 → Int32 → Int32 → Int32 → Int32 → (Nat → Int32) → (Nat → Int32) → (Nat → Int32) → (Nat → Int32) → (Nat → Int32) → (Nat → Int32) → (Nat → Int32) → Prop} {i : Nat} {s0 c0 : Nat → Int32} (hm0 : 0 < m) (hm : m ≤ 6) (hr : r ≤ 8) (hi : i < r) (hok : ∀ p, p < m → zq_ok ops xs as bs r p)
    (hJ : J (nI (i + 1)) (nI r) (nI W) (nI m) fR ops xs as bs ((zq_sq ops xs as bs m s0 c0 ((i + 1) * m)).1) ((zq_sq ops xs as bs m s0 c0 ((i + 1) * m)).2) dn) :
    ∀ d p, p + d = m → wY_finish_26 post J (nI i) (d + 1) (nI p) (nI r) (nI W) (nI m) fR ops xs as bs ((zq_sq ops xs as bs m s0 c0 (i * m + p)).1) ((zq_sq ops xs as bs m s0 c0 (i * m + p)).2) dn := by
  intro d
  induction d with
  | zero =>
    intro p hp
    have e : p = m := by omega
    subst e
    rw [Nat.add_mul, Nat.one_mul] at hJ
    exact br_t (nI_le (Nat.le_refl _) (by omega)) (nm_r (nI_1 i) hJ)
  | succ d ih =>
    intro p hp
    have hpm : p < m := by omega
    refine br_f (nI_ge hpm (by omega)) (zy_co (by omega) hi (hok p hpm) (nm_r (nI_1 p) ?_))
    have h1 : (i * m + p) % m = p := by rw [Nat.mul_comm i m, Nat.mul_add_mod, Nat.mod_eq_of_lt hpm]
    have h2 : (i * m + p) / m = i := by rw [Nat.mul_comm i m, Nat.mul_add_div hm0, Nat.div_eq_of_lt hpm, Nat.add_zero]
    have h3 : zq_sq ops xs as bs m s0 c0 (i * m + (p + 1)) = zq_stp ops xs as bs p i (zq_sq ops xs as bs m s0 c0 (i * m + p)).1 (zq_sq ops xs as bs m s0 c0 (i * m + p)).2 := by
      show zq_stp ops xs as bs ((i * m + p) % m) ((i * m + p) / m) _ _ = _
      rw [h1, h2]
      rfl
    have := ih (p + 1) (by omega)
    rw [h3] at this
    exact this
theorem zy_fin16 {post : Int32 → SY → Prop} {s0 c0 : Nat → Int32} (hm0 : 0 < m) (hm : m ≤ 6) (hr : r ≤ 8) (hok : ∀ p, p < m → zq_ok ops xs as bs r p)
    (h : post 1 (nI r, nI W, nI m, fR, ops, xs, as, bs, (zq_sq ops xs as bs m s0 c0 (r * m)).1, (zq_sq ops xs as bs m s0 c0 (r * m)).2, dn)) :
    ∀ d i, i + d = r → wY_finish_16 post (d + 1) (nI i) (nI r) (nI W) (nI m) fR ops xs as bs ((zq_sq ops xs as bs m s0 c0 (i * m)).1) ((zq_sq ops xs as bs m s0 c0 (i * m)).2) dn := by
  intro d
  induction d with
  | zero =>
    intro i hi
    have e : i = r := by omega
    subst e
    exact br_t (nI_le (Nat.le_refl _) (by omega)) h
  | succ d ih =>
    intro i hi
    have hir : i < r := by omega
    exact br_f (nI_ge hir (by omega)) ⟨m + 1, zy_fin26 hm0 hm hr hir hok (ih (i + 1) (by omega)) m 0 (by omega)⟩
theorem zy_fin {post : Int32 → SY → Prop} (hm0 : 0 < m) (hm : m ≤ 6) (hr : r ≤ 8) (hok : ∀ p, p < m → zq_ok ops xs as bs r p)
    (h : post 1 (nI r, nI W, nI m, 0, ops, xs, as, bs, (zq_sq ops xs as bs m sc ce (r * m)).1, (zq_sq ops xs as bs m sc ce (r * m)).2, dn)) : wpY_finish post (nI r, nI W, nI m, 1, ops, xs, as, bs, sc, ce, dn) := by
  refine br_f (by decide) ⟨r + 1, ?_⟩
  have := zy_fin16 (dn := dn) hm0 hm hr hok h r 0 (by omega)
  rw [Nat.zero_mul] at this
  exact this

/-- the reference's step, behind the new count -/
theorem zy_st57 {post : Int32 → SY → Prop} {pb : Bool} {L : Nat → Nat} {z : Int32} (hr : r ≤ 8) (hW0 : 0 < W) (hW : W ≤ 4) (hm0 : 0 < m) (hm : m ≤ 6) (hok : ∀ p, p < m → zq_ok ops xs as bs r p) (hpb : pb = true ↔ zq_par ops xs as bs m r)
    (hL : ∀ w, w < W → nI ((zq_fr pb r W (w + 1) - zq_fr pb r W w) * m) - dn w = nI (L w) ∧ L w ≤ 48)
    (h1 : (∀ w, w < W → L w = 0) → post z (nI r, nI W, nI m, 0, ops, xs, as, bs, (zq_sq ops xs as bs m sc ce (r * m)).1, (zq_sq ops xs as bs m sc ce (r * m)).2, dn)) (h0 : (¬ ∀ w, w < W → L w = 0) → post z (nI r, nI W, nI m, 1, ops, xs, as, bs, sc, ce, dn)) :
    ∀ d w S, w + d = W → S ≤ w * 48 → (S = 0 ↔ ∀ u, u < w → L u = 0) → wY_step_57 post z (nI r) (nI W) (nI m) 1 ops xs as bs sc ce dn (d + 1) (nI S) (nI w) := by
  intro d
  induction d with
  | zero =>
    intro w S hw hS hz
    have e : w = W := by omega
    subst e
    refine br_t (nI_le (Nat.le_refl _) (by omega)) (pk_eq S 0 (fun h => zy_fin hm0 hm hr hok (h1 (hz.mp h))) (fun h => h0 (fun y => h (hz.mpr y))) rfl rfl (by omega) (by omega))
  | succ d ih =>
    intro w S hw hS hz
    have hwW : w < W := by omega
    obtain ⟨a, b⟩ := hL w hwW
    refine br_f (nI_ge hwW (by omega)) (zy_left hr hW0 hW hm hok hpb hwW ?_)
    rw [a]
    refine nm_r (nI_add S (L w)) (nm_r (nI_1 w) (ih (w + 1) (S + L w) (by omega) (by omega) ?_))
    constructor
    · intro y u hu
      by_cases e : u = w
      · rw [e]; omega
      · exact hz.mp (by omega) u (by omega)
    · intro y
      have y1 := y w (by omega)
      have y2 := hz.mpr (fun u hu => y u (by omega))
      omega
theorem zy_st34 {post : Int32 → SY → Prop} {pb : Bool} {L : Nat → Nat} {z : Int32} {w : Nat} (hr : r ≤ 8) (hW0 : 0 < W) (hW : W ≤ 4) (hm0 : 0 < m) (hm : m ≤ 6) (hok : ∀ p, p < m → zq_ok ops xs as bs r p) (hpb : pb = true ↔ zq_par ops xs as bs m r) (hw : w < W)
    (hL : ∀ u, u < W → nI ((zq_fr pb r W (u + 1) - zq_fr pb r W u) * m) - (upd dn w (dn w + z)) u = nI (L u) ∧ L u ≤ 48)
    (h1 : (∀ u, u < W → L u = 0) → post z (nI r, nI W, nI m, 0, ops, xs, as, bs, (zq_sq ops xs as bs m sc ce (r * m)).1, (zq_sq ops xs as bs m sc ce (r * m)).2, upd dn w (dn w + z))) (h0 : (¬ ∀ u, u < W → L u = 0) → post z (nI r, nI W, nI m, 1, ops, xs, as, bs, sc, ce, upd dn w (dn w + z))) :
    wY_step_34 post (nI w) z (nI r) (nI W) (nI m) 1 ops xs as bs sc ce dn := by
  obtain ⟨i4, e4⟩ := zx_i4 (p := w) (by omega)
  unfold wY_step_34
  rw [e4]
  exact ⟨i4, i4, nm_e ⟨W + 1, zy_st57 hr hW0 hW hm0 hm hok hpb hL h1 h0 W 0 0 (by omega) (by omega) ⟨fun _ u hu => by omega, fun _ => rfl⟩⟩⟩
end
end
section
/-! a statement's checks, of both -/
theorem zq_i15 {v : Int32} (h : ¬ (16 : Int32) ≤ v) : v ≤ 15 := by
  rw [Int32.le_iff_toInt_le, show (16 : Int32).toInt = 16 from by decide] at h
  rw [Int32.le_iff_toInt_le, show (15 : Int32).toInt = 15 from by decide]
  omega
theorem zq_i3 {v : Int32} (h : ¬ (4 : Int32) ≤ v) : v ≤ 3 := by
  rw [Int32.le_iff_toInt_le, show (4 : Int32).toInt = 4 from by decide] at h
  rw [Int32.le_iff_toInt_le, show (3 : Int32).toInt = 3 from by decide]
  omega
theorem zq_n15 {v : Int32} (h : (16 : Int32) ≤ v) : ¬ v ≤ 15 := by
  rw [Int32.le_iff_toInt_le, show (16 : Int32).toInt = 16 from by decide] at h
  rw [Int32.le_iff_toInt_le, show (15 : Int32).toInt = 15 from by decide]
  omega
theorem zq_n3 {v : Int32} (h : (4 : Int32) ≤ v) : ¬ v ≤ 3 := by
  rw [Int32.le_iff_toInt_le, show (4 : Int32).toInt = 4 from by decide] at h
  rw [Int32.le_iff_toInt_le, show (3 : Int32).toInt = 3 from by decide]
  omega
def zq_cel (r : Nat) (a b : Int32) : Prop := -2 ≤ a ∧ a ≤ 2 ∧ 0 ≤ b ∧ b ≤ 15 ∧ ∀ i, i < r → 0 ≤ a * nI i + b ∧ a * nI i + b ≤ 15
def zq_sok (r : Nat) (o x a b : Int32) : Prop := 0 ≤ o ∧ o ≤ 5 ∧ 0 ≤ x ∧ x ≤ 3 ∧ ((o = 1 ∨ o = 2) → zq_cel r a b) ∧ ((o = 3 ∨ o = 4) → 0 ≤ a ∧ a ≤ 3)
theorem zx_isc {post : Int32 → Prop} {v : Int32} (h1 : 0 ≤ v → v ≤ 15 → post 1) (h0 : ¬ (0 ≤ v ∧ v ≤ 15) → post 0) : wpX_isCell post v :=
  br_c (fun h => h0 (fun z => Int32.not_lt.mpr z.1 h)) (fun h => br_c (fun g => h0 (fun z => zq_n15 g z.2)) (fun g => h1 (Int32.not_lt.mp h) (zq_i15 g)))
theorem zx_iss {post : Int32 → Prop} {v : Int32} (h1 : 0 ≤ v → v ≤ 3 → post 1) (h0 : ¬ (0 ≤ v ∧ v ≤ 3) → post 0) : wpX_isScalar post v :=
  br_c (fun h => h0 (fun z => Int32.not_lt.mpr z.1 h)) (fun h => br_c (fun g => h0 (fun z => zq_n3 g z.2)) (fun g => h1 (Int32.not_lt.mp h) (zq_i3 g)))
section
variable {r W m : Nat} {fR fL : Int32} {ops xs as bs sc ce rc own it pl lf : Nat → Int32}
theorem zx_sic {post : Int32 → Prop} {a b : Int32} (hr0 : 0 < r) (hr : r ≤ 8) (h1 : zq_cel r a b → post 1) (h0 : ¬ zq_cel r a b → post 0) : wpX_staysInCells post (nI r, nI W, nI m, fR, fL, ops, xs, as, bs, sc, ce, rc, own, it, pl, lf) a b := by
  unfold wpX_staysInCells
  refine br_c (fun ha => h0 (fun z => Int32.not_lt.mpr z.1 ha)) (fun ha => br_c (fun ha2 => h0 (fun z => Int32.not_lt.mpr z.2.1 ha2)) (fun ha2 => zx_isc (fun hb0 hb1 => zx_1 ?_) (fun hb => zx_0 (h0 (fun z => hb ⟨z.2.2.1, z.2.2.2.1⟩)))))
  refine nm_r (e' := a * nI (r - 1) + b) (by rw [show (1 : Int32) = nI 1 from rfl, pk_sub hr0]) (zx_isc (fun c0 c1 => ⟨narrow_b1, h1 ⟨Int32.not_lt.mp ha, Int32.not_lt.mp ha2, hb0, hb1, fun i hi => zq_last (Int32.not_lt.mp ha) (Int32.not_lt.mp ha2) hb0 hb1 hr0 hr c0 c1 hi⟩⟩) (fun c => ⟨narrow_b0, h0 (fun z => c (z.2.2.2.2 (r - 1) (by omega)))⟩))
theorem zx_ist {post : Int32 → Prop} {o x a b : Int32} (hr0 : 0 < r) (hr : r ≤ 8) (h1 : zq_sok r o x a b → post 1) (h0 : ¬ zq_sok r o x a b → post 0) : wpX_isStatement post (nI r, nI W, nI m, fR, fL, ops, xs, as, bs, sc, ce, rc, own, it, pl, lf) o x a b := by
  unfold wpX_isStatement
  refine br_c (fun ha => h0 (fun z => Int32.not_lt.mpr z.1 ha)) (fun ha => br_c (fun ha2 => h0 (fun z => Int32.not_lt.mpr z.2.1 ha2)) (fun ha2 => zx_iss (fun hb0 hb1 => zx_1 (zx_uc (fun hu => zx_1 (zx_sic hr0 hr (fun hc => ⟨narrow_b1, h1 ⟨Int32.not_lt.mp ha, Int32.not_lt.mp ha2, hb0, hb1, fun _ => hc, fun y => ?_⟩⟩) (fun hc => ⟨narrow_b0, h0 (fun z => hc (z.2.2.2.2.1 hu))⟩))) (fun hu => zx_0 (zx_rsa (fun hv => zx_1 (zx_iss (fun d0 d1 => zx_1 (h1 ⟨Int32.not_lt.mp ha, Int32.not_lt.mp ha2, hb0, hb1, fun y => absurd y hu, fun _ => ⟨d0, d1⟩⟩)) (fun d => zx_0 (h0 (fun z => d (z.2.2.2.2.2 hv)))))) (fun hv => zx_0 (h1 ⟨Int32.not_lt.mp ha, Int32.not_lt.mp ha2, hb0, hb1, fun y => absurd y hu, fun y => absurd y hv⟩)))))) (fun hb => zx_0 (h0 (fun z => hb ⟨z.2.2.1, z.2.2.2.1⟩)))))
  exfalso
  rcases hu with e | e <;> rw [e] at y <;> exact absurd y (by decide)
end
section
variable {r W m : Nat} {fR : Int32} {ops xs as bs sc ce dn : Nat → Int32}
theorem zy_ins_lp {post : Int32 → Prop} {a b : Int32} (hr : r ≤ 8) (h1 : (∀ i, i < r → 0 ≤ a * nI i + b ∧ a * nI i + b ≤ 15) → post 1) (h0 : (¬ ∀ i, i < r → 0 ≤ a * nI i + b ∧ a * nI i + b ≤ 15) → post 0) :
    ∀ d i v, i + d = r → ((v = 1 ∧ ∀ i', i' < i → 0 ≤ a * nI i' + b ∧ a * nI i' + b ≤ 15) ∨ (v = 0 ∧ ¬ ∀ i, i < r → 0 ≤ a * nI i + b ∧ a * nI i + b ≤ 15)) → wY_inside_28 post a b (nI r) (nI W) (nI m) fR ops xs as bs sc ce dn (d + 1) v (nI i) := by
  intro d
  induction d with
  | zero =>
    intro i v hi hn
    have e : i = r := by omega
    subst e
    refine br_t (nI_le (Nat.le_refl _) (by omega)) ?_
    rcases hn with ⟨e, h⟩ | ⟨e, h⟩
    · subst e; exact ⟨narrow_b1, h1 h⟩
    · subst e; exact ⟨narrow_b0, h0 h⟩
  | succ d ih =>
    intro i v hi hn
    have hir : i < r := by omega
    refine br_f (nI_ge hir (by omega)) ?_
    rcases hn with ⟨e, h⟩ | ⟨e, h⟩
    · subst e
      refine br_f (by decide) (br_c (fun c => nm_r (nI_1 i) (ih (i + 1) 0 (by omega) (Or.inr ⟨rfl, fun z => Int32.not_lt.mpr (z i hir).1 c⟩))) (fun c => br_c (fun e => nm_r (nI_1 i) (ih (i + 1) 0 (by omega) (Or.inr ⟨rfl, fun z => Int32.not_lt.mpr (z i hir).2 e⟩))) (fun e => nm_r (nI_1 i) (ih (i + 1) 1 (by omega) (Or.inl ⟨rfl, fun i' h' => ?_⟩)))))
      by_cases q : i' = i
      · rw [q]; exact ⟨Int32.not_lt.mp c, Int32.not_lt.mp e⟩
      · exact h i' (by omega)
    · subst e
      exact br_t rfl (nm_r (nI_1 i) (ih (i + 1) 0 (by omega) (Or.inr ⟨rfl, h⟩)))
theorem zy_ins {post : Int32 → Prop} {a b : Int32} (hr : r ≤ 8) (h1 : zq_cel r a b → post 1) (h0 : ¬ zq_cel r a b → post 0) : wpY_inside post (nI r, nI W, nI m, fR, ops, xs, as, bs, sc, ce, dn) a b := by
  unfold wpY_inside
  exact br_c (fun ha => h0 (fun z => Int32.not_lt.mpr z.1 ha)) (fun ha => br_c (fun ha2 => h0 (fun z => Int32.not_lt.mpr z.2.1 ha2)) (fun ha2 => br_c (fun hb => h0 (fun z => Int32.not_lt.mpr z.2.2.1 hb)) (fun hb => br_c (fun hb2 => ⟨r + 1, zy_ins_lp hr (fun c => h1 ⟨Int32.not_lt.mp ha, Int32.not_lt.mp ha2, Int32.not_lt.mp hb, hb2, c⟩) (fun c => h0 (fun z => c z.2.2.2.2)) r 0 1 (by omega) (Or.inl ⟨rfl, fun i' h' => by omega⟩)⟩) (fun hb2 => h0 (fun z => hb2 z.2.2.2.1)))))
theorem zy_add {post : Int32 → SY → Prop} {o x a b : Int32} (hr : r ≤ 8) (h1 : zq_sok r o x a b → wY_add_69 post o x a b (nI r) (nI W) (nI m) 0 ops xs as bs sc ce dn) (h0 : ¬ zq_sok r o x a b → post (-1) (nI r, nI W, nI m, 0, ops, xs, as, bs, sc, ce, dn)) : wpY_add post (nI r, nI W, nI m, 0, ops, xs, as, bs, sc, ce, dn) o x a b := by
  have k58 : (o = 3 ∨ o = 4) → ¬ o < 0 → ¬ 5 < o → ¬ x < 0 → ¬ 3 < x → wY_add_58 post o x a b (nI r) (nI W) (nI m) 0 ops xs as bs sc ce dn := fun ho p1 p2 p3 p4 =>
    br_c (fun c => h0 (fun z => Int32.not_lt.mpr (z.2.2.2.2.2 ho).1 c)) (fun c => br_c (fun e => h1 ⟨Int32.not_lt.mp p1, Int32.not_lt.mp p2, Int32.not_lt.mp p3, Int32.not_lt.mp p4, fun y => (by
      exfalso
      rcases ho with e | e <;> rw [e] at y <;> exact absurd y (by decide)), fun _ => ⟨Int32.not_lt.mp c, e⟩⟩) (fun e => h0 (fun z => e (z.2.2.2.2.2 ho).2)))
  have k48 : ((o = 1 ∨ o = 2) → zq_cel r a b) → ¬ o < 0 → ¬ 5 < o → ¬ x < 0 → ¬ 3 < x → wY_add_48 post o x a b (nI r) (nI W) (nI m) 0 ops xs as bs sc ce dn := fun hc p1 p2 p3 p4 =>
    br_c (fun e => k58 (Or.inl e) p1 p2 p3 p4) (fun e => br_c (fun f => k58 (Or.inr f) p1 p2 p3 p4) (fun f => h1 ⟨Int32.not_lt.mp p1, Int32.not_lt.mp p2, Int32.not_lt.mp p3, Int32.not_lt.mp p4, hc, fun y => absurd y (fun z => z.elim e f)⟩))
  have k38 : (o = 1 ∨ o = 2) → ¬ o < 0 → ¬ 5 < o → ¬ x < 0 → ¬ 3 < x → wY_add_38 post o x a b (nI r) (nI W) (nI m) 0 ops xs as bs sc ce dn := fun ho p1 p2 p3 p4 =>
    zy_ins hr (fun hc => zx_1 (k48 (fun _ => hc) p1 p2 p3 p4)) (fun hc => zx_0 (h0 (fun z => hc (z.2.2.2.2.1 ho))))
  unfold wpY_add
  exact br_t rfl (br_c (fun p1 => h0 (fun z => Int32.not_lt.mpr z.1 p1)) (fun p1 => br_c (fun p2 => h0 (fun z => Int32.not_lt.mpr z.2.1 p2)) (fun p2 => br_c (fun p3 => h0 (fun z => Int32.not_lt.mpr z.2.2.1 p3)) (fun p3 => br_c (fun p4 => h0 (fun z => Int32.not_lt.mpr z.2.2.2.1 p4)) (fun p4 => br_c (fun e => k38 (Or.inl e) p1 p2 p3 p4) (fun e => br_c (fun f => k38 (Or.inr f) p1 p2 p3 p4) (fun f => k48 (fun y => absurd y (fun z => z.elim e f)) p1 p2 p3 p4)))))))
end
section
variable {ops xs as bs : Nat → Int32} {r m : Nat} {o x a b : Int32}
theorem zq_okS (h : zq_sok r o x a b) : zq_ok (upd ops m o) (upd xs m x) (upd as m a) (upd bs m b) r m := by
  obtain ⟨h1, h2, h3, h4, h5, h6⟩ := h
  unfold zq_ok zq_tou
  rw [pk_us, pk_us, pk_us, pk_us]
  obtain ⟨j, hj, ej⟩ := nI_of2 (M := 5) (n := 5) (by decide) (Int32.not_lt.mpr h1) h2
  obtain ⟨k, hk, ek⟩ := nI_of2 (M := 3) (n := 3) (by decide) (Int32.not_lt.mpr h3) h4
  refine ⟨⟨j, by omega, ej⟩, ⟨k, by omega, ek⟩, fun ho i hi => ?_, fun ho => ?_⟩
  · obtain ⟨p, q⟩ := (h5 ho).2.2.2.2 i hi
    exact zq_cell15 p q
  · obtain ⟨p, q⟩ := h6 ho
    obtain ⟨l, hl, el⟩ := nI_of2 (M := 3) (n := 3) (by decide) (Int32.not_lt.mpr p) q
    exact ⟨l, by omega, el⟩
theorem zq_okK {p : Nat} (hp : p ≠ m) (h : zq_ok ops xs as bs r p) : zq_ok (upd ops m o) (upd xs m x) (upd as m a) (upd bs m b) r p := by
  unfold zq_ok zq_tou at h ⊢
  rw [pk_un hp, pk_un hp, pk_un hp, pk_un hp]
  exact h
end
end
section
/-! the relation -/
def zq_B (r W m : Nat) (ops xs as bs : Nat → Int32) : Prop := 0 < r ∧ r ≤ 8 ∧ 0 < W ∧ W ≤ 4 ∧ m ≤ 6 ∧ ∀ p, p < m → zq_ok ops xs as bs r p
def zq_On (r W m : Nat) (fL : Int32) (ops xs as bs sc ce rc own it pl lf dn : Nat → Int32) : Prop := ∃ (pb : Bool) (t : Nat → Nat),
  (pb = true ↔ zq_par ops xs as bs m r) ∧ fL = nI (if pb = true then W - 1 else 0) ∧ zq_XR ops xs as bs m r W pb sc ce t own rc it pl ∧
  ∀ w, w < W → dn w = nI (t w - zq_fr pb r W w * m) ∧ lf w = nI (zq_fr pb r W (w + 1) * m - t w)
/-- body, scalars and cells are the same functions; while a run is on, each worker stands somewhere in its share of the plain loop -/
def i_Rel (k : Nat) (u : SX) (v : SY) : Prop := ∃ (r W m : Nat) (fR fL : Int32) (ops xs as bs sc ce rc own it pl lf dn : Nat → Int32),
  u = (nI r, nI W, nI m, fR, fL, ops, xs, as, bs, sc, ce, rc, own, it, pl, lf) ∧ v = (nI r, nI W, nI m, fR, ops, xs, as, bs, sc, ce, dn) ∧ zq_B r W m ops xs as bs ∧ (fR = 0 ∨ (fR = 1 ∧ 0 < m ∧ zq_On r W m fL ops xs as bs sc ce rc own it pl lf dn))
section
variable {k r W m : Nat} {fL : Int32} {ops xs as bs sc ce rc own it pl lf dn : Nat → Int32}
theorem zq_R0 (h : zq_B r W m ops xs as bs) : i_Rel k (nI r, nI W, nI m, 0, fL, ops, xs, as, bs, sc, ce, rc, own, it, pl, lf) (nI r, nI W, nI m, 0, ops, xs, as, bs, sc, ce, dn) := ⟨r, W, m, 0, fL, ops, xs, as, bs, sc, ce, rc, own, it, pl, lf, dn, rfl, rfl, h, Or.inl rfl⟩
theorem zq_R1 (h : zq_B r W m ops xs as bs) (hm : 0 < m) (ho : zq_On r W m fL ops xs as bs sc ce rc own it pl lf dn) : i_Rel k (nI r, nI W, nI m, 1, fL, ops, xs, as, bs, sc, ce, rc, own, it, pl, lf) (nI r, nI W, nI m, 1, ops, xs, as, bs, sc, ce, dn) := ⟨r, W, m, 1, fL, ops, xs, as, bs, sc, ce, rc, own, it, pl, lf, dn, rfl, rfl, h, Or.inr ⟨rfl, hm, ho⟩⟩
theorem zq_hi (hW0 : 0 < W) {pb : Bool} {w : Nat} (hr : r ≤ 8) (hm : m ≤ 6) (hw : w < W) : zq_fr pb r W (w + 1) * m ≤ 48 := by
  have h1 : zq_fr pb r W (w + 1) ≤ r := zq_fr_le hW0 (by omega)
  exact Nat.le_trans (Nat.mul_le_mul (show zq_fr pb r W (w + 1) ≤ 8 by omega) hm) (by omega)
/-- what a worker has left, as the reference reckons it -/
theorem zq_lft {pb : Bool} {w t : Nat} {d : Int32} (h1 : zq_fr pb r W w * m ≤ t) (h2 : t ≤ zq_fr pb r W (w + 1) * m) (hd : d = nI (t - zq_fr pb r W w * m)) :
    nI ((zq_fr pb r W (w + 1) - zq_fr pb r W w) * m) - d = nI (zq_fr pb r W (w + 1) * m - t) := by
  rw [hd, Nat.sub_mul, pk_sub (by omega)]
  exact congrArg nI (by omega)
end

theorem i_up {k : Nat} {u : SX} {v : SY} (h : i_Rel k u v) : i_Rel (k + 5) u v := h

theorem zq_in1 {v : Int32} {M : Int32} {n : Nat} (hM : M.toInt = n) (h0 : 1 ≤ v) (h1 : v ≤ M) : ∃ j, 0 < j ∧ j ≤ n ∧ v = nI j := by
  have h : ¬ v < 0 := by
    rw [Int32.le_iff_toInt_le, show (1 : Int32).toInt = 1 from by decide] at h0
    rw [Int32.lt_iff_toInt_lt, show (0 : Int32).toInt = 0 from by decide]
    omega
  obtain ⟨j, hj, e⟩ := nI_of2 hM h h1
  refine ⟨j, ?_, hj, e⟩
  rcases Nat.eq_zero_or_pos j with z | z
  · subst z
    rw [e] at h0
    exact absurd h0 (by decide)
  · exact z
theorem zq_init {a b : Int32} (ha : ∃ r, 0 < r ∧ r ≤ 8 ∧ a = nI r) (hb : ∃ W, 0 < W ∧ W ≤ 4 ∧ b = nI W) :
    i_Rel 2 (a, b, 0, 0, 0, (fun _ => 0), (fun _ => 0), (fun _ => 0), (fun _ => 0), (fun _ => 0), (fun _ => 0), (fun _ => 0), (fun _ => 0), (fun _ => 0), (fun _ => 0), (fun _ => 0)) (a, b, 0, 0, (fun _ => 0), (fun _ => 0), (fun _ => 0), (fun _ => 0), (fun _ => 0), (fun _ => 0), (fun _ => 0)) := by
  obtain ⟨r, h1, h2, rfl⟩ := ha
  obtain ⟨W, h3, h4, rfl⟩ := hb
  exact zq_R0 (m := 0) ⟨h1, h2, h3, h4, by omega, fun p hp => by omega⟩
theorem i_vc0 (k0 : Int32) (k1 : Int32) : wpX_init (fun u => wpY_init (fun v => i_Rel 2 u v) k0 k1) k0 k1 := by
  unfold wpX_init wpX_clamp wpY_init wY_init_80
  refine br_c (fun h1 => br_c (fun h2 => ?_) (fun h2 => ?_)) (fun h1 => ?_)
  · have ha := zq_in1 (M := 8) (n := 8) (by decide) h1 h2
    refine br_c (fun g1 => br_c (fun g2 => ?_) (fun g2 => ?_)) (fun g1 => ?_)
    · exact br_t h1 (br_t h2 (br_t g1 (br_t g2 (zq_init ha (zq_in1 (M := 4) (n := 4) (by decide) g1 g2)))))
    · exact br_t h1 (br_t h2 (br_t g1 (br_f g2 (zq_init ha ⟨4, by omega, by omega, rfl⟩))))
    · exact br_t h1 (br_t h2 (br_f g1 (zq_init ha ⟨1, by omega, by omega, rfl⟩)))
  · have ha : ∃ r, 0 < r ∧ r ≤ 8 ∧ (8 : Int32) = nI r := ⟨8, by omega, by omega, rfl⟩
    refine br_c (fun g1 => br_c (fun g2 => ?_) (fun g2 => ?_)) (fun g1 => ?_)
    · exact br_t h1 (br_f h2 (br_t g1 (br_t g2 (zq_init ha (zq_in1 (M := 4) (n := 4) (by decide) g1 g2)))))
    · exact br_t h1 (br_f h2 (br_t g1 (br_f g2 (zq_init ha ⟨4, by omega, by omega, rfl⟩))))
    · exact br_t h1 (br_f h2 (br_f g1 (zq_init ha ⟨1, by omega, by omega, rfl⟩)))
  · have ha : ∃ r, 0 < r ∧ r ≤ 8 ∧ (1 : Int32) = nI r := ⟨1, by omega, by omega, rfl⟩
    refine br_c (fun g1 => br_c (fun g2 => ?_) (fun g2 => ?_)) (fun g1 => ?_)
    · exact br_f h1 (br_t g1 (br_t g2 (zq_init ha (zq_in1 (M := 4) (n := 4) (by decide) g1 g2))))
    · exact br_f h1 (br_t g1 (br_f g2 (zq_init ha ⟨4, by omega, by omega, rfl⟩)))
    · exact br_f h1 (br_f g1 (zq_init ha ⟨1, by omega, by omega, rfl⟩))

theorem i_vc_add {k : Nat} {u : SX} {v : SY} (I : i_Rel k u v) (hk : k + 5 ≤ 2562) (v1 : Int32) (v2 : Int32) (v3 : Int32) (v4 : Int32) : wpX_add (fun r u' => wpY_add (fun r' v' => r' = r ∧ i_Rel (k + 5) u' v') v v1 v2 v3 v4) u v1 v2 v3 v4 := by
  have I0 := I
  obtain ⟨r, W, m, fR, fL, ops, xs, as, bs, sc, ce, rc, own, it, pl, lf, dn, rfl, rfl, hB, hR⟩ := I
  have hB' := hB
  obtain ⟨hr0, hr, hW0, hW, hm, hok⟩ := hB'
  rcases hR with e | ⟨e, hm0, hO⟩
  · subst e
    unfold wpX_add
    refine br_t rfl (zx_ist hr0 hr (fun hs => zx_1 ?_) (fun hs => zx_0 (zy_add hr (fun z => absurd z hs) (fun _ => ⟨rfl, I0⟩))))
    refine pk_eq m 6 (fun h6 => zy_add hr (fun _ => ?_) (fun z => absurd hs z)) (fun h6 => ?_) rfl rfl (by omega) (by omega)
    · exact br_f (nI_nlt (b := 6) (by omega) (by omega)) ⟨rfl, I0⟩
    · obtain ⟨i6, e6⟩ := zx_i6 (p := m) (by omega)
      refine ⟨i6, ?_⟩
      rw [e6]
      refine nm_e ⟨i6, nm_e ⟨i6, nm_e ⟨i6, nm_e (nm_r (nI_1 m) (zy_add hr (fun _ => ?_) (fun z => absurd hs z)))⟩⟩⟩
      refine br_t (nI_lt (b := 6) (by omega) (by omega)) ⟨i6, ?_⟩
      rw [e6]
      refine nm_e ⟨i6, nm_e ⟨i6, nm_e ⟨i6, nm_e (nm_r (nI_1 m) ⟨nI_pred m, zq_R0 ⟨hr0, hr, hW0, hW, by omega, fun p hp => ?_⟩⟩)⟩⟩⟩
      by_cases e : p = m
      · subst e; exact zq_okS hs
      · exact zq_okK e (hok p (by omega))
  · subst e
    exact br_f (by decide) (br_f (by decide) ⟨rfl, I0⟩)
theorem i_vc_drop {k : Nat} {u : SX} {v : SY} (I : i_Rel k u v) (hk : k + 5 ≤ 2562) : wpX_drop (fun r u' => wpY_drop (fun r' v' => r' = r ∧ i_Rel (k + 5) u' v') v) u := by
  have I0 := I
  obtain ⟨r, W, m, fR, fL, ops, xs, as, bs, sc, ce, rc, own, it, pl, lf, dn, rfl, rfl, hB, hR⟩ := I
  have hB' := hB
  obtain ⟨hr0, hr, hW0, hW, hm, hok⟩ := hB'
  rcases hR with e | ⟨e, hm0, hO⟩
  · subst e
    rcases Nat.eq_zero_or_pos m with z | z
    · subst z
      exact br_t rfl (br_t rfl (br_t rfl (br_t rfl ⟨rfl, I0⟩)))
    · have hz : ¬ nI m = 0 := nI_ne0 z (by omega)
      have e1 : nI m - 1 = nI (m - 1) := by rw [show (1 : Int32) = nI 1 from rfl, pk_sub z]
      exact br_t rfl (br_f hz (nm_r e1 (br_t rfl (br_f hz (nm_r e1 ⟨rfl, zq_R0 ⟨hr0, hr, hW0, hW, by omega, fun p hp => hok p (by omega)⟩⟩)))))
  · subst e
    exact br_f (by decide) (br_f (by decide) ⟨rfl, I0⟩)
theorem i_vc_length {k : Nat} {u : SX} {v : SY} (I : i_Rel k u v) (hk : k + 5 ≤ 2562) : wpX_length (fun r => wpY_length (fun r' => r' = r ∧ i_Rel (k + 5) u v) v) u := by
  have I0 := I
  obtain ⟨r, W, m, fR, fL, ops, xs, as, bs, sc, ce, rc, own, it, pl, lf, dn, rfl, rfl, hB, hR⟩ := I
  exact ⟨rfl, I0⟩
theorem i_vc_setScalar {k : Nat} {u : SX} {v : SY} (I : i_Rel k u v) (hk : k + 5 ≤ 2562) (v1 : Int32) (v2 : Int32) : wpX_setScalar (fun r u' => wpY_setScalar (fun r' v' => r' = r ∧ i_Rel (k + 5) u' v') v v1 v2) u v1 v2 := by
  have I0 := I
  obtain ⟨r, W, m, fR, fL, ops, xs, as, bs, sc, ce, rc, own, it, pl, lf, dn, rfl, rfl, hB, hR⟩ := I
  rcases hR with e | ⟨e, hm0, hO⟩
  · subst e
    refine br_t rfl (zx_iss (fun h0 h1 => zx_1 ?_) (fun h => zx_0 (br_t rfl (br_c (fun _ => ⟨rfl, I0⟩) (fun n => br_f (fun z => h ⟨Int32.not_lt.mp n, z⟩) ⟨rfl, I0⟩)))))
    obtain ⟨j, hj, e⟩ := nI_of2 (M := 3) (n := 3) (by decide) (Int32.not_lt.mpr h0) h1
    subst e
    obtain ⟨i4, e4⟩ := zx_i4 (p := j) (by omega)
    exact ⟨i4, nm_e (br_t rfl (br_f (Int32.not_lt.mpr h0) (br_t h1 ⟨i4, nm_e ⟨rfl, zq_R0 hB⟩⟩)))⟩
  · subst e
    exact br_f (by decide) (br_f (by decide) ⟨rfl, I0⟩)
theorem i_vc_setCell {k : Nat} {u : SX} {v : SY} (I : i_Rel k u v) (hk : k + 5 ≤ 2562) (v1 : Int32) (v2 : Int32) : wpX_setCell (fun r u' => wpY_setCell (fun r' v' => r' = r ∧ i_Rel (k + 5) u' v') v v1 v2) u v1 v2 := by
  have I0 := I
  obtain ⟨r, W, m, fR, fL, ops, xs, as, bs, sc, ce, rc, own, it, pl, lf, dn, rfl, rfl, hB, hR⟩ := I
  rcases hR with e | ⟨e, hm0, hO⟩
  · subst e
    refine br_t rfl (zx_isc (fun h0 h1 => zx_1 ?_) (fun h => zx_0 (br_t rfl (br_c (fun _ => ⟨rfl, I0⟩) (fun n => br_f (fun z => h ⟨Int32.not_lt.mp n, z⟩) ⟨rfl, I0⟩)))))
    obtain ⟨j, hj, e⟩ := nI_of2 (M := 15) (n := 15) (by decide) (Int32.not_lt.mpr h0) h1
    subst e
    obtain ⟨i4, e4⟩ := zx_i16 (p := j) (by omega)
    exact ⟨i4, nm_e (br_t rfl (br_f (Int32.not_lt.mpr h0) (br_t h1 ⟨i4, nm_e ⟨rfl, zq_R0 hB⟩⟩)))⟩
  · subst e
    exact br_f (by decide) (br_f (by decide) ⟨rfl, I0⟩)
theorem i_vc_scalar {k : Nat} {u : SX} {v : SY} (I : i_Rel k u v) (hk : k + 5 ≤ 2562) (v1 : Int32) : wpX_scalar (fun r => wpY_scalar (fun r' => r' = r ∧ i_Rel (k + 5) u v) v v1) u v1 := by
  have I0 := I
  obtain ⟨r, W, m, fR, fL, ops, xs, as, bs, sc, ce, rc, own, it, pl, lf, dn, rfl, rfl, hB, hR⟩ := I
  unfold wpX_scalar
  refine zx_iss (fun h0 h1 => zx_1 ?_) (fun h => zx_0 (br_c (fun _ => ⟨rfl, I0⟩) (fun n => br_f (fun z => h ⟨Int32.not_lt.mp n, z⟩) ⟨rfl, I0⟩)))
  obtain ⟨j, hj, e⟩ := nI_of2 (M := 3) (n := 3) (by decide) (Int32.not_lt.mpr h0) h1
  subst e
  obtain ⟨i4, e4⟩ := zx_i4 (p := j) (by omega)
  exact ⟨i4, br_f (Int32.not_lt.mpr h0) (br_t h1 ⟨i4, rfl, I0⟩)⟩
theorem i_vc_cell {k : Nat} {u : SX} {v : SY} (I : i_Rel k u v) (hk : k + 5 ≤ 2562) (v1 : Int32) : wpX_cell (fun r => wpY_cell (fun r' => r' = r ∧ i_Rel (k + 5) u v) v v1) u v1 := by
  have I0 := I
  obtain ⟨r, W, m, fR, fL, ops, xs, as, bs, sc, ce, rc, own, it, pl, lf, dn, rfl, rfl, hB, hR⟩ := I
  unfold wpX_cell
  refine zx_isc (fun h0 h1 => zx_1 ?_) (fun h => zx_0 (br_c (fun _ => ⟨rfl, I0⟩) (fun n => br_f (fun z => h ⟨Int32.not_lt.mp n, z⟩) ⟨rfl, I0⟩)))
  obtain ⟨j, hj, e⟩ := nI_of2 (M := 15) (n := 15) (by decide) (Int32.not_lt.mpr h0) h1
  subst e
  obtain ⟨i4, e4⟩ := zx_i16 (p := j) (by omega)
  exact ⟨i4, br_f (Int32.not_lt.mpr h0) (br_t h1 ⟨i4, rfl, I0⟩)⟩
theorem i_vc_role {k : Nat} {u : SX} {v : SY} (I : i_Rel k u v) (hk : k + 5 ≤ 2562) (v1 : Int32) : wpX_role (fun r => wpY_role (fun r' => r' = r ∧ i_Rel (k + 5) u v) v v1) u v1 := by
  have I0 := I
  obtain ⟨r, W, m, fR, fL, ops, xs, as, bs, sc, ce, rc, own, it, pl, lf, dn, rfl, rfl, hB, hR⟩ := I
  obtain ⟨hr0, hr, hW0, hW, hm, hok⟩ := hB
  unfold wpX_role
  refine zx_iss (fun h0 h1 => zx_1 ?_) (fun h => zx_0 (br_c (fun _ => ⟨rfl, I0⟩) (fun n => br_f (fun z => h ⟨Int32.not_lt.mp n, z⟩) ⟨rfl, I0⟩)))
  obtain ⟨j, hj, e⟩ := nI_of2 (M := 3) (n := 3) (by decide) (Int32.not_lt.mpr h0) h1
  subst e
  exact zx_rol hm hok (zy_rol (by omega) hm hok ⟨rfl, I0⟩)
theorem i_vc_clash {k : Nat} {u : SX} {v : SY} (I : i_Rel k u v) (hk : k + 5 ≤ 2562) (v1 : Int32) (v2 : Int32) : wpX_clash (fun r => wpY_clash (fun r' => r' = r ∧ i_Rel (k + 5) u v) v v1 v2) u v1 v2 := by
  have I0 := I
  obtain ⟨r, W, m, fR, fL, ops, xs, as, bs, sc, ce, rc, own, it, pl, lf, dn, rfl, rfl, hB, hR⟩ := I
  obtain ⟨hr0, hr, hW0, hW, hm, hok⟩ := hB
  have ot : ∀ v : Int32, (v < 0 ∨ nI m ≤ v) ∨ ∃ j, j < m ∧ v = nI j := by
    intro v
    rcases pk_ix v (n := m) (by omega) with h | h | h
    · exact Or.inl (Or.inl h)
    · exact Or.inl (Or.inr h)
    · exact Or.inr h
  rcases ot v1 with h1 | ⟨p, hp, rfl⟩
  · unfold wpX_clash
    exact zx_plc0 h1 (zx_0 (br_c (fun _ => ⟨rfl, I0⟩) (fun n => br_t (h1.resolve_left n) ⟨rfl, I0⟩)))
  · rcases ot v2 with h2 | ⟨q, hq, rfl⟩
    · unfold wpX_clash
      exact zx_plc hm hp (zx_1 (zx_plc0 h2 (zx_0 (br_f (nI_pos (by omega)) (br_f (nI_ge hp (by omega)) (br_c (fun _ => ⟨rfl, I0⟩) (fun n => br_t (h2.resolve_left n) ⟨rfl, I0⟩)))))))
    · exact zx_cla hr hm hp hq (fun h => zy_cla hr hm hp hq (fun _ => ⟨rfl, I0⟩) (fun z => absurd h z)) (fun h => zy_cla hr hm hp hq (fun z => absurd z h) (fun _ => ⟨rfl, I0⟩))
theorem i_vc_parallel {k : Nat} {u : SX} {v : SY} (I : i_Rel k u v) (hk : k + 5 ≤ 2562) : wpX_parallel (fun r => wpY_parallel (fun r' => r' = r ∧ i_Rel (k + 5) u v) v) u := by
  have I0 := I
  obtain ⟨r, W, m, fR, fL, ops, xs, as, bs, sc, ce, rc, own, it, pl, lf, dn, rfl, rfl, hB, hR⟩ := I
  obtain ⟨hr0, hr, hW0, hW, hm, hok⟩ := hB
  exact zx_par hr hm hok (fun h => zy_par hr hm hok (fun _ => ⟨rfl, I0⟩) (fun z => absurd h z)) (fun h => zy_par hr hm hok (fun z => absurd z h) (fun _ => ⟨rfl, I0⟩))
theorem i_vc_abandon {k : Nat} {u : SX} {v : SY} (I : i_Rel k u v) (hk : k + 5 ≤ 2562) : wpX_abandon (fun r u' => wpY_abandon (fun r' v' => r' = r ∧ i_Rel (k + 5) u' v') v) u := by
  have I0 := I
  obtain ⟨r, W, m, fR, fL, ops, xs, as, bs, sc, ce, rc, own, it, pl, lf, dn, rfl, rfl, hB, hR⟩ := I
  rcases hR with e | ⟨e, hm0, hO⟩
  · subst e
    exact br_t rfl (br_t rfl ⟨rfl, I0⟩)
  · subst e
    exact br_f (by decide) (br_f (by decide) ⟨rfl, zq_R0 hB⟩)
theorem i_vc_left {k : Nat} {u : SX} {v : SY} (I : i_Rel k u v) (hk : k + 5 ≤ 2562) (v1 : Int32) : wpX_left (fun r => wpY_left (fun r' => r' = r ∧ i_Rel (k + 5) u v) v v1) u v1 := by
  have I0 := I
  obtain ⟨r, W, m, fR, fL, ops, xs, as, bs, sc, ce, rc, own, it, pl, lf, dn, rfl, rfl, hB, hR⟩ := I
  obtain ⟨hr0, hr, hW0, hW, hm, hok⟩ := hB
  rcases hR with e | ⟨e, hm0, hO⟩
  · subst e
    refine br_t rfl ?_
    unfold wpY_left
    exact zy_wkn (zx_0 ⟨rfl, I0⟩)
  · subst e
    refine br_f (by decide) ?_
    have ot : (v1 < 0 ∨ nI W ≤ v1) ∨ ∃ j, j < W ∧ v1 = nI j := by
      rcases pk_ix v1 (n := W) (by omega) with h | h | h
      · exact Or.inl (Or.inl h)
      · exact Or.inl (Or.inr h)
      · exact Or.inr h
    rcases ot with h1 | ⟨w, hw, rfl⟩
    · refine br_c (fun _ => zx_0 ?_) (fun n => br_t (h1.resolve_left n) (zx_0 ?_))
      · unfold wpY_left
        exact zy_wk0 h1 (zx_0 ⟨rfl, I0⟩)
      · unfold wpY_left
        exact zy_wk0 h1 (zx_0 ⟨rfl, I0⟩)
    · obtain ⟨i4, e4⟩ := zx_i4 (p := w) (by omega)
      obtain ⟨pb, t, hpb, hfl, hX, hD⟩ := hO
      obtain ⟨hd, hl⟩ := hD w hw
      obtain ⟨⟨hlo, hhi⟩, _⟩ := hX.1 w hw
      refine br_f (nI_pos (by omega)) (br_f (nI_ge hw (by omega)) (zx_1 ⟨i4, zy_left hr hW0 hW hm hok hpb hw ⟨?_, I0⟩⟩))
      rw [e4, zq_lft hlo hhi hd, hl]
end
section
/-! start, step, finish -/
section
variable {r W m : Nat} {ops xs as bs sc ce dn : Nat → Int32}
theorem zy_st27 {post : Int32 → SY → Prop} {fR : Int32} (h : ∀ dn', (∀ w, w < 4 → dn' w = 0) → post 1 (nI r, nI W, nI m, fR, ops, xs, as, bs, sc, ce, dn')) :
    ∀ d w dn', w + d = 4 → (∀ u, u < w → dn' u = 0) → wY_start_27 post (nI r) (nI W) (nI m) fR (d + 1) (nI w) ops xs as bs sc ce dn' := by
  intro d
  induction d with
  | zero =>
    intro w dn' hw h1
    have e : w = 4 := by omega
    subst e
    exact br_t (nI_le (a := 4) (b := 4) (Nat.le_refl _) (by omega)) (h dn' h1)
  | succ d ih =>
    intro w dn' hw h1
    have hw4 : w < 4 := by omega
    obtain ⟨i4, e4⟩ := zx_i4 hw4
    refine br_f (nI_ge (b := 4) hw4 (by omega)) ⟨i4, ?_⟩
    rw [e4]
    refine nm_e (nm_r (nI_1 w) (ih (w + 1) _ (by omega) (fun u hu => ?_)))
    by_cases e : u = w
    · rw [e, pk_us]
    · rw [pk_un e]; exact h1 u (by omega)
end
section
variable {k r W m : Nat} {fL : Int32} {ops xs as bs sc ce rc own it pl lf dn : Nat → Int32}
theorem zq_go {pb : Bool} (hB : zq_B r W m ops xs as bs) (hm0 : 0 < m) (hpb : pb = true ↔ zq_par ops xs as bs m r)
    (hc : ∀ k, k < 16 → rc k = ce k) (ho : ∀ w, w < W → ∀ x, x < 4 → own (w * 4 + x) = sc x) (hs : ∀ w, w < W → zq_shr pb r W m w it pl lf) (hd : ∀ w, w < 4 → dn w = 0) :
    zq_On r W m (nI (if pb = true then W - 1 else 0)) ops xs as bs sc ce rc own it pl lf dn := by
  obtain ⟨hr0, hr, hW0, hW, hm, hok⟩ := hB
  refine ⟨pb, fun w => zq_fr pb r W w * m, hpb, rfl, ⟨zq_run_init ops xs as bs hm0 hW0 hok hpb.mp ho hc, fun w hw ht => ?_⟩, fun w hw => ?_⟩
  · obtain ⟨_, h2, h3⟩ := hs w hw
    have ht2 : zq_fr pb r W w * m < zq_fr pb r W (w + 1) * m := ht
    show pl w = nI (zq_fr pb r W w * m % m) ∧ it w = nI (zq_fr pb r W w * m / m)
    rw [Nat.mul_mod_left, Nat.mul_div_cancel _ hm0]
    exact ⟨h2, h3 (Nat.lt_of_mul_lt_mul_right ht2)⟩
  · obtain ⟨h1, _, _⟩ := hs w hw
    show dn w = nI (zq_fr pb r W w * m - zq_fr pb r W w * m) ∧ lf w = nI (zq_fr pb r W (w + 1) * m - zq_fr pb r W w * m)
    rw [Nat.sub_self, h1, Nat.sub_mul, hd w (by omega)]
    exact ⟨rfl, rfl⟩
end

theorem i_vc_start {k : Nat} {u : SX} {v : SY} (I : i_Rel k u v) (hk : k + 5 ≤ 2562) : wpX_start (fun r u' => wpY_start (fun r' v' => r' = r ∧ i_Rel (k + 5) u' v') v) u := by
  have I0 := I
  obtain ⟨r, W, m, fR, fL, ops, xs, as, bs, sc, ce, rc, own, it, pl, lf, dn, rfl, rfl, hB, hR⟩ := I
  have hB' := hB
  obtain ⟨hr0, hr, hW0, hW, hm, hok⟩ := hB'
  rcases hR with e | ⟨e, hm0, hO⟩
  · subst e
    refine br_t rfl (pk_le m 0 (fun h0 => ?_) (fun h0 => ?_) rfl rfl (by omega) (by omega))
    · have hz : m = 0 := by omega
      subst hz
      exact br_t rfl (br_t (by decide) ⟨5, zy_st27 (fun dn' _ => ⟨rfl, zq_R0 hB⟩) 4 0 dn (by omega) (fun u hu => by omega)⟩)
    · have hnz : ¬ nI m ≤ 0 := nI_nle h0 (by omega)
      have fin : ∀ pb : Bool, (pb = true ↔ zq_par ops xs as bs m r) → ∀ rc' own' it' pl' lf', (∀ k, k < 16 → rc' k = ce k) → (∀ w, w < W → ∀ x, x < 4 → own' (w * 4 + x) = sc x) → (∀ w, w < W → zq_shr pb r W m w it' pl' lf') →
          wpY_start (fun r' v' => r' = 1 ∧ i_Rel (k + 5) (nI r, nI W, nI m, 1, nI (if pb = true then W - 1 else 0), ops, xs, as, bs, sc, ce, rc', own', it', pl', lf') v') (nI r, nI W, nI m, 0, ops, xs, as, bs, sc, ce, dn) := by
        intro pb hpb rc' own' it' pl' lf' h1 h2 h3
        exact br_t rfl (br_f hnz ⟨5, zy_st27 (fun dn' hd => ⟨rfl, zq_R1 hB h0 (zq_go hB h0 hpb h1 h2 h3 hd)⟩) 4 0 dn (by omega) (fun u hu => by omega)⟩)
      refine zx_par hr hm hok (fun hp => zx_copy hW (fun rc' own' h1 h2 => ?_)) (fun hp => zx_copy hW (fun rc' own' h1 h2 => ?_))
      · exact zx_share (pb := true) hr hW0 hW (fun it' pl' lf' h3 => fin true ⟨fun _ => hp, fun _ => rfl⟩ rc' own' it' pl' lf' h1 h2 h3)
      · exact zx_share (pb := false) hr hW0 hW (fun it' pl' lf' h3 => fin false ⟨(fun z => nomatch z), fun z => absurd z hp⟩ rc' own' it' pl' lf' h1 h2 h3)
  · subst e
    exact br_f (by decide) (br_f (by decide) ⟨rfl, I0⟩)

section
variable {k r W m : Nat} {ops xs as bs sc ce rc own it pl lf dn : Nat → Int32}
/-- both sides let worker w carry out c statements -/
theorem zq_step {pb : Bool} {t : Nat → Nat} {w c : Nat} (hB : zq_B r W m ops xs as bs) (hm0 : 0 < m) (hpb : pb = true ↔ zq_par ops xs as bs m r) (hX : zq_XR ops xs as bs m r W pb sc ce t own rc it pl)
    (hD : ∀ w, w < W → dn w = nI (t w - zq_fr pb r W w * m) ∧ lf w = nI (zq_fr pb r W (w + 1) * m - t w)) (hw : w < W) (hc : t w + c ≤ zq_fr pb r W (w + 1) * m)
    {QX : SX → Prop} (hQ : ∀ u : SX, wY_step_34 (fun r' v' => r' = nI c ∧ i_Rel (k + 5) u v') (nI w) (nI c) (nI r) (nI W) (nI m) 1 ops xs as bs sc ce dn → QX u) :
    wpX_carryOut (fun u => wpX_nothingLeft (fun b => (b = 0 → QX u) ∧ (¬ b = 0 → wpX_endRun QX u)) u) (nI r, nI W, nI m, 1, nI (if pb = true then W - 1 else 0), ops, xs, as, bs, sc, ce, rc, own, it, pl, lf) (nI w) (nI c) := by
  have hB' := hB
  obtain ⟨hr0, hr, hW0, hW, hm, hok⟩ := hB'
  have hc31 : c < 2 ^ 31 := by
    have := zq_hi (pb := pb) (r := r) (m := m) hW0 hr hm hw
    omega
  obtain ⟨hdw, hlw⟩ := hD w hw
  obtain ⟨⟨hlow, hhiw⟩, _⟩ := hX.1 w hw
  refine zx_co hm0 hm hr hW0 hW hok hpb.mp hw hc31 hc hX (fun t' own' rc' it' pl' hX' ht1 ht2 => ?_)
  have hL : ∀ u, u < W → upd lf w (lf w - nI c) u = nI (zq_fr pb r W (u + 1) * m - t' u) := by
    intro u hu
    by_cases e : u = w
    · subst e
      rw [pk_us, hlw, pk_sub (by omega), ht1]
      exact congrArg nI (by omega)
    · rw [pk_un e, ht2 u e]
      exact (hD u hu).2
  have hDn : ∀ u, u < W → upd dn w (dn w + nI c) u = nI (t' u - zq_fr pb r W u * m) := by
    intro u hu
    by_cases e : u = w
    · subst e
      rw [pk_us, hdw, nI_add, ht1]
      exact congrArg nI (by omega)
    · rw [pk_un e, ht2 u e]
      exact (hD u hu).1
  have hb : ∀ u, u < W → zq_fr pb r W u * m ≤ t' u ∧ t' u ≤ zq_fr pb r W (u + 1) * m := fun u hu => (hX'.1 u hu).1
  have hY : ∀ u, u < W → nI ((zq_fr pb r W (u + 1) - zq_fr pb r W u) * m) - (upd dn w (dn w + nI c)) u = nI (zq_fr pb r W (u + 1) * m - t' u) ∧ zq_fr pb r W (u + 1) * m - t' u ≤ 48 := by
    intro u hu
    have := zq_hi (pb := pb) (r := r) (m := m) hW0 hr hm hu
    exact ⟨zq_lft (hb u hu).1 (hb u hu).2 (hDn u hu), by omega⟩
  refine zx_nol (L := fun u => zq_fr pb r W (u + 1) * m - t' u) hW (fun u hu => ⟨hL u hu, ?_⟩) (fun hz => zx_1 ?_) (fun hz => zx_0 ?_)
  · have := (hY u hu).2
    show zq_fr pb r W (u + 1) * m - t' u < 2 ^ 31
    omega
  · have hend : ∀ u, u < W → t' u = zq_fr pb r W (u + 1) * m := by
      intro u hu
      have h1 : zq_fr pb r W (u + 1) * m - t' u = 0 := hz u hu
      have := hb u hu
      omega
    refine zx_end hm0 hm hr0 hW0 hW hok hpb.mp hX'.1 hend (hQ _ ?_)
    exact zy_st34 hr hW0 hW hm0 hm hok hpb hw hY (fun _ => ⟨rfl, zq_R0 hB⟩) (fun z => absurd hz z)
  · refine hQ _ ?_
    exact zy_st34 hr hW0 hW hm0 hm hok hpb hw hY (fun z => absurd z hz) (fun _ => ⟨rfl, zq_R1 hB hm0 ⟨pb, t', hpb, rfl, hX', fun u hu => ⟨hDn u hu, hL u hu⟩⟩⟩)
end

theorem i_vc_step {k : Nat} {u : SX} {v : SY} (I : i_Rel k u v) (hk : k + 5 ≤ 2562) (v1 : Int32) (v2 : Int32) : wpX_step (fun r u' => wpY_step (fun r' v' => r' = r ∧ i_Rel (k + 5) u' v') v v1 v2) u v1 v2 := by
  have I0 := I
  obtain ⟨r, W, m, fR, fL, ops, xs, as, bs, sc, ce, rc, own, it, pl, lf, dn, rfl, rfl, hB, hR⟩ := I
  have hB' := hB
  obtain ⟨hr0, hr, hW0, hW, hm, hok⟩ := hB'
  rcases hR with e | ⟨e, hm0, hO⟩
  · subst e
    refine br_t rfl ?_
    unfold wpY_step
    exact zy_wkn (zx_0 ⟨rfl, I0⟩)
  · subst e
    refine br_f (by decide) ?_
    have ot : (v1 < 0 ∨ nI W ≤ v1) ∨ ∃ j, j < W ∧ v1 = nI j := by
      rcases pk_ix v1 (n := W) (by omega) with h | h | h
      · exact Or.inl (Or.inl h)
      · exact Or.inl (Or.inr h)
      · exact Or.inr h
    rcases ot with h1 | ⟨w, hw, rfl⟩
    · refine br_c (fun _ => zx_0 ?_) (fun n => br_t (h1.resolve_left n) (zx_0 ?_))
      · unfold wpY_step
        exact zy_wk0 h1 (zx_0 ⟨rfl, I0⟩)
      · unfold wpY_step
        exact zy_wk0 h1 (zx_0 ⟨rfl, I0⟩)
    · obtain ⟨i4, e4⟩ := zx_i4 (p := w) (by omega)
      obtain ⟨pb, t, hpb, rfl, hX, hD⟩ := hO
      obtain ⟨hd, hl⟩ := hD w hw
      obtain ⟨⟨hlo, hhi⟩, _⟩ := hX.1 w hw
      have h48 := zq_hi (pb := pb) (r := r) (m := m) hW0 hr hm hw
      -- the reference, from its own branch on
      have yy : ∀ {post : Int32 → SY → Prop}, ((0 ≤ v2 → (v2 ≤ nI (zq_fr pb r W (w + 1) * m - t w) → wY_step_34 post (nI w) v2 (nI r) (nI W) (nI m) 1 ops xs as bs sc ce dn) ∧ (¬ v2 ≤ nI (zq_fr pb r W (w + 1) * m - t w) → wY_step_34 post (nI w) (nI (zq_fr pb r W (w + 1) * m - t w)) (nI r) (nI W) (nI m) 1 ops xs as bs sc ce dn)) ∧ (¬ 0 ≤ v2 → wY_step_34 post (nI w) 0 (nI r) (nI W) (nI m) 1 ops xs as bs sc ce dn)) → wpY_step post (nI r, nI W, nI m, 1, ops, xs, as, bs, sc, ce, dn) (nI w) v2 := by
        intro post hh
        unfold wpY_step
        refine zy_wk1 hW hw (zx_1 (zy_left hr hW0 hW hm hok hpb hw ?_))
        rw [zq_lft hlo hhi hd]
        exact hh
      refine br_f (nI_pos (by omega)) (br_f (nI_ge hw (by omega)) (zx_1 ⟨i4, ?_⟩))
      rw [e4, hl]
      refine br_c (fun h0 => br_c (fun h1 => ?_) (fun h1 => ?_)) (fun h0 => ?_)
      · obtain ⟨c, hc, rfl⟩ := nI_of (Int32.not_lt.mpr h0)
        have hcl : c ≤ zq_fr pb r W (w + 1) * m - t w := (nI_leI hc (by omega)).mp h1
        exact zq_step hB hm0 hpb hX hD hw (by omega) (fun u hu => yy (br_t h0 (br_t h1 hu)))
      · exact zq_step hB hm0 hpb hX hD hw (by omega) (fun u hu => yy (br_t h0 (br_f h1 hu)))
      · exact zq_step (c := 0) hB hm0 hpb hX hD hw (by omega) (fun u hu => yy (br_f h0 hu))

section
variable {k r W m : Nat} {ops xs as bs sc ce rc own it pl lf dn : Nat → Int32}
theorem zx_fin_lp {post : Int32 → SX → Prop} {pb : Bool} (hr0 : 0 < r) (hr : r ≤ 8) (hW0 : 0 < W) (hW : W ≤ 4) (hm0 : 0 < m) (hm : m ≤ 6) (hok : ∀ p, p < m → zq_ok ops xs as bs r p) (hpb : pb = true → zq_par ops xs as bs m r)
    (h : ∀ own' rc' it' pl' lf', post 1 (nI r, nI W, nI m, 0, nI (if pb = true then W - 1 else 0), ops, xs, as, bs, (zq_sq ops xs as bs m sc ce (r * m)).1, (zq_sq ops xs as bs m sc ce (r * m)).2, rc', own', it', pl', lf')) :
    ∀ d w t own' rc' it' pl' lf', w + d = W → zq_XR ops xs as bs m r W pb sc ce t own' rc' it' pl' → (∀ u, u < w → t u = zq_fr pb r W (u + 1) * m) → (∀ u, u < W → w ≤ u → lf' u = nI (zq_fr pb r W (u + 1) * m - t u)) →
      wX_finish_11 post (d + 1) (nI w) (nI r) (nI W) (nI m) 1 (nI (if pb = true then W - 1 else 0)) ops xs as bs sc ce rc' own' it' pl' lf' := by
  intro d
  induction d with
  | zero =>
    intro w t own' rc' it' pl' lf' hw hX h1 h2
    have e : w = W := by omega
    subst e
    exact br_t (nI_le (Nat.le_refl _) (by omega)) (zx_end hm0 hm hr0 hW0 hW hok hpb hX.1 h1 (h own' rc' it' pl' lf'))
  | succ d ih =>
    intro w t own' rc' it' pl' lf' hw hX h1 h2
    have hwW : w < W := by omega
    obtain ⟨i4, e4⟩ := zx_i4 (p := w) (by omega)
    have hhi := (hX.1 w hwW).1
    have h48 := zq_hi (pb := pb) (r := r) (m := m) hW0 hr hm hwW
    refine br_f (nI_ge hwW (by omega)) ⟨i4, ?_⟩
    rw [e4, h2 w hwW (Nat.le_refl w)]
    refine zx_co hm0 hm hr hW0 hW hok hpb hwW (by omega) (by omega) hX (fun t' own2 rc2 it2 pl2 hX2 ht1 ht2 => ?_)
    refine nm_r (nI_1 w) (ih (w + 1) t' own2 rc2 it2 pl2 _ (by omega) hX2 (fun u hu => ?_) (fun u hu hwu => ?_))
    · by_cases e : u = w
      · rw [e, ht1]; omega
      · rw [ht2 u e]; exact h1 u (by omega)
    · rw [pk_un (by omega), ht2 u (by omega)]
      exact h2 u hu (by omega)
end

theorem i_vc_finish {k : Nat} {u : SX} {v : SY} (I : i_Rel k u v) (hk : k + 5 ≤ 2562) : wpX_finish (fun r u' => wpY_finish (fun r' v' => r' = r ∧ i_Rel (k + 5) u' v') v) u := by
  have I0 := I
  obtain ⟨r, W, m, fR, fL, ops, xs, as, bs, sc, ce, rc, own, it, pl, lf, dn, rfl, rfl, hB, hR⟩ := I
  have hB' := hB
  obtain ⟨hr0, hr, hW0, hW, hm, hok⟩ := hB'
  rcases hR with e | ⟨e, hm0, hO⟩
  · subst e
    exact br_t rfl (br_t rfl ⟨rfl, I0⟩)
  · subst e
    obtain ⟨pb, t, hpb, rfl, hX, hD⟩ := hO
    refine br_f (by decide) ⟨W + 1, zx_fin_lp hr0 hr hW0 hW hm0 hm hok hpb.mp (fun own' rc' it' pl' lf' => ?_) W 0 t own rc it pl lf (by omega) hX (fun u hu => by omega) (fun u hu _ => (hD u hu).2)⟩
    exact zy_fin hm0 hm hr hok ⟨rfl, zq_R0 hB⟩
end
