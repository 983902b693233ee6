/-! a statement's checks, of both -/
theorem zq_i15 {v : Int32} (h : ¬ (16 : Int32) ≤ v) : v ≤ 15 := by
  rw [Int32.le_iff_toInt_le, show (16 : Int32).toInt = 16 from by decide] at h
  rw [Int32.le_iff_toInt_le, show (15 : Int32).toInt = 15 from by decide]
  omega
theorem zq_i3 {v : Int32} (h : ¬ (4 : Int32) ≤ v) : v ≤ 3 := by
  rw [Int32.le_iff_toInt_le, show (4 : Int32).toInt = 4 from by decide] at h
  rw [Int32.le_iff_toInt_le, show (3 : Int32).toInt = 3 from by decide]
  omega
theorem zq_n15 {v : Int32} (h : (16 : Int32) ≤ v) : ¬ v ≤ 15 := by
  rw [Int32.le_iff_toInt_le, show (16 : Int32).toInt = 16 from by decide] at h
  rw [Int32.le_iff_toInt_le, show (15 : Int32).toInt = 15 from by decide]
  omega
theorem zq_n3 {v : Int32} (h : (4 : Int32) ≤ v) : ¬ v ≤ 3 := by
  rw [Int32.le_iff_toInt_le, show (4 : Int32).toInt = 4 from by decide] at h
  rw [Int32.le_iff_toInt_le, show (3 : Int32).toInt = 3 from by decide]
  omega
def zq_cel (r : Nat) (a b : Int32) : Prop := -2 ≤ a ∧ a ≤ 2 ∧ 0 ≤ b ∧ b ≤ 15 ∧ ∀ i, i < r → 0 ≤ a * nI i + b ∧ a * nI i + b ≤ 15
def zq_sok (r : Nat) (o x a b : Int32) : Prop := 0 ≤ o ∧ o ≤ 5 ∧ 0 ≤ x ∧ x ≤ 3 ∧ ((o = 1 ∨ o = 2) → zq_cel r a b) ∧ ((o = 3 ∨ o = 4) → 0 ≤ a ∧ a ≤ 3)
theorem zx_isc {post : Int32 → Prop} {v : Int32} (h1 : 0 ≤ v → v ≤ 15 → post 1) (h0 : ¬ (0 ≤ v ∧ v ≤ 15) → post 0) : wpX_isCell post v :=
  br_c (fun h => h0 (fun z => Int32.not_lt.mpr z.1 h)) (fun h => br_c (fun g => h0 (fun z => zq_n15 g z.2)) (fun g => h1 (Int32.not_lt.mp h) (zq_i15 g)))
theorem zx_iss {post : Int32 → Prop} {v : Int32} (h1 : 0 ≤ v → v ≤ 3 → post 1) (h0 : ¬ (0 ≤ v ∧ v ≤ 3) → post 0) : wpX_isScalar post v :=
  br_c (fun h => h0 (fun z => Int32.not_lt.mpr z.1 h)) (fun h => br_c (fun g => h0 (fun z => zq_n3 g z.2)) (fun g => h1 (Int32.not_lt.mp h) (zq_i3 g)))
section
variable {r W m : Nat} {fR fL : Int32} {ops xs as bs sc ce rc own it pl lf : Nat → Int32}
theorem zx_sic {post : Int32 → Prop} {a b : Int32} (hr0 : 0 < r) (hr : r ≤ 8) (h1 : zq_cel r a b → post 1) (h0 : ¬ zq_cel r a b → post 0) : wpX_staysInCells post (nI r, nI W, nI m, fR, fL, ops, xs, as, bs, sc, ce, rc, own, it, pl, lf) a b := by
  unfold wpX_staysInCells
  refine br_c (fun ha => h0 (fun z => Int32.not_lt.mpr z.1 ha)) (fun ha => br_c (fun ha2 => h0 (fun z => Int32.not_lt.mpr z.2.1 ha2)) (fun ha2 => zx_isc (fun hb0 hb1 => zx_1 ?_) (fun hb => zx_0 (h0 (fun z => hb ⟨z.2.2.1, z.2.2.2.1⟩)))))
  refine nm_r (e' := a * nI (r - 1) + b) (by rw [show (1 : Int32) = nI 1 from rfl, pk_sub hr0]) (zx_isc (fun c0 c1 => ⟨narrow_b1, h1 ⟨Int32.not_lt.mp ha, Int32.not_lt.mp ha2, hb0, hb1, fun i hi => zq_last (Int32.not_lt.mp ha) (Int32.not_lt.mp ha2) hb0 hb1 hr0 hr c0 c1 hi⟩⟩) (fun c => ⟨narrow_b0, h0 (fun z => c (z.2.2.2.2 (r - 1) (by omega)))⟩))
theorem zx_ist {post : Int32 → Prop} {o x a b : Int32} (hr0 : 0 < r) (hr : r ≤ 8) (h1 : zq_sok r o x a b → post 1) (h0 : ¬ zq_sok r o x a b → post 0) : wpX_isStatement post (nI r, nI W, nI m, fR, fL, ops, xs, as, bs, sc, ce, rc, own, it, pl, lf) o x a b := by
  unfold wpX_isStatement
  refine br_c (fun ha => h0 (fun z => Int32.not_lt.mpr z.1 ha)) (fun ha => br_c (fun ha2 => h0 (fun z => Int32.not_lt.mpr z.2.1 ha2)) (fun ha2 => zx_iss (fun hb0 hb1 => zx_1 (zx_uc (fun hu => zx_1 (zx_sic hr0 hr (fun hc => ⟨narrow_b1, h1 ⟨Int32.not_lt.mp ha, Int32.not_lt.mp ha2, hb0, hb1, fun _ => hc, fun y => ?_⟩⟩) (fun hc => ⟨narrow_b0, h0 (fun z => hc (z.2.2.2.2.1 hu))⟩))) (fun hu => zx_0 (zx_rsa (fun hv => zx_1 (zx_iss (fun d0 d1 => zx_1 (h1 ⟨Int32.not_lt.mp ha, Int32.not_lt.mp ha2, hb0, hb1, fun y => absurd y hu, fun _ => ⟨d0, d1⟩⟩)) (fun d => zx_0 (h0 (fun z => d (z.2.2.2.2.2 hv)))))) (fun hv => zx_0 (h1 ⟨Int32.not_lt.mp ha, Int32.not_lt.mp ha2, hb0, hb1, fun y => absurd y hu, fun y => absurd y hv⟩)))))) (fun hb => zx_0 (h0 (fun z => hb ⟨z.2.2.1, z.2.2.2.1⟩)))))
  exfalso
  rcases hu with e | e <;> rw [e] at y <;> exact absurd y (by decide)
end
section
variable {r W m : Nat} {fR : Int32} {ops xs as bs sc ce dn : Nat → Int32}
theorem zy_ins_lp {post : Int32 → Prop} {a b : Int32} (hr : r ≤ 8) (h1 : (∀ i, i < r → 0 ≤ a * nI i + b ∧ a * nI i + b ≤ 15) → post 1) (h0 : (¬ ∀ i, i < r → 0 ≤ a * nI i + b ∧ a * nI i + b ≤ 15) → post 0) :
    ∀ d i v, i + d = r → ((v = 1 ∧ ∀ i', i' < i → 0 ≤ a * nI i' + b ∧ a * nI i' + b ≤ 15) ∨ (v = 0 ∧ ¬ ∀ i, i < r → 0 ≤ a * nI i + b ∧ a * nI i + b ≤ 15)) → wY_inside_28 post a b (nI r) (nI W) (nI m) fR ops xs as bs sc ce dn (d + 1) v (nI i) := by
  intro d
  induction d with
  | zero =>
    intro i v hi hn
    have e : i = r := by omega
    subst e
    refine br_t (nI_le (Nat.le_refl _) (by omega)) ?_
    rcases hn with ⟨e, h⟩ | ⟨e, h⟩
    · subst e; exact ⟨narrow_b1, h1 h⟩
    · subst e; exact ⟨narrow_b0, h0 h⟩
  | succ d ih =>
    intro i v hi hn
    have hir : i < r := by omega
    refine br_f (nI_ge hir (by omega)) ?_
    rcases hn with ⟨e, h⟩ | ⟨e, h⟩
    · subst e
      refine br_f (by decide) (br_c (fun c => nm_r (nI_1 i) (ih (i + 1) 0 (by omega) (Or.inr ⟨rfl, fun z => Int32.not_lt.mpr (z i hir).1 c⟩))) (fun c => br_c (fun e => nm_r (nI_1 i) (ih (i + 1) 0 (by omega) (Or.inr ⟨rfl, fun z => Int32.not_lt.mpr (z i hir).2 e⟩))) (fun e => nm_r (nI_1 i) (ih (i + 1) 1 (by omega) (Or.inl ⟨rfl, fun i' h' => ?_⟩)))))
      by_cases q : i' = i
      · rw [q]; exact ⟨Int32.not_lt.mp c, Int32.not_lt.mp e⟩
      · exact h i' (by omega)
    · subst e
      exact br_t rfl (nm_r (nI_1 i) (ih (i + 1) 0 (by omega) (Or.inr ⟨rfl, h⟩)))
theorem zy_ins {post : Int32 → Prop} {a b : Int32} (hr : r ≤ 8) (h1 : zq_cel r a b → post 1) (h0 : ¬ zq_cel r a b → post 0) : wpY_inside post (nI r, nI W, nI m, fR, ops, xs, as, bs, sc, ce, dn) a b := by
  unfold wpY_inside
  exact br_c (fun ha => h0 (fun z => Int32.not_lt.mpr z.1 ha)) (fun ha => br_c (fun ha2 => h0 (fun z => Int32.not_lt.mpr z.2.1 ha2)) (fun ha2 => br_c (fun hb => h0 (fun z => Int32.not_lt.mpr z.2.2.1 hb)) (fun hb => br_c (fun hb2 => ⟨r + 1, zy_ins_lp hr (fun c => h1 ⟨Int32.not_lt.mp ha, Int32.not_lt.mp ha2, Int32.not_lt.mp hb, hb2, c⟩) (fun c => h0 (fun z => c z.2.2.2.2)) r 0 1 (by omega) (Or.inl ⟨rfl, fun i' h' => by omega⟩)⟩) (fun hb2 => h0 (fun z => hb2 z.2.2.2.1)))))
theorem zy_add {post : Int32 → SY → Prop} {o x a b : Int32} (hr : r ≤ 8) (h1 : zq_sok r o x a b → wY_add_69 post o x a b (nI r) (nI W) (nI m) 0 ops xs as bs sc ce dn) (h0 : ¬ zq_sok r o x a b → post (-1) (nI r, nI W, nI m, 0, ops, xs, as, bs, sc, ce, dn)) : wpY_add post (nI r, nI W, nI m, 0, ops, xs, as, bs, sc, ce, dn) o x a b := by
  have k58 : (o = 3 ∨ o = 4) → ¬ o < 0 → ¬ 5 < o → ¬ x < 0 → ¬ 3 < x → wY_add_58 post o x a b (nI r) (nI W) (nI m) 0 ops xs as bs sc ce dn := fun ho p1 p2 p3 p4 =>
    br_c (fun c => h0 (fun z => Int32.not_lt.mpr (z.2.2.2.2.2 ho).1 c)) (fun c => br_c (fun e => h1 ⟨Int32.not_lt.mp p1, Int32.not_lt.mp p2, Int32.not_lt.mp p3, Int32.not_lt.mp p4, fun y => (by
      exfalso
      rcases ho with e | e <;> rw [e] at y <;> exact absurd y (by decide)), fun _ => ⟨Int32.not_lt.mp c, e⟩⟩) (fun e => h0 (fun z => e (z.2.2.2.2.2 ho).2)))
  have k48 : ((o = 1 ∨ o = 2) → zq_cel r a b) → ¬ o < 0 → ¬ 5 < o → ¬ x < 0 → ¬ 3 < x → wY_add_48 post o x a b (nI r) (nI W) (nI m) 0 ops xs as bs sc ce dn := fun hc p1 p2 p3 p4 =>
    br_c (fun e => k58 (Or.inl e) p1 p2 p3 p4) (fun e => br_c (fun f => k58 (Or.inr f) p1 p2 p3 p4) (fun f => h1 ⟨Int32.not_lt.mp p1, Int32.not_lt.mp p2, Int32.not_lt.mp p3, Int32.not_lt.mp p4, hc, fun y => absurd y (fun z => z.elim e f)⟩))
  have k38 : (o = 1 ∨ o = 2) → ¬ o < 0 → ¬ 5 < o → ¬ x < 0 → ¬ 3 < x → wY_add_38 post o x a b (nI r) (nI W) (nI m) 0 ops xs as bs sc ce dn := fun ho p1 p2 p3 p4 =>
    zy_ins hr (fun hc => zx_1 (k48 (fun _ => hc) p1 p2 p3 p4)) (fun hc => zx_0 (h0 (fun z => hc (z.2.2.2.2.1 ho))))
  unfold wpY_add
  exact br_t rfl (br_c (fun p1 => h0 (fun z => Int32.not_lt.mpr z.1 p1)) (fun p1 => br_c (fun p2 => h0 (fun z => Int32.not_lt.mpr z.2.1 p2)) (fun p2 => br_c (fun p3 => h0 (fun z => Int32.not_lt.mpr z.2.2.1 p3)) (fun p3 => br_c (fun p4 => h0 (fun z => Int32.not_lt.mpr z.2.2.2.1 p4)) (fun p4 => br_c (fun e => k38 (Or.inl e) p1 p2 p3 p4) (fun e => br_c (fun f => k38 (Or.inr f) p1 p2 p3 p4) (fun f => k48 (fun y => absurd y (fun z => z.elim e f)) p1 p2 p3 p4)))))))
end
section
variable {ops xs as bs : Nat → Int32} {r m : Nat} {o x a b : Int32}
theorem zq_okS (h : zq_sok r o x a b) : zq_ok (upd ops m o) (upd xs m x) (upd as m a) (upd bs m b) r m := by
  obtain ⟨h1, h2, h3, h4, h5, h6⟩ := h
  unfold zq_ok zq_tou
  rw [pk_us, pk_us, pk_us, pk_us]
  obtain ⟨j, hj, ej⟩ := nI_of2 (M := 5) (n := 5) (by decide) (Int32.not_lt.mpr h1) h2
  obtain ⟨k, hk, ek⟩ := nI_of2 (M := 3) (n := 3) (by decide) (Int32.not_lt.mpr h3) h4
  refine ⟨⟨j, by omega, ej⟩, ⟨k, by omega, ek⟩, fun ho i hi => ?_, fun ho => ?_⟩
  · obtain ⟨p, q⟩ := (h5 ho).2.2.2.2 i hi
    exact zq_cell15 p q
  · obtain ⟨p, q⟩ := h6 ho
    obtain ⟨l, hl, el⟩ := nI_of2 (M := 3) (n := 3) (by decide) (Int32.not_lt.mpr p) q
    exact ⟨l, by omega, el⟩
theorem zq_okK {p : Nat} (hp : p ≠ m) (h : zq_ok ops xs as bs r p) : zq_ok (upd ops m o) (upd xs m x) (upd as m a) (upd bs m b) r p := by
  unfold zq_ok zq_tou at h ⊢
  rw [pk_un hp, pk_un hp, pk_un hp, pk_un hp]
  exact h
end
