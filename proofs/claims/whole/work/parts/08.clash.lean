/-! clash and parallel, of both -/
def zq_hit (as bs : Nat → Int32) (r p q i j : Nat) : Prop := i < r ∧ j < r ∧ i ≠ j ∧ as p * nI i + bs p = as q * nI j + bs q
theorem zq_hit_m {as bs : Nat → Int32} {r p q i j : Nat} (h : zq_hit as bs r p q i j) : zq_meet as bs r p q := ⟨i, j, h.1, h.2.1, h.2.2.1, h.2.2.2⟩
theorem zq_hit_n {as bs : Nat → Int32} {r p q : Nat} (h : ∀ i, i < r → ∀ j, ¬ zq_hit as bs r p q i j) : ¬ zq_meet as bs r p q := by
  intro z
  obtain ⟨i, j, a, b, c, d⟩ := z
  exact h i a j ⟨a, b, c, d⟩

section
variable {r W m : Nat} {fR fL : Int32} {ops xs as bs sc ce rc own it pl lf : Nat → Int32}
theorem zx_ceo {post : Int32 → Prop} {p : Nat} {i : Int32} (hp : p < 6) (h : post (as p * i + bs p)) : wpX_cellOf post (nI r, nI W, nI m, fR, fL, ops, xs, as, bs, sc, ce, rc, own, it, pl, lf) (nI p) i := by
  obtain ⟨i6, e⟩ := zx_i6 hp
  unfold wpX_cellOf
  dsimp only
  rw [e]
  exact ⟨i6, i6, h⟩
theorem zx_meet_in {post : Int32 → Prop} {J : Int32 → Prop} {p q i : Nat} (hr : r ≤ 8) (hp : p < 6) (hq : q < 6) (hi : i < r) (h1 : zq_meet as bs r p q → post 1)
    (hJ : (∀ j, ¬ zq_hit as bs r p q i j) → J (nI (i + 1))) :
    ∀ d j, j + d = r → (∀ j', j' < j → ¬ zq_hit as bs r p q i j') → wX_meetAcrossIterations_13 post J (nI p) (nI q) (nI i) (nI r) (nI W) (nI m) fR fL ops xs as bs sc ce rc own it pl lf (d + 1) (nI j) := by
  intro d
  induction d with
  | zero =>
    intro j hj hn
    have e : j = r := by omega
    subst e
    exact br_t (nI_le (Nat.le_refl _) (by omega)) (nm_r (nI_1 i) (hJ (fun j' z => hn j' z.2.1 z)))
  | succ d ih =>
    intro j hj hn
    have hjr : j < r := by omega
    have nx : ¬ zq_hit as bs r p q i j → wX_meetAcrossIterations_13 post J (nI p) (nI q) (nI i) (nI r) (nI W) (nI m) fR fL ops xs as bs sc ce rc own it pl lf (d + 1) (nI (j + 1)) := by
      intro hh
      refine ih (j + 1) (by omega) (fun j' h' => ?_)
      by_cases e : j' = j
      · rw [e]; exact hh
      · exact hn j' (by omega)
    refine br_f (nI_ge hjr (by omega)) (br_c (fun he => nm_r (nI_1 j) (nx ?_)) (fun he => zx_ceo hp (zx_ceo hq (br_c (fun hc => h1 ?_) (fun hc => nm_r (nI_1 j) (nx (fun z => hc z.2.2.2)))))))
    · intro z
      exact z.2.2.1 ((nI_eq (by omega) (by omega)).mp he)
    · exact ⟨i, j, hi, hjr, fun z => he (by rw [z]), hc⟩
theorem zx_meet_out {post : Int32 → Prop} {p q : Nat} (hr : r ≤ 8) (hp : p < 6) (hq : q < 6) (h1 : zq_meet as bs r p q → post 1) (h0 : ¬ zq_meet as bs r p q → post 0) :
    ∀ d i, i + d = r → (∀ i', i' < i → ∀ j, ¬ zq_hit as bs r p q i' j) → wX_meetAcrossIterations_2 post (nI p) (nI q) (nI r) (nI W) (nI m) fR fL ops xs as bs sc ce rc own it pl lf (d + 1) (nI i) := by
  intro d
  induction d with
  | zero =>
    intro i hi hn
    have e : i = r := by omega
    subst e
    exact br_t (nI_le (Nat.le_refl _) (by omega)) (h0 (zq_hit_n hn))
  | succ d ih =>
    intro i hi hn
    have hir : i < r := by omega
    refine br_f (nI_ge hir (by omega)) ⟨r + 1, zx_meet_in hr hp hq hir h1 (fun hh => ih (i + 1) (by omega) (fun i' h' => ?_)) r 0 (by omega) (fun j' h' => by omega)⟩
    by_cases e : i' = i
    · rw [e]; exact hh
    · exact hn i' (by omega)
theorem zx_meet {post : Int32 → Prop} {p q : Nat} (hr : r ≤ 8) (hp : p < 6) (hq : q < 6) (h1 : zq_meet as bs r p q → post 1) (h0 : ¬ zq_meet as bs r p q → post 0) : wpX_meetAcrossIterations post (nI r, nI W, nI m, fR, fL, ops, xs, as, bs, sc, ce, rc, own, it, pl, lf) (nI p) (nI q) :=
  ⟨r + 1, zx_meet_out hr hp hq h1 h0 r 0 (by omega) (fun i' h' => by omega)⟩
theorem zx_plc {post : Int32 → Prop} {p : Nat} (hm : m ≤ 6) (hp : p < m) (h : post 1) : wpX_isPlace post (nI r, nI W, nI m, fR, fL, ops, xs, as, bs, sc, ce, rc, own, it, pl, lf) (nI p) :=
  br_f (nI_pos (by omega)) (br_f (nI_ge hp (by omega)) h)
theorem zx_plc0 {post : Int32 → Prop} {v : Int32} (hv : v < 0 ∨ nI m ≤ v) (h : post 0) : wpX_isPlace post (nI r, nI W, nI m, fR, fL, ops, xs, as, bs, sc, ce, rc, own, it, pl, lf) v :=
  br_c (fun _ => h) (fun n => br_t (hv.resolve_left n) h)
theorem zx_cla {post : Int32 → Prop} {p q : Nat} (hr : r ≤ 8) (hm : m ≤ 6) (hp : p < m) (hq : q < m) (h1 : zq_cla ops as bs r p q → post 1) (h0 : ¬ zq_cla ops as bs r p q → post 0) : wpX_clash post (nI r, nI W, nI m, fR, fL, ops, xs, as, bs, sc, ce, rc, own, it, pl, lf) (nI p) (nI q) := by
  obtain ⟨ip, ep⟩ := zx_i6 (p := p) (by omega)
  obtain ⟨iq, eq⟩ := zx_i6 (p := q) (by omega)
  have k : zq_tou ops p → zq_tou ops q → (ops p = 2 ∨ ops q = 2) → wX_clash_66 post (nI p) (nI q) (nI r) (nI W) (nI m) fR fL ops xs as bs sc ce rc own it pl lf := fun a b c =>
    zx_meet hr (by omega) (by omega) (fun z => ⟨narrow_b1, h1 ⟨a, b, c, z⟩⟩) (fun z => ⟨narrow_b0, h0 (fun y => z y.2.2.2)⟩)
  unfold wpX_clash
  refine zx_plc hm hp (zx_1 (zx_plc hm hq (zx_1 ⟨ip, ?_⟩)))
  rw [ep, eq]
  exact zx_uc (fun a => zx_1 ⟨iq, zx_uc (fun b => zx_1 ⟨ip, br_c (fun c => k a b (Or.inl c)) (fun c => ⟨iq, br_c (fun d => k a b (Or.inr d)) (fun d => h0 (fun y => y.2.2.1.elim c d))⟩)⟩) (fun b => zx_0 (h0 (fun y => b y.2.1)))⟩) (fun a => zx_0 (h0 (fun y => a y.1)))

theorem zx_anc {post : Int32 → Prop} (hm : m ≤ 6) (hok : ∀ p, p < m → zq_ok ops xs as bs r p) (h0 : (∀ x, x < 4 → ¬ zq_rol ops xs as m x = 5) → post 0) (h1 : (¬ ∀ x, x < 4 → ¬ zq_rol ops xs as m x = 5) → post 1) :
    ∀ d x, x + d = 4 → (∀ x', x' < x → ¬ zq_rol ops xs as m x' = 5) → wX_anyCarried_2 post (nI r) (nI W) (nI m) fR fL ops xs as bs sc ce rc own it pl lf (d + 1) (nI x) := by
  intro d
  induction d with
  | zero =>
    intro x hx hn
    have e : x = 4 := by omega
    subst e
    exact br_t (nI_le (a := 4) (b := 4) (Nat.le_refl _) (by omega)) (h0 hn)
  | succ d ih =>
    intro x hx hn
    refine br_f (nI_ge (b := 4) (by omega) (by omega)) (zx_rol hm hok (br_c (fun h => h1 (fun z => z x (by omega) h)) (fun h => nm_r (nI_1 x) (ih (x + 1) (by omega) (fun x' h' => ?_)))))
    by_cases e : x' = x
    · rw [e]; exact h
    · exact hn x' (by omega)
theorem zx_ancl_in {post : Int32 → Prop} {J : Int32 → Prop} {p : Nat} (hr : r ≤ 8) (hm : m ≤ 6) (hp : p < m) (h1 : (∃ p q, p < m ∧ q < m ∧ zq_cla ops as bs r p q) → post 1)
    (hJ : (∀ q, p ≤ q → q < m → ¬ zq_cla ops as bs r p q) → J (nI (p + 1))) :
    ∀ d q, q + d = m → p ≤ q → (∀ q', p ≤ q' → q' < q → ¬ zq_cla ops as bs r p q') → wX_anyClash_12 post J (nI p) (nI r) (nI W) (nI m) fR fL ops xs as bs sc ce rc own it pl lf (d + 1) (nI q) := by
  intro d
  induction d with
  | zero =>
    intro q hq hpq hn
    have e : q = m := by omega
    subst e
    exact br_t (nI_le (Nat.le_refl _) (by omega)) (nm_r (nI_1 p) (hJ hn))
  | succ d ih =>
    intro q hq hpq hn
    have hqm : q < m := by omega
    refine br_f (nI_ge hqm (by omega)) (zx_cla hr hm hp hqm (fun h => zx_1 (h1 ⟨p, q, hp, hqm, h⟩)) (fun h => zx_0 (nm_r (nI_1 q) (ih (q + 1) (by omega) (by omega) (fun q' a b => ?_)))))
    by_cases e : q' = q
    · rw [e]; exact h
    · exact hn q' a (by omega)
theorem zx_ancl_out {post : Int32 → Prop} (hr : r ≤ 8) (hm : m ≤ 6) (h1 : (∃ p q, p < m ∧ q < m ∧ zq_cla ops as bs r p q) → post 1) (h0 : (∀ p q, p < m → q < m → ¬ zq_cla ops as bs r p q) → post 0) :
    ∀ d p, p + d = m → (∀ p', p' < p → ∀ q, p' ≤ q → q < m → ¬ zq_cla ops as bs r p' q) → wX_anyClash_2 post (nI r) (nI W) (nI m) fR fL ops xs as bs sc ce rc own it pl lf (d + 1) (nI p) := by
  intro d
  induction d with
  | zero =>
    intro p hp hn
    have e : p = m := by omega
    subst e
    refine br_t (nI_le (Nat.le_refl _) (by omega)) (h0 (fun a b ha hb hc => ?_))
    rcases Nat.le_total a b with l | l
    · exact hn a ha b l hb hc
    · exact hn b hb a l ha (zq_cla_s ops as bs hc)
  | succ d ih =>
    intro p hp hn
    have hpm : p < m := by omega
    refine br_f (nI_ge hpm (by omega)) ⟨m - p + 1, zx_ancl_in hr hm hpm h1 (fun hh => ih (p + 1) (by omega) (fun p' h' => ?_)) (m - p) p (by omega) (Nat.le_refl p) (fun q' a b => by omega)⟩
    by_cases e : p' = p
    · rw [e]; exact hh
    · exact hn p' (by omega)
theorem zx_anyC {post : Int32 → Prop} (hm : m ≤ 6) (hok : ∀ p, p < m → zq_ok ops xs as bs r p) (h0 : (∀ x, x < 4 → ¬ zq_rol ops xs as m x = 5) → post 0) (h1 : (¬ ∀ x, x < 4 → ¬ zq_rol ops xs as m x = 5) → post 1) : wpX_anyCarried post (nI r, nI W, nI m, fR, fL, ops, xs, as, bs, sc, ce, rc, own, it, pl, lf) :=
  ⟨5, zx_anc hm hok h0 h1 4 0 (by omega) (fun x' h' => by omega)⟩
theorem zx_anyCl {post : Int32 → Prop} (hr : r ≤ 8) (hm : m ≤ 6) (h1 : (∃ p q, p < m ∧ q < m ∧ zq_cla ops as bs r p q) → post 1) (h0 : (∀ p q, p < m → q < m → ¬ zq_cla ops as bs r p q) → post 0) : wpX_anyClash post (nI r, nI W, nI m, fR, fL, ops, xs, as, bs, sc, ce, rc, own, it, pl, lf) :=
  ⟨m + 1, zx_ancl_out hr hm h1 h0 m 0 (by omega) (fun p' h' => by omega)⟩
theorem zx_par {post : Int32 → Prop} (hr : r ≤ 8) (hm : m ≤ 6) (hok : ∀ p, p < m → zq_ok ops xs as bs r p) (h1 : zq_par ops xs as bs m r → post 1) (h0 : ¬ zq_par ops xs as bs m r → post 0) : wpX_parallel post (nI r, nI W, nI m, fR, fL, ops, xs, as, bs, sc, ce, rc, own, it, pl, lf) := by
  unfold wpX_parallel
  refine zx_anyC hm hok (fun a => zx_0 (zx_anyCl hr hm (fun b => zx_1 (h0 (fun z => ?_))) (fun b => zx_0 (h1 ⟨a, b⟩)))) (fun a => zx_1 (h0 (fun z => a z.1)))
  obtain ⟨p, q, hp, hq, hc⟩ := b
  exact z.2 p q hp hq hc
end

section
variable {r W m : Nat} {fR : Int32} {ops xs as bs sc ce dn : Nat → Int32}
def zq_fd (as bs : Nat → Int32) (r p q i j : Nat) (v : Int32) : Prop := (v = 1 ∧ zq_meet as bs r p q) ∨ (v = 0 ∧ (∀ i', i' < i → ∀ j', ¬ zq_hit as bs r p q i' j') ∧ ∀ j', j' < j → ¬ zq_hit as bs r p q i j')
theorem zy_meet_in {post : Int32 → Prop} {J : Int32 → Int32 → Prop} {p q i : Nat} (hr : r ≤ 8) (hp : p < 6) (hq : q < 6) (hi : i < r)
    (hJ : ∀ v, zq_fd as bs r p q (i + 1) 0 v → J v (nI (i + 1))) :
    ∀ d j v, j + d = r → zq_fd as bs r p q i j v → wY_clash_79 post J (nI p) (nI q) (nI i) (nI r) (nI W) (nI m) fR ops xs as bs sc ce dn (d + 1) v (nI j) := by
  obtain ⟨ip, ep⟩ := zx_i6 hp
  obtain ⟨iq, eq⟩ := zx_i6 hq
  intro d
  induction d with
  | zero =>
    intro j v hj hn
    have e : j = r := by omega
    subst e
    refine br_t (nI_le (Nat.le_refl _) (by omega)) (nm_r (nI_1 i) (hJ v ?_))
    rcases hn with h | ⟨h, a, b⟩
    · exact Or.inl h
    · refine Or.inr ⟨h, fun i' h' => ?_, fun j' h' => by omega⟩
      by_cases e : i' = i
      · rw [e]; exact fun j' z => b j' z.2.1 z
      · exact a i' (by omega)
  | succ d ih =>
    intro j v hj hn
    have hjr : j < r := by omega
    refine br_f (nI_ge hjr (by omega)) ?_
    rcases hn with ⟨h, a⟩ | ⟨h, a, b⟩
    · subst h
      exact br_f (by decide) (nm_r (nI_1 j) (ih (j + 1) 1 (by omega) (Or.inl ⟨rfl, a⟩)))
    · subst h
      have nx : ¬ zq_hit as bs r p q i j → wY_clash_79 post J (nI p) (nI q) (nI i) (nI r) (nI W) (nI m) fR ops xs as bs sc ce dn (d + 1) 0 (nI (j + 1)) := by
        intro hh
        refine ih (j + 1) 0 (by omega) (Or.inr ⟨rfl, a, fun j' h' => ?_⟩)
        by_cases e : j' = j
        · rw [e]; exact hh
        · exact b j' (by omega)
      refine br_t rfl (br_c (fun he => nm_r (nI_1 j) (nx (fun z => z.2.2.1 ((nI_eq (by omega) (by omega)).mp he)))) (fun he => ⟨ip, ip, iq, iq, ?_⟩))
      rw [ep, eq]
      exact br_c (fun hc => nm_r (nI_1 j) (ih (j + 1) 1 (by omega) (Or.inl ⟨rfl, i, j, hi, hjr, fun z => he (by rw [z]), hc⟩))) (fun hc => nm_r (nI_1 j) (nx (fun z => hc z.2.2.2)))
theorem zy_meet_out {post : Int32 → Prop} {p q : Nat} (hr : r ≤ 8) (hp : p < 6) (hq : q < 6) (h1 : zq_meet as bs r p q → post 1) (h0 : ¬ zq_meet as bs r p q → post 0) :
    ∀ d i v, i + d = r → zq_fd as bs r p q i 0 v → wY_clash_67 post (nI p) (nI q) (nI r) (nI W) (nI m) fR ops xs as bs sc ce dn (d + 1) v (nI i) := by
  intro d
  induction d with
  | zero =>
    intro i v hi hn
    have e : i = r := by omega
    subst e
    refine br_t (nI_le (Nat.le_refl _) (by omega)) ?_
    rcases hn with ⟨h, a⟩ | ⟨h, a, b⟩
    · subst h; exact ⟨narrow_b1, h1 a⟩
    · subst h; exact ⟨narrow_b0, h0 (zq_hit_n a)⟩
  | succ d ih =>
    intro i v hi hn
    have hir : i < r := by omega
    exact br_f (nI_ge hir (by omega)) ⟨r + 1, zy_meet_in hr hp hq hir (fun v' h' => ih (i + 1) v' (by omega) h') r 0 v (by omega) hn⟩
theorem zy_tou {post : Int32 → Prop} {p : Nat} (hp : p < 6) (h1 : zq_tou ops p → post 1) (h0 : ¬ zq_tou ops p → post 0) : wpY_touches post (nI r, nI W, nI m, fR, ops, xs, as, bs, sc, ce, dn) (nI p) := by
  obtain ⟨ip, ep⟩ := zx_i6 hp
  unfold wpY_touches
  dsimp only
  rw [ep]
  exact ⟨ip, br_c (fun h => h1 (Or.inl h)) (fun h => ⟨ip, br_c (fun h2 => h1 (Or.inr h2)) (fun h2 => h0 (fun z => z.elim h h2))⟩)⟩
theorem zy_cla {post : Int32 → Prop} {p q : Nat} (hr : r ≤ 8) (hm : m ≤ 6) (hp : p < m) (hq : q < m) (h1 : zq_cla ops as bs r p q → post 1) (h0 : ¬ zq_cla ops as bs r p q → post 0) : wpY_clash post (nI r, nI W, nI m, fR, ops, xs, as, bs, sc, ce, dn) (nI p) (nI q) := by
  obtain ⟨ip, ep⟩ := zx_i6 (p := p) (by omega)
  obtain ⟨iq, eq⟩ := zx_i6 (p := q) (by omega)
  have k : zq_tou ops p → zq_tou ops q → (ops p = 2 ∨ ops q = 2) → ∃ n67 : Nat, wY_clash_67 post (nI p) (nI q) (nI r) (nI W) (nI m) fR ops xs as bs sc ce dn n67 0 0 := fun a b c =>
    ⟨r + 1, zy_meet_out hr (by omega) (by omega) (fun z => h1 ⟨a, b, c, z⟩) (fun z => h0 (fun y => z y.2.2.2)) r 0 0 (by omega) (Or.inr ⟨rfl, fun i' h' => by omega, fun j' h' => by omega⟩)⟩
  unfold wpY_clash
  refine br_f (nI_pos (by omega)) (br_f (nI_ge hp (by omega)) (br_f (nI_pos (by omega)) (br_f (nI_ge hq (by omega)) (zy_tou (by omega) (fun a => zx_1 (zy_tou (by omega) (fun b => zx_1 ⟨ip, ?_⟩) (fun b => zx_0 (h0 (fun y => b y.2.1))))) (fun a => zx_0 (h0 (fun y => a y.1)))))))
  rw [ep, eq]
  exact br_c (fun c => k a b (Or.inl c)) (fun c => ⟨iq, br_c (fun d => k a b (Or.inr d)) (fun d => h0 (fun y => y.2.2.1.elim c d))⟩)

/-- the reference's running answer: 1 while nothing was found -/
def zq_okv (P : Prop) (Q : Prop) (v : Int32) : Prop := (v = 1 ∧ Q) ∨ (v = 0 ∧ ¬ P)
theorem zy_par46 {post : Int32 → Prop} {J : Int32 → Int32 → Prop} {p : Nat} (hr : r ≤ 8) (hm : m ≤ 6) (hp : p < m) {Q : Prop}
    (hJ : ∀ v, zq_okv (zq_par ops xs as bs m r) (Q ∧ ∀ q, q < m → ¬ zq_cla ops as bs r p q) v → J v (nI (p + 1))) :
    ∀ d q v, q + d = m → zq_okv (zq_par ops xs as bs m r) (Q ∧ ∀ q', q' < q → ¬ zq_cla ops as bs r p q') v → wY_parallel_46 post J (nI p) (nI r) (nI W) (nI m) fR ops xs as bs sc ce dn (d + 1) v (nI q) := by
  intro d
  induction d with
  | zero =>
    intro q v hq hn
    have e : q = m := by omega
    subst e
    exact br_t (nI_le (Nat.le_refl _) (by omega)) (nm_r (nI_1 p) (hJ v hn))
  | succ d ih =>
    intro q v hq hn
    have hqm : q < m := by omega
    refine br_f (nI_ge hqm (by omega)) ?_
    rcases hn with ⟨h, a⟩ | ⟨h, a⟩
    · subst h
      refine br_f (by decide) (zy_cla hr hm hp hqm (fun h => zx_1 (nm_r (nI_1 q) (ih (q + 1) 0 (by omega) (Or.inr ⟨rfl, fun z => z.2 p q hp hqm h⟩)))) (fun h => zx_0 (nm_r (nI_1 q) (ih (q + 1) 1 (by omega) (Or.inl ⟨rfl, a.1, fun q' h' => ?_⟩)))))
      by_cases e : q' = q
      · rw [e]; exact h
      · exact a.2 q' (by omega)
    · subst h
      exact br_t rfl (nm_r (nI_1 q) (ih (q + 1) 0 (by omega) (Or.inr ⟨rfl, a⟩)))
theorem zy_par36 {post : Int32 → Prop} (hr : r ≤ 8) (hm : m ≤ 6) {Q : Prop} (h1 : (Q ∧ ∀ p, p < m → ∀ q, q < m → ¬ zq_cla ops as bs r p q) → post 1) (h0 : ¬ zq_par ops xs as bs m r → post 0) :
    ∀ d p v, p + d = m → zq_okv (zq_par ops xs as bs m r) (Q ∧ ∀ p', p' < p → ∀ q, q < m → ¬ zq_cla ops as bs r p' q) v → wY_parallel_36 post (nI r) (nI W) (nI m) fR ops xs as bs sc ce dn (d + 1) v (nI p) := by
  intro d
  induction d with
  | zero =>
    intro p v hp hn
    have e : p = m := by omega
    subst e
    refine br_t (nI_le (Nat.le_refl _) (by omega)) ?_
    rcases hn with ⟨h, a⟩ | ⟨h, a⟩
    · subst h; exact ⟨narrow_b1, h1 a⟩
    · subst h; exact ⟨narrow_b0, h0 a⟩
  | succ d ih =>
    intro p v hp hn
    have hpm : p < m := by omega
    refine br_f (nI_ge hpm (by omega)) ⟨m + 1, zy_par46 (xs := xs) (Q := Q ∧ ∀ p', p' < p → ∀ q, q < m → ¬ zq_cla ops as bs r p' q) hr hm hpm (fun v' h' => ih (p + 1) v' (by omega) ?_) m 0 v (by omega) ?_⟩
    · rcases h' with ⟨h, a⟩ | ⟨h, a⟩
      · refine Or.inl ⟨h, a.1.1, fun p' hp' => ?_⟩
        by_cases e : p' = p
        · rw [e]; exact a.2
        · exact a.1.2 p' (by omega)
      · exact Or.inr ⟨h, a⟩
    · rcases hn with ⟨h, a⟩ | ⟨h, a⟩
      · exact Or.inl ⟨h, a, fun q' h' => by omega⟩
      · exact Or.inr ⟨h, a⟩
theorem zy_par4 {post : Int32 → Prop} (hr : r ≤ 8) (hm : m ≤ 6) (hok : ∀ p, p < m → zq_ok ops xs as bs r p) (h1 : zq_par ops xs as bs m r → post 1) (h0 : ¬ zq_par ops xs as bs m r → post 0) :
    ∀ d x v, x + d = 4 → zq_okv (zq_par ops xs as bs m r) (∀ x', x' < x → ¬ zq_rol ops xs as m x' = 5) v → wY_parallel_4 post (nI r) (nI W) (nI m) fR ops xs as bs sc ce dn (d + 1) v (nI x) := by
  intro d
  induction d with
  | zero =>
    intro x v hx hn
    have e : x = 4 := by omega
    subst e
    refine br_t (nI_le (a := 4) (b := 4) (Nat.le_refl _) (by omega)) ⟨m + 1, zy_par36 (xs := xs) (Q := ∀ x', x' < 4 → ¬ zq_rol ops xs as m x' = 5) hr hm (fun z => h1 ⟨z.1, fun p q a b => z.2 p a q b⟩) h0 m 0 v (by omega) ?_⟩
    rcases hn with ⟨h, a⟩ | ⟨h, a⟩
    · exact Or.inl ⟨h, a, fun p' h' => by omega⟩
    · exact Or.inr ⟨h, a⟩
  | succ d ih =>
    intro x v hx hn
    refine br_f (nI_ge (b := 4) (by omega) (by omega)) ?_
    rcases hn with ⟨h, a⟩ | ⟨h, a⟩
    · subst h
      refine br_f (by decide) (zy_rol (by omega) hm hok (br_c (fun h => nm_r (nI_1 x) (ih (x + 1) 0 (by omega) (Or.inr ⟨rfl, fun z => z.1 x (by omega) h⟩))) (fun h => nm_r (nI_1 x) (ih (x + 1) 1 (by omega) (Or.inl ⟨rfl, fun x' h' => ?_⟩)))))
      by_cases e : x' = x
      · rw [e]; exact h
      · exact a x' (by omega)
    · subst h
      exact br_t rfl (nm_r (nI_1 x) (ih (x + 1) 0 (by omega) (Or.inr ⟨rfl, a⟩)))
theorem zy_par {post : Int32 → Prop} (hr : r ≤ 8) (hm : m ≤ 6) (hok : ∀ p, p < m → zq_ok ops xs as bs r p) (h1 : zq_par ops xs as bs m r → post 1) (h0 : ¬ zq_par ops xs as bs m r → post 0) : wpY_parallel post (nI r, nI W, nI m, fR, ops, xs, as, bs, sc, ce, dn) :=
  ⟨5, zy_par4 hr hm hok h1 h0 4 0 1 (by omega) (Or.inl ⟨rfl, fun x' h' => by omega⟩)⟩
end
