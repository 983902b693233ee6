/-! the relation -/
def zq_B (r W m : Nat) (ops xs as bs : Nat → Int32) : Prop := 0 < r ∧ r ≤ 8 ∧ 0 < W ∧ W ≤ 4 ∧ m ≤ 6 ∧ ∀ p, p < m → zq_ok ops xs as bs r p
def zq_On (r W m : Nat) (fL : Int32) (ops xs as bs sc ce rc own it pl lf dn : Nat → Int32) : Prop := ∃ (pb : Bool) (t : Nat → Nat),
  (pb = true ↔ zq_par ops xs as bs m r) ∧ fL = nI (if pb = true then W - 1 else 0) ∧ zq_XR ops xs as bs m r W pb sc ce t own rc it pl ∧
  ∀ w, w < W → dn w = nI (t w - zq_fr pb r W w * m) ∧ lf w = nI (zq_fr pb r W (w + 1) * m - t w)
/-- body, scalars and cells are the same functions; while a run is on, each worker stands somewhere in its share of the plain loop -/
def i_Rel (k : Nat) (u : SX) (v : SY) : Prop := ∃ (r W m : Nat) (fR fL : Int32) (ops xs as bs sc ce rc own it pl lf dn : Nat → Int32),
  u = (nI r, nI W, nI m, fR, fL, ops, xs, as, bs, sc, ce, rc, own, it, pl, lf) ∧ v = (nI r, nI W, nI m, fR, ops, xs, as, bs, sc, ce, dn) ∧ zq_B r W m ops xs as bs ∧ (fR = 0 ∨ (fR = 1 ∧ 0 < m ∧ zq_On r W m fL ops xs as bs sc ce rc own it pl lf dn))
section
variable {k r W m : Nat} {fL : Int32} {ops xs as bs sc ce rc own it pl lf dn : Nat → Int32}
theorem zq_R0 (h : zq_B r W m ops xs as bs) : i_Rel k (nI r, nI W, nI m, 0, fL, ops, xs, as, bs, sc, ce, rc, own, it, pl, lf) (nI r, nI W, nI m, 0, ops, xs, as, bs, sc, ce, dn) := ⟨r, W, m, 0, fL, ops, xs, as, bs, sc, ce, rc, own, it, pl, lf, dn, rfl, rfl, h, Or.inl rfl⟩
theorem zq_R1 (h : zq_B r W m ops xs as bs) (hm : 0 < m) (ho : zq_On r W m fL ops xs as bs sc ce rc own it pl lf dn) : i_Rel k (nI r, nI W, nI m, 1, fL, ops, xs, as, bs, sc, ce, rc, own, it, pl, lf) (nI r, nI W, nI m, 1, ops, xs, as, bs, sc, ce, dn) := ⟨r, W, m, 1, fL, ops, xs, as, bs, sc, ce, rc, own, it, pl, lf, dn, rfl, rfl, h, Or.inr ⟨rfl, hm, ho⟩⟩
theorem zq_hi (hW0 : 0 < W) {pb : Bool} {w : Nat} (hr : r ≤ 8) (hm : m ≤ 6) (hw : w < W) : zq_fr pb r W (w + 1) * m ≤ 48 := by
  have h1 : zq_fr pb r W (w + 1) ≤ r := zq_fr_le hW0 (by omega)
  exact Nat.le_trans (Nat.mul_le_mul (show zq_fr pb r W (w + 1) ≤ 8 by omega) hm) (by omega)
/-- what a worker has left, as the reference reckons it -/
theorem zq_lft {pb : Bool} {w t : Nat} {d : Int32} (h1 : zq_fr pb r W w * m ≤ t) (h2 : t ≤ zq_fr pb r W (w + 1) * m) (hd : d = nI (t - zq_fr pb r W w * m)) :
    nI ((zq_fr pb r W (w + 1) - zq_fr pb r W w) * m) - d = nI (zq_fr pb r W (w + 1) * m - t) := by
  rw [hd, Nat.sub_mul, pk_sub (by omega)]
  exact congrArg nI (by omega)
end

theorem i_up {k : Nat} {u : SX} {v : SY} (h : i_Rel k u v) : i_Rel (k + 5) u v := h

theorem zq_in1 {v : Int32} {M : Int32} {n : Nat} (hM : M.toInt = n) (h0 : 1 ≤ v) (h1 : v ≤ M) : ∃ j, 0 < j ∧ j ≤ n ∧ v = nI j := by
  have h : ¬ v < 0 := by
    rw [Int32.le_iff_toInt_le, show (1 : Int32).toInt = 1 from by decide] at h0
    rw [Int32.lt_iff_toInt_lt, show (0 : Int32).toInt = 0 from by decide]
    omega
  obtain ⟨j, hj, e⟩ := nI_of2 hM h h1
  refine ⟨j, ?_, hj, e⟩
  rcases Nat.eq_zero_or_pos j with z | z
  · subst z
    rw [e] at h0
    exact absurd h0 (by decide)
  · exact z
theorem zq_init {a b : Int32} (ha : ∃ r, 0 < r ∧ r ≤ 8 ∧ a = nI r) (hb : ∃ W, 0 < W ∧ W ≤ 4 ∧ b = nI W) :
    i_Rel 2 (a, b, 0, 0, 0, (fun _ => 0), (fun _ => 0), (fun _ => 0), (fun _ => 0), (fun _ => 0), (fun _ => 0), (fun _ => 0), (fun _ => 0), (fun _ => 0), (fun _ => 0), (fun _ => 0)) (a, b, 0, 0, (fun _ => 0), (fun _ => 0), (fun _ => 0), (fun _ => 0), (fun _ => 0), (fun _ => 0), (fun _ => 0)) := by
  obtain ⟨r, h1, h2, rfl⟩ := ha
  obtain ⟨W, h3, h4, rfl⟩ := hb
  exact zq_R0 (m := 0) ⟨h1, h2, h3, h4, by omega, fun p hp => by omega⟩
theorem i_vc0 (k0 : Int32) (k1 : Int32) : wpX_init (fun u => wpY_init (fun v => i_Rel 2 u v) k0 k1) k0 k1 := by
  unfold wpX_init wpX_clamp wpY_init wY_init_80
  refine br_c (fun h1 => br_c (fun h2 => ?_) (fun h2 => ?_)) (fun h1 => ?_)
  · have ha := zq_in1 (M := 8) (n := 8) (by decide) h1 h2
    refine br_c (fun g1 => br_c (fun g2 => ?_) (fun g2 => ?_)) (fun g1 => ?_)
    · exact br_t h1 (br_t h2 (br_t g1 (br_t g2 (zq_init ha (zq_in1 (M := 4) (n := 4) (by decide) g1 g2)))))
    · exact br_t h1 (br_t h2 (br_t g1 (br_f g2 (zq_init ha ⟨4, by omega, by omega, rfl⟩))))
    · exact br_t h1 (br_t h2 (br_f g1 (zq_init ha ⟨1, by omega, by omega, rfl⟩)))
  · have ha : ∃ r, 0 < r ∧ r ≤ 8 ∧ (8 : Int32) = nI r := ⟨8, by omega, by omega, rfl⟩
    refine br_c (fun g1 => br_c (fun g2 => ?_) (fun g2 => ?_)) (fun g1 => ?_)
    · exact br_t h1 (br_f h2 (br_t g1 (br_t g2 (zq_init ha (zq_in1 (M := 4) (n := 4) (by decide) g1 g2)))))
    · exact br_t h1 (br_f h2 (br_t g1 (br_f g2 (zq_init ha ⟨4, by omega, by omega, rfl⟩))))
    · exact br_t h1 (br_f h2 (br_f g1 (zq_init ha ⟨1, by omega, by omega, rfl⟩)))
  · have ha : ∃ r, 0 < r ∧ r ≤ 8 ∧ (1 : Int32) = nI r := ⟨1, by omega, by omega, rfl⟩
    refine br_c (fun g1 => br_c (fun g2 => ?_) (fun g2 => ?_)) (fun g1 => ?_)
    · exact br_f h1 (br_t g1 (br_t g2 (zq_init ha (zq_in1 (M := 4) (n := 4) (by decide) g1 g2))))
    · exact br_f h1 (br_t g1 (br_f g2 (zq_init ha ⟨4, by omega, by omega, rfl⟩)))
    · exact br_f h1 (br_f g1 (zq_init ha ⟨1, by omega, by omega, rfl⟩))

theorem i_vc_add {k : Nat} {u : SX} {v : SY} (I : i_Rel k u v) (hk : k + 5 ≤ 2562) (v1 : Int32) (v2 : Int32) (v3 : Int32) (v4 : Int32) : wpX_add (fun r u' => wpY_add (fun r' v' => r' = r ∧ i_Rel (k + 5) u' v') v v1 v2 v3 v4) u v1 v2 v3 v4 := by
  have I0 := I
  obtain ⟨r, W, m, fR, fL, ops, xs, as, bs, sc, ce, rc, own, it, pl, lf, dn, rfl, rfl, hB, hR⟩ := I
  have hB' := hB
  obtain ⟨hr0, hr, hW0, hW, hm, hok⟩ := hB'
  rcases hR with e | ⟨e, hm0, hO⟩
  · subst e
    unfold wpX_add
    refine br_t rfl (zx_ist hr0 hr (fun hs => zx_1 ?_) (fun hs => zx_0 (zy_add hr (fun z => absurd z hs) (fun _ => ⟨rfl, I0⟩))))
    refine pk_eq m 6 (fun h6 => zy_add hr (fun _ => ?_) (fun z => absurd hs z)) (fun h6 => ?_) rfl rfl (by omega) (by omega)
    · exact br_f (nI_nlt (b := 6) (by omega) (by omega)) ⟨rfl, I0⟩
    · obtain ⟨i6, e6⟩ := zx_i6 (p := m) (by omega)
      refine ⟨i6, ?_⟩
      rw [e6]
      refine nm_e ⟨i6, nm_e ⟨i6, nm_e ⟨i6, nm_e (nm_r (nI_1 m) (zy_add hr (fun _ => ?_) (fun z => absurd hs z)))⟩⟩⟩
      refine br_t (nI_lt (b := 6) (by omega) (by omega)) ⟨i6, ?_⟩
      rw [e6]
      refine nm_e ⟨i6, nm_e ⟨i6, nm_e ⟨i6, nm_e (nm_r (nI_1 m) ⟨nI_pred m, zq_R0 ⟨hr0, hr, hW0, hW, by omega, fun p hp => ?_⟩⟩)⟩⟩⟩
      by_cases e : p = m
      · subst e; exact zq_okS hs
      · exact zq_okK e (hok p (by omega))
  · subst e
    exact br_f (by decide) (br_f (by decide) ⟨rfl, I0⟩)
theorem i_vc_drop {k : Nat} {u : SX} {v : SY} (I : i_Rel k u v) (hk : k + 5 ≤ 2562) : wpX_drop (fun r u' => wpY_drop (fun r' v' => r' = r ∧ i_Rel (k + 5) u' v') v) u := by
  have I0 := I
  obtain ⟨r, W, m, fR, fL, ops, xs, as, bs, sc, ce, rc, own, it, pl, lf, dn, rfl, rfl, hB, hR⟩ := I
  have hB' := hB
  obtain ⟨hr0, hr, hW0, hW, hm, hok⟩ := hB'
  rcases hR with e | ⟨e, hm0, hO⟩
  · subst e
    rcases Nat.eq_zero_or_pos m with z | z
    · subst z
      exact br_t rfl (br_t rfl (br_t rfl (br_t rfl ⟨rfl, I0⟩)))
    · have hz : ¬ nI m = 0 := nI_ne0 z (by omega)
      have e1 : nI m - 1 = nI (m - 1) := by rw [show (1 : Int32) = nI 1 from rfl, pk_sub z]
      exact br_t rfl (br_f hz (nm_r e1 (br_t rfl (br_f hz (nm_r e1 ⟨rfl, zq_R0 ⟨hr0, hr, hW0, hW, by omega, fun p hp => hok p (by omega)⟩⟩)))))
  · subst e
    exact br_f (by decide) (br_f (by decide) ⟨rfl, I0⟩)
theorem i_vc_length {k : Nat} {u : SX} {v : SY} (I : i_Rel k u v) (hk : k + 5 ≤ 2562) : wpX_length (fun r => wpY_length (fun r' => r' = r ∧ i_Rel (k + 5) u v) v) u := by
  have I0 := I
  obtain ⟨r, W, m, fR, fL, ops, xs, as, bs, sc, ce, rc, own, it, pl, lf, dn, rfl, rfl, hB, hR⟩ := I
  exact ⟨rfl, I0⟩
theorem i_vc_setScalar {k : Nat} {u : SX} {v : SY} (I : i_Rel k u v) (hk : k + 5 ≤ 2562) (v1 : Int32) (v2 : Int32) : wpX_setScalar (fun r u' => wpY_setScalar (fun r' v' => r' = r ∧ i_Rel (k + 5) u' v') v v1 v2) u v1 v2 := by
  have I0 := I
  obtain ⟨r, W, m, fR, fL, ops, xs, as, bs, sc, ce, rc, own, it, pl, lf, dn, rfl, rfl, hB, hR⟩ := I
  rcases hR with e | ⟨e, hm0, hO⟩
  · subst e
    refine br_t rfl (zx_iss (fun h0 h1 => zx_1 ?_) (fun h => zx_0 (br_t rfl (br_c (fun _ => ⟨rfl, I0⟩) (fun n => br_f (fun z => h ⟨Int32.not_lt.mp n, z⟩) ⟨rfl, I0⟩)))))
    obtain ⟨j, hj, e⟩ := nI_of2 (M := 3) (n := 3) (by decide) (Int32.not_lt.mpr h0) h1
    subst e
    obtain ⟨i4, e4⟩ := zx_i4 (p := j) (by omega)
    exact ⟨i4, nm_e (br_t rfl (br_f (Int32.not_lt.mpr h0) (br_t h1 ⟨i4, nm_e ⟨rfl, zq_R0 hB⟩⟩)))⟩
  · subst e
    exact br_f (by decide) (br_f (by decide) ⟨rfl, I0⟩)
theorem i_vc_setCell {k : Nat} {u : SX} {v : SY} (I : i_Rel k u v) (hk : k + 5 ≤ 2562) (v1 : Int32) (v2 : Int32) : wpX_setCell (fun r u' => wpY_setCell (fun r' v' => r' = r ∧ i_Rel (k + 5) u' v') v v1 v2) u v1 v2 := by
  have I0 := I
  obtain ⟨r, W, m, fR, fL, ops, xs, as, bs, sc, ce, rc, own, it, pl, lf, dn, rfl, rfl, hB, hR⟩ := I
  rcases hR with e | ⟨e, hm0, hO⟩
  · subst e
    refine br_t rfl (zx_isc (fun h0 h1 => zx_1 ?_) (fun h => zx_0 (br_t rfl (br_c (fun _ => ⟨rfl, I0⟩) (fun n => br_f (fun z => h ⟨Int32.not_lt.mp n, z⟩) ⟨rfl, I0⟩)))))
    obtain ⟨j, hj, e⟩ := nI_of2 (M := 15) (n := 15) (by decide) (Int32.not_lt.mpr h0) h1
    subst e
    obtain ⟨i4, e4⟩ := zx_i16 (p := j) (by omega)
    exact ⟨i4, nm_e (br_t rfl (br_f (Int32.not_lt.mpr h0) (br_t h1 ⟨i4, nm_e ⟨rfl, zq_R0 hB⟩⟩)))⟩
  · subst e
    exact br_f (by decide) (br_f (by decide) ⟨rfl, I0⟩)
theorem i_vc_scalar {k : Nat} {u : SX} {v : SY} (I : i_Rel k u v) (hk : k + 5 ≤ 2562) (v1 : Int32) : wpX_scalar (fun r => wpY_scalar (fun r' => r' = r ∧ i_Rel (k + 5) u v) v v1) u v1 := by
  have I0 := I
  obtain ⟨r, W, m, fR, fL, ops, xs, as, bs, sc, ce, rc, own, it, pl, lf, dn, rfl, rfl, hB, hR⟩ := I
  unfold wpX_scalar
  refine zx_iss (fun h0 h1 => zx_1 ?_) (fun h => zx_0 (br_c (fun _ => ⟨rfl, I0⟩) (fun n => br_f (fun z => h ⟨Int32.not_lt.mp n, z⟩) ⟨rfl, I0⟩)))
  obtain ⟨j, hj, e⟩ := nI_of2 (M := 3) (n := 3) (by decide) (Int32.not_lt.mpr h0) h1
  subst e
  obtain ⟨i4, e4⟩ := zx_i4 (p := j) (by omega)
  exact ⟨i4, br_f (Int32.not_lt.mpr h0) (br_t h1 ⟨i4, rfl, I0⟩)⟩
theorem i_vc_cell {k : Nat} {u : SX} {v : SY} (I : i_Rel k u v) (hk : k + 5 ≤ 2562) (v1 : Int32) : wpX_cell (fun r => wpY_cell (fun r' => r' = r ∧ i_Rel (k + 5) u v) v v1) u v1 := by
  have I0 := I
  obtain ⟨r, W, m, fR, fL, ops, xs, as, bs, sc, ce, rc, own, it, pl, lf, dn, rfl, rfl, hB, hR⟩ := I
  unfold wpX_cell
  refine zx_isc (fun h0 h1 => zx_1 ?_) (fun h => zx_0 (br_c (fun _ => ⟨rfl, I0⟩) (fun n => br_f (fun z => h ⟨Int32.not_lt.mp n, z⟩) ⟨rfl, I0⟩)))
  obtain ⟨j, hj, e⟩ := nI_of2 (M := 15) (n := 15) (by decide) (Int32.not_lt.mpr h0) h1
  subst e
  obtain ⟨i4, e4⟩ := zx_i16 (p := j) (by omega)
  exact ⟨i4, br_f (Int32.not_lt.mpr h0) (br_t h1 ⟨i4, rfl, I0⟩)⟩
theorem i_vc_role {k : Nat} {u : SX} {v : SY} (I : i_Rel k u v) (hk : k + 5 ≤ 2562) (v1 : Int32) : wpX_role (fun r => wpY_role (fun r' => r' = r ∧ i_Rel (k + 5) u v) v v1) u v1 := by
  have I0 := I
  obtain ⟨r, W, m, fR, fL, ops, xs, as, bs, sc, ce, rc, own, it, pl, lf, dn, rfl, rfl, hB, hR⟩ := I
  obtain ⟨hr0, hr, hW0, hW, hm, hok⟩ := hB
  unfold wpX_role
  refine zx_iss (fun h0 h1 => zx_1 ?_) (fun h => zx_0 (br_c (fun _ => ⟨rfl, I0⟩) (fun n => br_f (fun z => h ⟨Int32.not_lt.mp n, z⟩) ⟨rfl, I0⟩)))
  obtain ⟨j, hj, e⟩ := nI_of2 (M := 3) (n := 3) (by decide) (Int32.not_lt.mpr h0) h1
  subst e
  exact zx_rol hm hok (zy_rol (by omega) hm hok ⟨rfl, I0⟩)
theorem i_vc_clash {k : Nat} {u : SX} {v : SY} (I : i_Rel k u v) (hk : k + 5 ≤ 2562) (v1 : Int32) (v2 : Int32) : wpX_clash (fun r => wpY_clash (fun r' => r' = r ∧ i_Rel (k + 5) u v) v v1 v2) u v1 v2 := by
  have I0 := I
  obtain ⟨r, W, m, fR, fL, ops, xs, as, bs, sc, ce, rc, own, it, pl, lf, dn, rfl, rfl, hB, hR⟩ := I
  obtain ⟨hr0, hr, hW0, hW, hm, hok⟩ := hB
  have ot : ∀ v : Int32, (v < 0 ∨ nI m ≤ v) ∨ ∃ j, j < m ∧ v = nI j := by
    intro v
    rcases pk_ix v (n := m) (by omega) with h | h | h
    · exact Or.inl (Or.inl h)
    · exact Or.inl (Or.inr h)
    · exact Or.inr h
  rcases ot v1 with h1 | ⟨p, hp, rfl⟩
  · unfold wpX_clash
    exact zx_plc0 h1 (zx_0 (br_c (fun _ => ⟨rfl, I0⟩) (fun n => br_t (h1.resolve_left n) ⟨rfl, I0⟩)))
  · rcases ot v2 with h2 | ⟨q, hq, rfl⟩
    · unfold wpX_clash
      exact zx_plc hm hp (zx_1 (zx_plc0 h2 (zx_0 (br_f (nI_pos (by omega)) (br_f (nI_ge hp (by omega)) (br_c (fun _ => ⟨rfl, I0⟩) (fun n => br_t (h2.resolve_left n) ⟨rfl, I0⟩)))))))
    · exact zx_cla hr hm hp hq (fun h => zy_cla hr hm hp hq (fun _ => ⟨rfl, I0⟩) (fun z => absurd h z)) (fun h => zy_cla hr hm hp hq (fun z => absurd z h) (fun _ => ⟨rfl, I0⟩))
theorem i_vc_parallel {k : Nat} {u : SX} {v : SY} (I : i_Rel k u v) (hk : k + 5 ≤ 2562) : wpX_parallel (fun r => wpY_parallel (fun r' => r' = r ∧ i_Rel (k + 5) u v) v) u := by
  have I0 := I
  obtain ⟨r, W, m, fR, fL, ops, xs, as, bs, sc, ce, rc, own, it, pl, lf, dn, rfl, rfl, hB, hR⟩ := I
  obtain ⟨hr0, hr, hW0, hW, hm, hok⟩ := hB
  exact zx_par hr hm hok (fun h => zy_par hr hm hok (fun _ => ⟨rfl, I0⟩) (fun z => absurd h z)) (fun h => zy_par hr hm hok (fun z => absurd z h) (fun _ => ⟨rfl, I0⟩))
theorem i_vc_abandon {k : Nat} {u : SX} {v : SY} (I : i_Rel k u v) (hk : k + 5 ≤ 2562) : wpX_abandon (fun r u' => wpY_abandon (fun r' v' => r' = r ∧ i_Rel (k + 5) u' v') v) u := by
  have I0 := I
  obtain ⟨r, W, m, fR, fL, ops, xs, as, bs, sc, ce, rc, own, it, pl, lf, dn, rfl, rfl, hB, hR⟩ := I
  rcases hR with e | ⟨e, hm0, hO⟩
  · subst e
    exact br_t rfl (br_t rfl ⟨rfl, I0⟩)
  · subst e
    exact br_f (by decide) (br_f (by decide) ⟨rfl, zq_R0 hB⟩)
theorem i_vc_left {k : Nat} {u : SX} {v : SY} (I : i_Rel k u v) (hk : k + 5 ≤ 2562) (v1 : Int32) : wpX_left (fun r => wpY_left (fun r' => r' = r ∧ i_Rel (k + 5) u v) v v1) u v1 := by
  have I0 := I
  obtain ⟨r, W, m, fR, fL, ops, xs, as, bs, sc, ce, rc, own, it, pl, lf, dn, rfl, rfl, hB, hR⟩ := I
  obtain ⟨hr0, hr, hW0, hW, hm, hok⟩ := hB
  rcases hR with e | ⟨e, hm0, hO⟩
  · subst e
    refine br_t rfl ?_
    unfold wpY_left
    exact zy_wkn (zx_0 ⟨rfl, I0⟩)
  · subst e
    refine br_f (by decide) ?_
    have ot : (v1 < 0 ∨ nI W ≤ v1) ∨ ∃ j, j < W ∧ v1 = nI j := by
      rcases pk_ix v1 (n := W) (by omega) with h | h | h
      · exact Or.inl (Or.inl h)
      · exact Or.inl (Or.inr h)
      · exact Or.inr h
    rcases ot with h1 | ⟨w, hw, rfl⟩
    · refine br_c (fun _ => zx_0 ?_) (fun n => br_t (h1.resolve_left n) (zx_0 ?_))
      · unfold wpY_left
        exact zy_wk0 h1 (zx_0 ⟨rfl, I0⟩)
      · unfold wpY_left
        exact zy_wk0 h1 (zx_0 ⟨rfl, I0⟩)
    · obtain ⟨i4, e4⟩ := zx_i4 (p := w) (by omega)
      obtain ⟨pb, t, hpb, hfl, hX, hD⟩ := hO
      obtain ⟨hd, hl⟩ := hD w hw
      obtain ⟨⟨hlo, hhi⟩, _⟩ := hX.1 w hw
      refine br_f (nI_pos (by omega)) (br_f (nI_ge hw (by omega)) (zx_1 ⟨i4, zy_left hr hW0 hW hm hok hpb hw ⟨?_, I0⟩⟩))
      rw [e4, zq_lft hlo hhi hd, hl]
