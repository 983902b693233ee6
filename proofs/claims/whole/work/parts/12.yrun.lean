/-! the reference's run -/
section
variable {r W m : Nat} {fR : Int32} {ops xs as bs sc ce dn : Nat → Int32}
theorem zy_wk1 {post : Int32 → Prop} {w : Nat} (hW : W ≤ 4) (hw : w < W) (h : post 1) : wpY_worker post (nI r, nI W, nI m, 1, ops, xs, as, bs, sc, ce, dn) (nI w) :=
  br_f (by decide) (br_f (nI_pos (by omega)) (br_f (nI_ge hw (by omega)) h))
theorem zy_wk0 {post : Int32 → Prop} {v : Int32} (hv : v < 0 ∨ nI W ≤ v) (h : post 0) : wpY_worker post (nI r, nI W, nI m, fR, ops, xs, as, bs, sc, ce, dn) v :=
  br_c (fun _ => h) (fun _ => br_c (fun _ => h) (fun n => br_t (hv.resolve_left n) h))
theorem zy_wkn {post : Int32 → Prop} {v : Int32} (h : post 0) : wpY_worker post (nI r, nI W, nI m, 0, ops, xs, as, bs, sc, ce, dn) v := br_t rfl h
theorem zy_left {post : Int32 → Prop} {w : Nat} {pb : Bool} (hr : r ≤ 8) (hW0 : 0 < W) (hW : W ≤ 4) (hm : m ≤ 6) (hok : ∀ p, p < m → zq_ok ops xs as bs r p) (hpb : pb = true ↔ zq_par ops xs as bs m r) (hw : w < W)
    (h : post (nI ((zq_fr pb r W (w + 1) - zq_fr pb r W w) * m) - dn w)) : wpY_left post (nI r, nI W, nI m, 1, ops, xs, as, bs, sc, ce, dn) (nI w) := by
  obtain ⟨i4, e4⟩ := zx_i4 (p := w) (by omega)
  have hW1 : ¬ nI W = 0 := nI_ne0 hW0 (by omega)
  have hlt : (w + 1) * r ≤ 32 := Nat.le_trans (Nat.mul_le_mul (show w + 1 ≤ 4 by omega) hr) (by omega)
  have hlt0 : w * r ≤ (w + 1) * r := Nat.mul_le_mul_right r (by omega)
  unfold wpY_left
  refine zy_wk1 hW hw (zx_1 (zy_par hr hm hok (fun hp => zx_1 ⟨hW1, hW1, ?_⟩) (fun hp => zx_0 ?_)))
  · have hb := hpb.mpr hp
    unfold wY_left_57
    rw [e4, nI_1, pk_mul, pk_mul, pk_div (by omega) hW0 (by omega), pk_div (by omega) hW0 (by omega), pk_sub (Nat.div_le_div_right hlt0), pk_mul]
    unfold zq_fr at h
    rw [if_pos hb, if_pos hb] at h
    exact ⟨i4, h⟩
  · have hb : ¬ pb = true := fun z => hp (hpb.mp z)
    unfold wY_left_57
    rw [e4]
    unfold zq_fr at h
    rw [if_neg hb, if_neg hb, if_neg (by omega)] at h
    refine pk_eq w 0 (fun h0 => ⟨i4, ?_⟩) (fun h0 => ⟨i4, ?_⟩) rfl rfl (by omega) (by omega)
    · rw [if_pos h0, Nat.sub_zero, ← pk_mul] at h
      exact h
    · rw [if_neg h0, Nat.sub_self, ← pk_mul] at h
      exact h
theorem zy_co {post : SY → Prop} {p i : Nat} (hp : p < 6) (hi : i < r) (hok : zq_ok ops xs as bs r p)
    (h : post (nI r, nI W, nI m, fR, ops, xs, as, bs, (zq_stp ops xs as bs p i sc ce).1, (zq_stp ops xs as bs p i sc ce).2, dn)) : wpY_carryOut post (nI r, nI W, nI m, fR, ops, xs, as, bs, sc, ce, dn) (nI p) (nI i) := by
  obtain ⟨i6, e6⟩ := zx_i6 hp
  have hops := zq_ok_ops ops xs as bs hok
  obtain ⟨_, ⟨X, hX, ex⟩, _, hA⟩ := id hok
  obtain ⟨j4, f4⟩ := zx_i4 hX
  have cl : (xs p).toNatClampNeg = X := by rw [ex]; exact f4
  have ix : vp_in (xs p) 4 := by rw [ex]; exact j4
  unfold wpY_carryOut
  rw [e6]
  refine ⟨i6, nm_e ⟨i6, nm_e ⟨i6, ?_⟩⟩⟩
  rcases hops with e | e | e | e | e | e
  · rw [zq_s0 ops xs as bs e] at h
    exact br_t e ⟨ix, nm_e h⟩
  · rw [zq_s1 ops xs as bs e] at h
    obtain ⟨hc, ec⟩ := zq_ce_lt ops xs as bs hok (Or.inl e) hi
    obtain ⟨k16, g16⟩ := zx_i16 hc
    refine br_f (by rw [e]; decide) ⟨i6, br_t e ⟨i6, ?_⟩⟩
    rw [ec, pk_andN (m := 15) (by omega) 4 (by decide), show 2 ^ 4 = 16 from rfl, Nat.mod_eq_of_lt hc, g16]
    exact ⟨k16, ix, nm_e h⟩
  · rw [zq_s2 ops xs as bs e] at h
    obtain ⟨hc, ec⟩ := zq_ce_lt ops xs as bs hok (Or.inr e) hi
    obtain ⟨k16, g16⟩ := zx_i16 hc
    refine br_f (by rw [e]; decide) ⟨i6, br_f (by rw [e]; decide) ⟨i6, br_t e ⟨i6, ix, ?_⟩⟩⟩
    rw [ec, pk_andN (m := 15) (by omega) 4 (by decide), show 2 ^ 4 = 16 from rfl, Nat.mod_eq_of_lt hc, g16]
    exact ⟨k16, nm_e h⟩
  · rw [zq_s3 ops xs as bs e] at h
    obtain ⟨a, ha, ea⟩ := hA (Or.inl e)
    obtain ⟨k4, g4⟩ := zx_i4 ha
    rw [ea, g4] at h
    refine br_f (by rw [e]; decide) ⟨i6, br_f (by rw [e]; decide) ⟨i6, br_f (by rw [e]; decide) ⟨i6, br_t e ⟨ix, ?_⟩⟩⟩⟩
    rw [ea, pk_andN (m := 3) (by omega) 2 (by decide), show 2 ^ 2 = 4 from rfl, Nat.mod_eq_of_lt ha, g4]
    exact ⟨k4, ix, nm_e h⟩
  · rw [zq_s4 ops xs as bs e] at h
    obtain ⟨a, ha, ea⟩ := hA (Or.inr e)
    obtain ⟨k4, g4⟩ := zx_i4 ha
    rw [ea, g4] at h
    refine br_f (by rw [e]; decide) ⟨i6, br_f (by rw [e]; decide) ⟨i6, br_f (by rw [e]; decide) ⟨i6, br_f (by rw [e]; decide) ⟨i6, br_t e ?_⟩⟩⟩⟩
    rw [ea, pk_andN (m := 3) (by omega) 2 (by decide), show 2 ^ 2 = 4 from rfl, Nat.mod_eq_of_lt ha, g4]
    refine ⟨k4, ix, br_c (fun hle => ⟨ix, ix, nm_e ?_⟩) (fun hle => ⟨k4, ix, nm_e ?_⟩)⟩
    · rw [zq_min_le hle] at h
      exact h
    · have hlt := Int32.not_le.mp hle
      rw [zq_min_c, if_pos hlt] at h
      exact h
  · rw [zq_s5 ops xs as bs e] at h
    exact br_f (by rw [e]; decide) ⟨i6, br_f (by rw [e]; decide) ⟨i6, br_f (by rw [e]; decide) ⟨i6, br_f (by rw [e]; decide) ⟨i6, br_f (by rw [e]; decide) ⟨ix, ix, nm_e h⟩⟩⟩⟩⟩

theorem zy_fin26 {post : Int32 → SY → Prop} {J : Int32 → Int32 → Int32 → Int32 → Int32 → (Nat → Int32) → (Nat → Int32) → (Nat → Int32) → (Nat → Int32) → (Nat → Int32) → (Nat → Int32) → (Nat → Int32) → Prop} {i : Nat} {s0 c0 : Nat → Int32} (hm0 : 0 < m) (hm : m ≤ 6) (hr : r ≤ 8) (hi : i < r) (hok : ∀ p, p < m → zq_ok ops xs as bs r p)
    (hJ : J (nI (i + 1)) (nI r) (nI W) (nI m) fR ops xs as bs ((zq_sq ops xs as bs m s0 c0 ((i + 1) * m)).1) ((zq_sq ops xs as bs m s0 c0 ((i + 1) * m)).2) dn) :
    ∀ d p, p + d = m → wY_finish_26 post J (nI i) (d + 1) (nI p) (nI r) (nI W) (nI m) fR ops xs as bs ((zq_sq ops xs as bs m s0 c0 (i * m + p)).1) ((zq_sq ops xs as bs m s0 c0 (i * m + p)).2) dn := by
  intro d
  induction d with
  | zero =>
    intro p hp
    have e : p = m := by omega
    subst e
    rw [Nat.add_mul, Nat.one_mul] at hJ
    exact br_t (nI_le (Nat.le_refl _) (by omega)) (nm_r (nI_1 i) hJ)
  | succ d ih =>
    intro p hp
    have hpm : p < m := by omega
    refine br_f (nI_ge hpm (by omega)) (zy_co (by omega) hi (hok p hpm) (nm_r (nI_1 p) ?_))
    have h1 : (i * m + p) % m = p := by rw [Nat.mul_comm i m, Nat.mul_add_mod, Nat.mod_eq_of_lt hpm]
    have h2 : (i * m + p) / m = i := by rw [Nat.mul_comm i m, Nat.mul_add_div hm0, Nat.div_eq_of_lt hpm, Nat.add_zero]
    have h3 : zq_sq ops xs as bs m s0 c0 (i * m + (p + 1)) = zq_stp ops xs as bs p i (zq_sq ops xs as bs m s0 c0 (i * m + p)).1 (zq_sq ops xs as bs m s0 c0 (i * m + p)).2 := by
      show zq_stp ops xs as bs ((i * m + p) % m) ((i * m + p) / m) _ _ = _
      rw [h1, h2]
      rfl
    have := ih (p + 1) (by omega)
    rw [h3] at this
    exact this
theorem zy_fin16 {post : Int32 → SY → Prop} {s0 c0 : Nat → Int32} (hm0 : 0 < m) (hm : m ≤ 6) (hr : r ≤ 8) (hok : ∀ p, p < m → zq_ok ops xs as bs r p)
    (h : post 1 (nI r, nI W, nI m, fR, ops, xs, as, bs, (zq_sq ops xs as bs m s0 c0 (r * m)).1, (zq_sq ops xs as bs m s0 c0 (r * m)).2, dn)) :
    ∀ d i, i + d = r → wY_finish_16 post (d + 1) (nI i) (nI r) (nI W) (nI m) fR ops xs as bs ((zq_sq ops xs as bs m s0 c0 (i * m)).1) ((zq_sq ops xs as bs m s0 c0 (i * m)).2) dn := by
  intro d
  induction d with
  | zero =>
    intro i hi
    have e : i = r := by omega
    subst e
    exact br_t (nI_le (Nat.le_refl _) (by omega)) h
  | succ d ih =>
    intro i hi
    have hir : i < r := by omega
    exact br_f (nI_ge hir (by omega)) ⟨m + 1, zy_fin26 hm0 hm hr hir hok (ih (i + 1) (by omega)) m 0 (by omega)⟩
theorem zy_fin {post : Int32 → SY → Prop} (hm0 : 0 < m) (hm : m ≤ 6) (hr : r ≤ 8) (hok : ∀ p, p < m → zq_ok ops xs as bs r p)
    (h : post 1 (nI r, nI W, nI m, 0, ops, xs, as, bs, (zq_sq ops xs as bs m sc ce (r * m)).1, (zq_sq ops xs as bs m sc ce (r * m)).2, dn)) : wpY_finish post (nI r, nI W, nI m, 1, ops, xs, as, bs, sc, ce, dn) := by
  refine br_f (by decide) ⟨r + 1, ?_⟩
  have := zy_fin16 (dn := dn) hm0 hm hr hok h r 0 (by omega)
  rw [Nat.zero_mul] at this
  exact this

/-- the reference's step, behind the new count -/
theorem zy_st57 {post : Int32 → SY → Prop} {pb : Bool} {L : Nat → Nat} {z : Int32} (hr : r ≤ 8) (hW0 : 0 < W) (hW : W ≤ 4) (hm0 : 0 < m) (hm : m ≤ 6) (hok : ∀ p, p < m → zq_ok ops xs as bs r p) (hpb : pb = true ↔ zq_par ops xs as bs m r)
    (hL : ∀ w, w < W → nI ((zq_fr pb r W (w + 1) - zq_fr pb r W w) * m) - dn w = nI (L w) ∧ L w ≤ 48)
    (h1 : (∀ w, w < W → L w = 0) → post z (nI r, nI W, nI m, 0, ops, xs, as, bs, (zq_sq ops xs as bs m sc ce (r * m)).1, (zq_sq ops xs as bs m sc ce (r * m)).2, dn)) (h0 : (¬ ∀ w, w < W → L w = 0) → post z (nI r, nI W, nI m, 1, ops, xs, as, bs, sc, ce, dn)) :
    ∀ d w S, w + d = W → S ≤ w * 48 → (S = 0 ↔ ∀ u, u < w → L u = 0) → wY_step_57 post z (nI r) (nI W) (nI m) 1 ops xs as bs sc ce dn (d + 1) (nI S) (nI w) := by
  intro d
  induction d with
  | zero =>
    intro w S hw hS hz
    have e : w = W := by omega
    subst e
    refine br_t (nI_le (Nat.le_refl _) (by omega)) (pk_eq S 0 (fun h => zy_fin hm0 hm hr hok (h1 (hz.mp h))) (fun h => h0 (fun y => h (hz.mpr y))) rfl rfl (by omega) (by omega))
  | succ d ih =>
    intro w S hw hS hz
    have hwW : w < W := by omega
    obtain ⟨a, b⟩ := hL w hwW
    refine br_f (nI_ge hwW (by omega)) (zy_left hr hW0 hW hm hok hpb hwW ?_)
    rw [a]
    refine nm_r (nI_add S (L w)) (nm_r (nI_1 w) (ih (w + 1) (S + L w) (by omega) (by omega) ?_))
    constructor
    · intro y u hu
      by_cases e : u = w
      · rw [e]; omega
      · exact hz.mp (by omega) u (by omega)
    · intro y
      have y1 := y w (by omega)
      have y2 := hz.mpr (fun u hu => y u (by omega))
      omega
theorem zy_st34 {post : Int32 → SY → Prop} {pb : Bool} {L : Nat → Nat} {z : Int32} {w : Nat} (hr : r ≤ 8) (hW0 : 0 < W) (hW : W ≤ 4) (hm0 : 0 < m) (hm : m ≤ 6) (hok : ∀ p, p < m → zq_ok ops xs as bs r p) (hpb : pb = true ↔ zq_par ops xs as bs m r) (hw : w < W)
    (hL : ∀ u, u < W → nI ((zq_fr pb r W (u + 1) - zq_fr pb r W u) * m) - (upd dn w (dn w + z)) u = nI (L u) ∧ L u ≤ 48)
    (h1 : (∀ u, u < W → L u = 0) → post z (nI r, nI W, nI m, 0, ops, xs, as, bs, (zq_sq ops xs as bs m sc ce (r * m)).1, (zq_sq ops xs as bs m sc ce (r * m)).2, upd dn w (dn w + z))) (h0 : (¬ ∀ u, u < W → L u = 0) → post z (nI r, nI W, nI m, 1, ops, xs, as, bs, sc, ce, upd dn w (dn w + z))) :
    wY_step_34 post (nI w) z (nI r) (nI W) (nI m) 1 ops xs as bs sc ce dn := by
  obtain ⟨i4, e4⟩ := zx_i4 (p := w) (by omega)
  unfold wY_step_34
  rw [e4]
  exact ⟨i4, i4, nm_e ⟨W + 1, zy_st57 hr hW0 hW hm0 hm hok hpb hL h1 h0 W 0 0 (by omega) (by omega) ⟨fun _ u hu => by omega, fun _ => rfl⟩⟩⟩
end
