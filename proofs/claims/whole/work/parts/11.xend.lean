/-! the component ends a run -/
section
variable {r W m : Nat} {fR fL : Int32} {ops xs as bs sc ce rc own it pl lf : Nat → Int32}

theorem zx_sum_lp {post : Int32 → Prop} {x : Nat} {pb : Bool} {s0 c0 : Nat → Int32} {t : Nat → Nat} (hW0 : 0 < W) (hW : W ≤ 4) (hx : x < 4) (h3 : zq_rol ops xs as m x = 3)
    (R : zq_Run ops xs as bs m r W pb s0 c0 t own rc) (ht : ∀ w, w < W → t w = zq_fr pb r W (w + 1) * m) (h : post ((zq_sq ops xs as bs m s0 c0 (r * m)).1 x)) :
    ∀ d w, w + d = W → wX_sumOfAll_12 post (nI x) (s0 x) (nI r) (nI W) (nI m) fR fL ops xs as bs sc ce rc own it pl lf (d + 1) ((zq_sq ops xs as bs m s0 c0 (zq_fr pb r W w * m)).1 x) (nI w) := by
  intro d
  induction d with
  | zero =>
    intro w hw
    have e : w = W := by omega
    subst e
    rw [zq_fr_W hW0]
    exact br_t (nI_le (Nat.le_refl _) (by omega)) h
  | succ d ih =>
    intro w hw
    have hwW : w < W := by omega
    obtain ⟨j16, f16⟩ := zx_i16 (p := w * 4 + x) (by omega)
    refine br_f (nI_ge hwW (by omega)) ?_
    rw [zq_ix, f16]
    exact ⟨j16, nm_r (zq_end_sum ops xs as bs R ht hwW hx h3) (nm_r (nI_1 w) (ih (w + 1) (by omega)))⟩
theorem zx_min_lp {post : Int32 → Prop} {x : Nat} {pb : Bool} {s0 c0 : Nat → Int32} {t : Nat → Nat} (hW0 : 0 < W) (hW : W ≤ 4) (hx : x < 4) (h4 : zq_rol ops xs as m x = 4)
    (R : zq_Run ops xs as bs m r W pb s0 c0 t own rc) (ht : ∀ w, w < W → t w = zq_fr pb r W (w + 1) * m) (h : post ((zq_sq ops xs as bs m s0 c0 (r * m)).1 x)) :
    ∀ d w, w + d = W → wX_leastOfAll_9 post (nI x) (nI r) (nI W) (nI m) fR fL ops xs as bs sc ce rc own it pl lf (d + 1) ((zq_sq ops xs as bs m s0 c0 (zq_fr pb r W w * m)).1 x) (nI w) := by
  intro d
  induction d with
  | zero =>
    intro w hw
    have e : w = W := by omega
    subst e
    rw [zq_fr_W hW0]
    exact br_t (nI_le (Nat.le_refl _) (by omega)) h
  | succ d ih =>
    intro w hw
    have hwW : w < W := by omega
    obtain ⟨j16, f16⟩ := zx_i16 (p := w * 4 + x) (by omega)
    refine br_f (nI_ge hwW (by omega)) ?_
    rw [zq_ix, f16]
    refine ⟨j16, zx_les ?_⟩
    rw [zq_end_min ops xs as bs R ht hwW hx h4]
    exact nm_r (nI_1 w) (ih (w + 1) (by omega))
theorem zx_bt {post : Int32 → Prop} {x : Nat} {pb : Bool} {s0 c0 : Nat → Int32} {t : Nat → Nat} (hm0 : 0 < m) (hm : m ≤ 6) (hr0 : 0 < r) (hW0 : 0 < W) (hW : W ≤ 4) (hok : ∀ p, p < m → zq_ok ops xs as bs r p) (hx : x < 4) (hs : sc x = s0 x)
    (R : zq_Run ops xs as bs m r W pb s0 c0 t own rc) (ht : ∀ w, w < W → t w = zq_fr pb r W (w + 1) * m) (h : post ((zq_sq ops xs as bs m s0 c0 (r * m)).1 x)) :
    wpX_broughtTogether post (nI r, nI W, nI m, fR, nI (if pb = true then W - 1 else 0), ops, xs, as, bs, sc, ce, rc, own, it, pl, lf) (nI x) := by
  obtain ⟨i4, e4⟩ := zx_i4 hx
  have z0 : (zq_sq ops xs as bs m s0 c0 (zq_fr pb r W 0 * m)).1 x = s0 x := by rw [zq_fr_0, Nat.zero_mul]; rfl
  unfold wpX_broughtTogether
  refine zx_rol hm hok (br_c (fun h3 => ?_) (fun h3 => br_c (fun h4 => ?_) (fun h4 => ?_)))
  · unfold wpX_sumOfAll
    dsimp only
    refine ⟨i4, ?_⟩
    rw [e4, hs]
    refine nm_e ⟨W + 1, ?_⟩
    have := zx_sum_lp (post := post) (fR := fR) (fL := nI (if pb = true then W - 1 else 0)) (sc := sc) (ce := ce) (it := it) (pl := pl) (lf := lf) hW0 hW hx h3 R ht h W 0 (by omega)
    rw [z0] at this
    exact this
  · unfold wpX_leastOfAll
    dsimp only
    refine ⟨i4, ?_⟩
    rw [e4, hs]
    refine nm_e ⟨W + 1, ?_⟩
    have := zx_min_lp (post := post) (fR := fR) (fL := nI (if pb = true then W - 1 else 0)) (sc := sc) (ce := ce) (it := it) (pl := pl) (lf := lf) hW0 hW hx h4 R ht h W 0 (by omega)
    rw [z0] at this
    exact this
  · have hl : (if pb = true then W - 1 else 0) < 4 := by
      by_cases hb : pb = true
      · rw [if_pos hb]; omega
      · rw [if_neg hb]; omega
    obtain ⟨j16, f16⟩ := zx_i16 (p := (if pb = true then W - 1 else 0) * 4 + x) (by omega)
    rw [zq_ix, f16]
    refine ⟨j16, ?_⟩
    rw [zq_end_last ops xs as bs hm0 hr0 hW0 R ht hx h3 h4]
    exact h
theorem zx_end28 {post : SX → Prop} {pb : Bool} {s0 c0 : Nat → Int32} {t : Nat → Nat} (hm0 : 0 < m) (hm : m ≤ 6) (hr0 : 0 < r) (hW0 : 0 < W) (hW : W ≤ 4) (hok : ∀ p, p < m → zq_ok ops xs as bs r p)
    (R : zq_Run ops xs as bs m r W pb s0 c0 t own rc) (ht : ∀ w, w < W → t w = zq_fr pb r W (w + 1) * m)
    (h : post (nI r, nI W, nI m, 0, nI (if pb = true then W - 1 else 0), ops, xs, as, bs, (zq_sq ops xs as bs m s0 c0 (r * m)).1, ce, rc, own, it, pl, lf)) :
    ∀ d x sc', x + d = 4 → (∀ y, y < x → sc' y = (zq_sq ops xs as bs m s0 c0 (r * m)).1 y) → (∀ y, x ≤ y → sc' y = s0 y) →
      wX_endRun_28 post (nI r) (nI W) (nI m) fR (nI (if pb = true then W - 1 else 0)) (d + 1) (nI x) ops xs as bs sc' ce rc own it pl lf := by
  intro d
  induction d with
  | zero =>
    intro x sc' hx h1 h2
    have e : x = 4 := by omega
    subst e
    have es : sc' = (zq_sq ops xs as bs m s0 c0 (r * m)).1 := by
      funext y
      rcases Nat.lt_or_ge y 4 with l | l
      · exact h1 y l
      · rw [h2 y l, zq_sq_hs ops xs as bs hm0 hok l]
    rw [es]
    exact br_t (nI_le (a := 4) (b := 4) (Nat.le_refl _) (by omega)) h
  | succ d ih =>
    intro x sc' hx h1 h2
    have hx4 : x < 4 := by omega
    obtain ⟨i4, e4⟩ := zx_i4 hx4
    refine br_f (nI_ge (b := 4) hx4 (by omega)) (zx_bt hm0 hm hr0 hW0 hW hok hx4 (h2 x (Nat.le_refl x)) R ht ⟨i4, ?_⟩)
    rw [e4]
    refine nm_e (nm_r (nI_1 x) (ih (x + 1) _ (by omega) (fun y hy => ?_) (fun y hy => ?_)))
    · by_cases e : y = x
      · rw [e, pk_us]
      · rw [pk_un e]; exact h1 y (by omega)
    · rw [pk_un (by omega)]; exact h2 y (by omega)
theorem zx_end2 {post : SX → Prop} {pb : Bool} {c0 : Nat → Int32} {t : Nat → Nat} (hm0 : 0 < m) (hm : m ≤ 6) (hr0 : 0 < r) (hW0 : 0 < W) (hW : W ≤ 4) (hok : ∀ p, p < m → zq_ok ops xs as bs r p) (hpb : pb = true → zq_par ops xs as bs m r)
    (R : zq_Run ops xs as bs m r W pb sc c0 t own rc) (ht : ∀ w, w < W → t w = zq_fr pb r W (w + 1) * m)
    (h : post (nI r, nI W, nI m, 0, nI (if pb = true then W - 1 else 0), ops, xs, as, bs, (zq_sq ops xs as bs m sc c0 (r * m)).1, (zq_sq ops xs as bs m sc c0 (r * m)).2, rc, own, it, pl, lf)) :
    ∀ d k ce', k + d = 16 → (∀ y, y < k → ce' y = rc y) → (∀ y, k ≤ y → ce' y = c0 y) →
      wX_endRun_2 post (nI r) (nI W) (nI m) fR (nI (if pb = true then W - 1 else 0)) (d + 1) (nI k) ops xs as bs sc ce' rc own it pl lf := by
  intro d
  induction d with
  | zero =>
    intro k ce' hk h1 h2
    have e : k = 16 := by omega
    subst e
    have es : ce' = (zq_sq ops xs as bs m sc c0 (r * m)).2 := by
      funext y
      rcases Nat.lt_or_ge y 16 with l | l
      · rw [h1 y l]; exact zq_end_cells ops xs as bs hm0 hW0 hok hpb R ht y l
      · rw [h2 y l, zq_sq_hc ops xs as bs hm0 hok l _ (Nat.le_refl _)]
    rw [es]
    exact br_t (nI_le (a := 16) (b := 16) (Nat.le_refl _) (by omega)) ⟨5, zx_end28 hm0 hm hr0 hW0 hW hok R ht h 4 0 sc (by omega) (fun y hy => by omega) (fun y _ => rfl)⟩
  | succ d ih =>
    intro k ce' hk h1 h2
    have hk16 : k < 16 := by omega
    obtain ⟨i16, e16⟩ := zx_i16 hk16
    refine br_f (nI_ge (b := 16) hk16 (by omega)) ⟨i16, i16, ?_⟩
    rw [e16]
    refine nm_e (nm_r (nI_1 k) (ih (k + 1) _ (by omega) (fun y hy => ?_) (fun y hy => ?_)))
    · by_cases e : y = k
      · rw [e, pk_us]
      · rw [pk_un e]; exact h1 y (by omega)
    · rw [pk_un (by omega)]; exact h2 y (by omega)
theorem zx_end {post : SX → Prop} {pb : Bool} {t : Nat → Nat} (hm0 : 0 < m) (hm : m ≤ 6) (hr0 : 0 < r) (hW0 : 0 < W) (hW : W ≤ 4) (hok : ∀ p, p < m → zq_ok ops xs as bs r p) (hpb : pb = true → zq_par ops xs as bs m r)
    (R : zq_Run ops xs as bs m r W pb sc ce t own rc) (ht : ∀ w, w < W → t w = zq_fr pb r W (w + 1) * m)
    (h : post (nI r, nI W, nI m, 0, nI (if pb = true then W - 1 else 0), ops, xs, as, bs, (zq_sq ops xs as bs m sc ce (r * m)).1, (zq_sq ops xs as bs m sc ce (r * m)).2, rc, own, it, pl, lf)) :
    wpX_endRun post (nI r, nI W, nI m, fR, nI (if pb = true then W - 1 else 0), ops, xs, as, bs, sc, ce, rc, own, it, pl, lf) :=
  ⟨17, zx_end2 hm0 hm hr0 hW0 hW hok hpb R ht h 16 0 ce (by omega) (fun y hy => by omega) (fun y _ => rfl)⟩
end
