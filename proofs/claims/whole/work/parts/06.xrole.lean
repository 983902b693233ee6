/-! the component's reading methods against the pure picture -/
theorem zx_1 {A B : Prop} (h : B) : ((1 : Int32) = 0 → A) ∧ (¬ (1 : Int32) = 0 → B) := br_f (by decide) h
theorem zx_0 {A B : Prop} (h : A) : ((0 : Int32) = 0 → A) ∧ (¬ (0 : Int32) = 0 → B) := br_t rfl h
theorem zx_rsa {post : Int32 → Prop} {o : Int32} (ht : (o = 3 ∨ o = 4) → post 1) (hf : ¬ (o = 3 ∨ o = 4) → post 0) : wpX_readsScalarA post o :=
  br_c (fun h => ht (Or.inl h)) (fun h => br_c (fun h2 => ht (Or.inr h2)) (fun h2 => hf (fun z => z.elim h h2)))
theorem zx_uc {post : Int32 → Prop} {o : Int32} (ht : (o = 1 ∨ o = 2) → post 1) (hf : ¬ (o = 1 ∨ o = 2) → post 0) : wpX_usesCell post o :=
  br_c (fun h => ht (Or.inl h)) (fun h => br_c (fun h2 => ht (Or.inr h2)) (fun h2 => hf (fun z => z.elim h h2)))
theorem zx_i6 {p : Nat} (hp : p < 6) : vp_in (nI p) 6 ∧ (nI p).toNatClampNeg = p := ⟨vp_in_nI hp (by decide), nI_clamp (by omega)⟩
theorem zx_i4 {p : Nat} (hp : p < 4) : vp_in (nI p) 4 ∧ (nI p).toNatClampNeg = p := ⟨vp_in_nI hp (by decide), nI_clamp (by omega)⟩
theorem zx_i16 {p : Nat} (hp : p < 16) : vp_in (nI p) 16 ∧ (nI p).toNatClampNeg = p := ⟨vp_in_nI hp (by decide), nI_clamp (by omega)⟩

def zq_any (a b : Nat) (P : Nat → Prop) (v : Int32) : Prop := (v = 0 ∧ ∀ q, a ≤ q → q < b → ¬ P q) ∨ (v = 1 ∧ ∃ q, a ≤ q ∧ q < b ∧ P q)
theorem zq_any_e {a : Nat} {P : Nat → Prop} : zq_any a a P 0 := Or.inl ⟨rfl, fun q h1 h2 => by omega⟩
theorem zq_any_rn {a b : Nat} {P : Nat → Prop} {v : Int32} (h : zq_any a b P v) (hp : ¬ P b) : zq_any a (b + 1) P v := by
  rcases h with ⟨e, h⟩ | ⟨e, q, h1, h2, h3⟩
  · refine Or.inl ⟨e, fun q h1 h2 => ?_⟩
    by_cases hq : q = b
    · rw [hq]; exact hp
    · exact h q h1 (by omega)
  · exact Or.inr ⟨e, q, h1, by omega, h3⟩
theorem zq_any_rp {a b : Nat} {P : Nat → Prop} (hab : a ≤ b) (hp : P b) : zq_any a (b + 1) P 1 := Or.inr ⟨rfl, b, hab, by omega, hp⟩
theorem zq_any_01 {a b : Nat} {P : Nat → Prop} {v : Int32} (h : zq_any a b P v) : v = 0 ∨ v = 1 := h.elim (fun z => Or.inl z.1) (fun z => Or.inr z.1)
theorem zq_any_0 {b : Nat} {P : Nat → Prop} (h : zq_any 0 b P 0) : ∀ q, q < b → ¬ P q := by
  rcases h with ⟨_, h⟩ | ⟨e, _⟩
  · exact fun q hq => h q (Nat.zero_le q) hq
  · exact absurd e (by decide)
theorem zq_any_1 {b : Nat} {P : Nat → Prop} (h : zq_any 0 b P 1) : ¬ ∀ q, q < b → ¬ P q := by
  rcases h with ⟨e, _⟩ | ⟨_, q, _, h2, h3⟩
  · exact absurd e (by decide)
  · exact fun z => z q h2 h3

section
variable {r W m : Nat} {fR fL : Int32} {ops xs as bs sc ce rc own it pl lf : Nat → Int32}

theorem zx_ment {post : Int32 → Prop} {p x : Nat} (hp : p < 6) (ht : zq_ment ops xs as p x → post 1) (hf : ¬ zq_ment ops xs as p x → post 0) : wpX_mentions post (nI r, nI W, nI m, fR, fL, ops, xs, as, bs, sc, ce, rc, own, it, pl, lf) (nI p) (nI x) := by
  obtain ⟨i6, e⟩ := zx_i6 hp
  unfold wpX_mentions
  dsimp only
  rw [e]
  exact ⟨i6, br_c (fun h => ht (Or.inl h)) (fun h => ⟨i6, zx_rsa (fun h3 => zx_1 ⟨i6, br_c (fun h4 => ht (Or.inr ⟨h3, h4⟩)) (fun h4 => hf (fun z => z.elim h (fun z2 => h4 z2.2)))⟩) (fun h3 => zx_0 (hf (fun z => z.elim h (fun z2 => h3 z2.1))))⟩)⟩
theorem zx_chg {post : Int32 → Prop} {p x : Nat} (hp : p < 6) (ht : zq_chg ops xs p x → post 1) (hf : ¬ zq_chg ops xs p x → post 0) : wpX_changes post (nI r, nI W, nI m, fR, fL, ops, xs, as, bs, sc, ce, rc, own, it, pl, lf) (nI p) (nI x) := by
  obtain ⟨i6, e⟩ := zx_i6 hp
  unfold wpX_changes
  dsimp only
  rw [e]
  exact ⟨i6, br_c (fun h => ⟨i6, br_c (fun h2 => hf (fun z => z.2 h2)) (fun h2 => ht ⟨h, h2⟩)⟩) (fun h => hf (fun z => h z.1))⟩
theorem zx_adds {post : Int32 → Prop} {p x : Nat} (hp : p < 6) (ht : zq_adds ops xs as p x → post 1) (hf : ¬ zq_adds ops xs as p x → post 0) : wpX_addsTo post (nI r, nI W, nI m, fR, fL, ops, xs, as, bs, sc, ce, rc, own, it, pl, lf) (nI p) (nI x) := by
  obtain ⟨i6, e⟩ := zx_i6 hp
  unfold wpX_addsTo
  dsimp only
  rw [e]
  exact ⟨i6, br_c (fun h => ⟨i6, br_c (fun h5 => ht ⟨h, Or.inl h5⟩) (fun h5 => ⟨i6, br_c (fun h3 => ⟨i6, br_c (fun h4 => hf (fun z => z.2.elim h5 (fun y => y.2 h4))) (fun h4 => ht ⟨h, Or.inr ⟨h3, h4⟩⟩)⟩) (fun h3 => hf (fun z => z.2.elim h5 (fun y => h3 y.1)))⟩)⟩) (fun h => hf (fun z => h z.1))⟩
theorem zx_lows {post : Int32 → Prop} {p x : Nat} (hp : p < 6) (ht : zq_lows ops xs as p x → post 1) (hf : ¬ zq_lows ops xs as p x → post 0) : wpX_lowers post (nI r, nI W, nI m, fR, fL, ops, xs, as, bs, sc, ce, rc, own, it, pl, lf) (nI p) (nI x) := by
  obtain ⟨i6, e⟩ := zx_i6 hp
  unfold wpX_lowers
  dsimp only
  rw [e]
  exact ⟨i6, br_c (fun h => ⟨i6, br_c (fun h3 => ⟨i6, br_c (fun h4 => hf (fun z => z.2.2 h4)) (fun h4 => ht ⟨h, h3, h4⟩)⟩) (fun h3 => hf (fun z => h3 z.2.1))⟩) (fun h => hf (fun z => h z.1))⟩

theorem zx_r89 {post : Int32 → Prop} {J : Int32 → Int32 → Int32 → Int32 → Int32 → Prop} {p x : Nat} {a b ol z : Int32} (hp : p < 6) (hol : ol = 0 ∨ ol = 1)
    (ht : zq_lows ops xs as p x → J a b z ol (nI (p + 1))) (hf : ¬ zq_lows ops xs as p x → J a b z 0 (nI (p + 1))) : wX_roleOf_89 post J (nI x) a b ol (nI p) z (nI r) (nI W) (nI m) fR fL ops xs as bs sc ce rc own it pl lf := by
  unfold wX_roleOf_89
  refine zx_lows hp (fun h => zx_1 ?_) (fun h => zx_0 (nm_r (nI_1 p) (hf h)))
  rcases hol with e | e
  · exact br_t e (nm_r (nI_1 p) (by have := ht h; rw [e] at this; exact this))
  · exact br_f (by rw [e]; decide) (nm_r (nI_1 p) (by have := ht h; rw [e] at this; exact this))
theorem zx_r68 {post : Int32 → Prop} {J : Int32 → Int32 → Int32 → Int32 → Int32 → Prop} {p x : Nat} {a oa ol z : Int32} (hp : p < 6) (hoa : oa = 0 ∨ oa = 1)
    (ht : zq_adds ops xs as p x → wX_roleOf_89 post J (nI x) a z ol (nI p) oa (nI r) (nI W) (nI m) fR fL ops xs as bs sc ce rc own it pl lf) (hf : ¬ zq_adds ops xs as p x → wX_roleOf_89 post J (nI x) a z ol (nI p) 0 (nI r) (nI W) (nI m) fR fL ops xs as bs sc ce rc own it pl lf) : wX_roleOf_68 post J (nI x) a oa ol (nI p) z (nI r) (nI W) (nI m) fR fL ops xs as bs sc ce rc own it pl lf := by
  unfold wX_roleOf_68
  refine zx_adds hp (fun h => zx_1 ?_) (fun h => zx_0 (hf h))
  rcases hoa with e | e
  · exact br_t e (by have := ht h; rw [e] at this; exact this)
  · exact br_f (by rw [e]; decide) (by have := ht h; rw [e] at this; exact this)
theorem zx_r48 {post : Int32 → Prop} {J : Int32 → Int32 → Int32 → Int32 → Int32 → Prop} {p x : Nat} {ch oa ol z : Int32} (hp : p < 6) (hch : ch = 0 ∨ ch = 1)
    (ht : zq_chg ops xs p x → wX_roleOf_68 post J (nI x) z oa ol (nI p) 1 (nI r) (nI W) (nI m) fR fL ops xs as bs sc ce rc own it pl lf) (hf : ¬ zq_chg ops xs p x → wX_roleOf_68 post J (nI x) z oa ol (nI p) ch (nI r) (nI W) (nI m) fR fL ops xs as bs sc ce rc own it pl lf) : wX_roleOf_48 post J (nI x) ch oa ol (nI p) z (nI r) (nI W) (nI m) fR fL ops xs as bs sc ce rc own it pl lf := by
  unfold wX_roleOf_48
  refine zx_chg hp (fun h => zx_1 (ht h)) (fun h => zx_0 ?_)
  rcases hch with e | e
  · exact br_t e (by have := hf h; rw [e] at this; exact this)
  · exact br_f (by rw [e]; decide) (by have := hf h; rw [e] at this; exact this)

def zx_fo (ops : Nat → Int32) (g : Option Nat) : Int32 := match g with
  | none => -1
  | some f => ops f
theorem zq_ok_n1 {p : Nat} (h : zq_ok ops xs as bs r p) : ¬ ops p = -1 := by
  rcases zq_ok_ops ops xs as bs h with e | e | e | e | e | e <;> rw [e] <;> decide

theorem zx_rol_lp {post : Int32 → Prop} {x : Nat} (hm : m ≤ 6) (hok : ∀ p, p < m → zq_ok ops xs as bs r p) (hpost : post (zq_rol ops xs as m x)) :
    ∀ d p ch oa ol g, p + d = m → zq_firs ops xs as 0 p x g → zq_any 0 p (fun q => zq_chg ops xs q x) ch →
      zq_all 0 p (fun q => zq_ment ops xs as q x → zq_adds ops xs as q x) oa → zq_all 0 p (fun q => zq_ment ops xs as q x → zq_lows ops xs as q x) ol →
      wX_roleOf_13 post (nI x) (nI r) (nI W) (nI m) fR fL ops xs as bs sc ce rc own it pl lf (d + 1) (zx_fo ops g) ch oa ol (nI p) := by
  intro d
  induction d with
  | zero =>
    intro p ch oa ol g hpd hg hch hoa hol
    have hpm : p = m := by omega
    subst hpm
    refine br_t (nI_le (Nat.le_refl _) (by omega)) ?_
    cases g with
    | none =>
      rw [zq_rol_0 ops xs as hg] at hpost
      exact br_t rfl hpost
    | some f =>
      have hf : f < p := by
        rcases hg with ⟨e, _⟩ | ⟨f', e, _, h2, _⟩
        · exact nomatch e
        · cases e; exact h2
      refine br_f (zq_ok_n1 (hok f hf)) ?_
      rcases zq_any_01 hch with e | e
      · subst e
        rw [zq_rol_1 ops xs as hg (zq_any_0 hch)] at hpost
        exact br_t rfl hpost
      · subst e
        have n1 := zq_any_1 hch
        refine br_f (by decide) ?_
        by_cases h0 : ops f = 0
        · rw [zq_rol_2 ops xs as hg n1 (Or.inl h0)] at hpost
          exact br_t h0 hpost
        refine br_f h0 ?_
        by_cases h1 : ops f = 1
        · rw [zq_rol_2 ops xs as hg n1 (Or.inr h1)] at hpost
          exact br_t h1 hpost
        refine br_f h1 ?_
        rcases zq_all_01 hoa with e | e
        · subst e
          refine br_t rfl ?_
          rcases zq_all_01 hol with e | e
          · subst e
            rw [zq_rol_5 ops xs as hg n1 h0 h1 (zq_all_0 hoa) (zq_all_0 hol)] at hpost
            exact br_t rfl hpost
          · subst e
            rw [zq_rol_4 ops xs as hg n1 h0 h1 (zq_all_0 hoa) (zq_all_1 hol)] at hpost
            exact br_f (by decide) hpost
        · subst e
          rw [zq_rol_3 ops xs as hg n1 h0 h1 (zq_all_1 hoa)] at hpost
          exact br_f (by decide) hpost
  | succ d ih =>
    intro p ch oa ol g hpd hg hch hoa hol
    have hp : p < m := by omega
    refine br_f (nI_ge hp (by omega)) (zx_ment (by omega) (fun hmt => zx_1 ?_) (fun hmt => zx_0 ?_))
    · -- mentioned
      have key : ∀ g', zq_firs ops xs as 0 (p + 1) x g' → wX_roleOf_48 post (wX_roleOf_13 post (nI x) (nI r) (nI W) (nI m) fR fL ops xs as bs sc ce rc own it pl lf (d + 1)) (nI x) ch oa ol (nI p) (zx_fo ops g') (nI r) (nI W) (nI m) fR fL ops xs as bs sc ce rc own it pl lf := by
        intro g' hg'
        have k3 : ∀ ch' oa' ol', zq_any 0 (p + 1) (fun q => zq_chg ops xs q x) ch' → zq_all 0 (p + 1) (fun q => zq_ment ops xs as q x → zq_adds ops xs as q x) oa' → zq_all 0 (p + 1) (fun q => zq_ment ops xs as q x → zq_lows ops xs as q x) ol' →
            wX_roleOf_13 post (nI x) (nI r) (nI W) (nI m) fR fL ops xs as bs sc ce rc own it pl lf (d + 1) (zx_fo ops g') ch' oa' ol' (nI (p + 1)) :=
          fun ch' oa' ol' a b c => ih (p + 1) ch' oa' ol' g' (by omega) hg' a b c
        have k2 : ∀ ch' oa', zq_any 0 (p + 1) (fun q => zq_chg ops xs q x) ch' → zq_all 0 (p + 1) (fun q => zq_ment ops xs as q x → zq_adds ops xs as q x) oa' →
            wX_roleOf_89 post (wX_roleOf_13 post (nI x) (nI r) (nI W) (nI m) fR fL ops xs as bs sc ce rc own it pl lf (d + 1)) (nI x) (zx_fo ops g') ch' ol (nI p) oa' (nI r) (nI W) (nI m) fR fL ops xs as bs sc ce rc own it pl lf :=
          fun ch' oa' a b => zx_r89 (by omega) (zq_all_01 hol) (fun h => k3 ch' oa' ol a b (zq_all_rt hol (fun _ => h))) (fun h => k3 ch' oa' 0 a b (zq_all_rf (by omega) (fun z => h (z hmt))))
        have k1 : ∀ ch', zq_any 0 (p + 1) (fun q => zq_chg ops xs q x) ch' →
            wX_roleOf_68 post (wX_roleOf_13 post (nI x) (nI r) (nI W) (nI m) fR fL ops xs as bs sc ce rc own it pl lf (d + 1)) (nI x) (zx_fo ops g') oa ol (nI p) ch' (nI r) (nI W) (nI m) fR fL ops xs as bs sc ce rc own it pl lf :=
          fun ch' a => zx_r68 (by omega) (zq_all_01 hoa) (fun h => k2 ch' oa a (zq_all_rt hoa (fun _ => h))) (fun h => k2 ch' 0 a (zq_all_rf (by omega) (fun z => h (z hmt))))
        exact zx_r48 (by omega) (zq_any_01 hch) (fun h => k1 1 (zq_any_rp (by omega) h)) (fun h => k1 ch (zq_any_rn hch h))
      cases g with
      | none =>
        refine br_t rfl ⟨(zx_i6 (by omega)).1, ?_⟩
        have := key (some p) (zq_firs_r0 ops xs as (by omega) hg hmt)
        rw [(zx_i6 (p := p) (by omega)).2]
        exact this
      | some f =>
        have hf : f < p := by
          rcases hg with ⟨e, _⟩ | ⟨f', e, _, h2, _⟩
          · exact nomatch e
          · cases e; exact h2
        exact br_f (zq_ok_n1 (hok f (by omega))) (key (some f) (zq_firs_rs ops xs as hg))
    · refine nm_r (nI_1 p) (ih (p + 1) ch oa ol g (by omega) (zq_firs_rn ops xs as hg hmt) (zq_any_rn hch (fun z => hmt (Or.inl z.1))) (zq_all_rt hoa (fun z => absurd z hmt)) (zq_all_rt hol (fun z => absurd z hmt)))

theorem zx_rol {post : Int32 → Prop} {x : Nat} (hm : m ≤ 6) (hok : ∀ p, p < m → zq_ok ops xs as bs r p) (hpost : post (zq_rol ops xs as m x)) : wpX_roleOf post (nI r, nI W, nI m, fR, fL, ops, xs, as, bs, sc, ce, rc, own, it, pl, lf) (nI x) :=
  ⟨m + 1, zx_rol_lp hm hok hpost m 0 0 1 1 none (by omega) (zq_firs_e ops xs as) zq_any_e zq_all_e zq_all_e⟩
end
