/-! the reference's role -/
theorem zq_m1 (k : Nat) : nI k + (-1) = nI k - 1 := by rw [Int32.sub_eq_add_neg]
def zq_rds (ops as : Nat → Int32) (p x : Nat) : Prop := (ops p = 3 ∨ ops p = 4) ∧ as p = nI x
def zq_alo (ops xs as : Nat → Int32) (p x : Nat) : Prop := xs p = nI x ∧ ¬ zq_rds ops as p x
section
variable {r W m : Nat} {fR : Int32} {ops xs as bs sc ce dn : Nat → Int32}

theorem zq_alo_l {p x : Nat} : zq_lows ops xs as p x ↔ (zq_alo ops xs as p x ∧ ops p = 4) :=
  ⟨fun h => ⟨⟨h.1, fun z => h.2.2 z.2⟩, h.2.1⟩, fun h => ⟨h.1.1, h.2, fun z => h.1.2 ⟨Or.inr h.2, z⟩⟩⟩
theorem zq_alo_a {p x : Nat} : zq_adds ops xs as p x ↔ (zq_alo ops xs as p x ∧ (ops p = 3 ∨ ops p = 5)) := by
  constructor
  · intro h
    refine ⟨⟨h.1, fun z => ?_⟩, ?_⟩
    · rcases h.2 with e | e
      · rcases z.1 with e2 | e2 <;> rw [e] at e2 <;> exact absurd e2 (by decide)
      · exact e.2 z.2
    · rcases h.2 with e | e
      · exact Or.inr e
      · exact Or.inl e.1
  · intro h
    refine ⟨h.1.1, ?_⟩
    rcases h.2 with e | e
    · exact Or.inr ⟨e, fun z => h.1.2 ⟨Or.inl e, z⟩⟩
    · exact Or.inl e

theorem zy_rds {post : Int32 → Prop} {p x : Nat} (hp : p < 6) (ht : zq_rds ops as p x → post 1) (hf : ¬ zq_rds ops as p x → post 0) : wpY_reads post (nI r, nI W, nI m, fR, ops, xs, as, bs, sc, ce, dn) (nI p) (nI x) := by
  obtain ⟨i6, e⟩ := zx_i6 hp
  unfold wpY_reads wY_reads_20
  dsimp only
  rw [e]
  exact ⟨i6, br_c (fun h => ⟨i6, br_c (fun h4 => ht ⟨Or.inl h, h4⟩) (fun h4 => hf (fun z => h4 z.2))⟩) (fun h => ⟨i6, br_c (fun h2 => ⟨i6, br_c (fun h4 => ht ⟨Or.inr h2, h4⟩) (fun h4 => hf (fun z => h4 z.2))⟩) (fun h2 => hf (fun z => z.1.elim h h2))⟩)⟩
theorem zy_ment {post : Int32 → Prop} {p x : Nat} (hp : p < 6) (ht : zq_ment ops xs as p x → post 1) (hf : ¬ zq_ment ops xs as p x → post 0) : wpY_mentions post (nI r, nI W, nI m, fR, ops, xs, as, bs, sc, ce, dn) (nI p) (nI x) := by
  obtain ⟨i6, e⟩ := zx_i6 hp
  unfold wpY_mentions
  dsimp only
  rw [e]
  exact ⟨i6, br_c (fun h => ht (Or.inl h)) (fun h => zy_rds hp (fun h2 => zx_1 (ht (Or.inr h2))) (fun h2 => zx_0 (hf (fun z => z.elim h h2))))⟩

theorem zy_r144 {post : Int32 → Prop} {J : Int32 → Int32 → Int32 → Int32 → Int32 → Prop} {p x : Nat} {a b ol al z : Int32} (hp : p < 6) (hol : ol = 0 ∨ ol = 1)
    (hal : (al = 1 ∧ zq_alo ops xs as p x) ∨ (al = 0 ∧ ¬ zq_alo ops xs as p x))
    (ht : zq_lows ops xs as p x → J a b z ol (nI p - 1)) (hf : ¬ zq_lows ops xs as p x → J a b z 0 (nI p - 1)) : wY_role_144 post J (nI x) a b ol (nI p) al z (nI r) (nI W) (nI m) fR ops xs as bs sc ce dn := by
  obtain ⟨i6, e⟩ := zx_i6 hp
  unfold wY_role_144
  rw [e]
  rcases hol with e0 | e1
  · subst e0
    refine br_t rfl (nm_r (zq_m1 p) ?_)
    by_cases h : zq_lows ops xs as p x
    · exact ht h
    · exact hf h
  · subst e1
    refine br_f (by decide) ?_
    rcases hal with ⟨ea, ha⟩ | ⟨ea, ha⟩
    · subst ea
      exact br_f (by decide) ⟨i6, br_c (fun h4 => nm_r (zq_m1 p) (ht (zq_alo_l.mpr ⟨ha, h4⟩))) (fun h4 => nm_r (zq_m1 p) (hf (fun z => h4 (zq_alo_l.mp z).2)))⟩
    · subst ea
      exact br_t rfl (nm_r (zq_m1 p) (hf (fun z => ha (zq_alo_l.mp z).1)))
theorem zy_r105 {post : Int32 → Prop} {J : Int32 → Int32 → Int32 → Int32 → Int32 → Prop} {p x : Nat} {a b oa ol al : Int32} (hp : p < 6) (hoa : oa = 0 ∨ oa = 1)
    (hal : (al = 1 ∧ zq_alo ops xs as p x) ∨ (al = 0 ∧ ¬ zq_alo ops xs as p x))
    (ht : zq_adds ops xs as p x → wY_role_144 post J (nI x) a b ol (nI p) al oa (nI r) (nI W) (nI m) fR ops xs as bs sc ce dn) (hf : ¬ zq_adds ops xs as p x → wY_role_144 post J (nI x) a b ol (nI p) al 0 (nI r) (nI W) (nI m) fR ops xs as bs sc ce dn) : wY_role_105 post J (nI x) a b oa ol (nI p) al (nI r) (nI W) (nI m) fR ops xs as bs sc ce dn := by
  obtain ⟨i6, e⟩ := zx_i6 hp
  unfold wY_role_105 wY_role_143 wY_role_139
  rw [e]
  rcases hoa with e0 | e1
  · subst e0
    refine br_t rfl ?_
    by_cases h : zq_adds ops xs as p x
    · exact ht h
    · exact hf h
  · subst e1
    refine br_f (by decide) ?_
    rcases hal with ⟨ea, ha⟩ | ⟨ea, ha⟩
    · subst ea
      exact br_f (by decide) ⟨i6, br_c (fun h3 => ht (zq_alo_a.mpr ⟨ha, Or.inl h3⟩)) (fun h3 => ⟨i6, br_c (fun h5 => ht (zq_alo_a.mpr ⟨ha, Or.inr h5⟩)) (fun h5 => hf (fun z => (zq_alo_a.mp z).2.elim h3 h5))⟩)⟩
    · subst ea
      exact br_t rfl (hf (fun z => ha (zq_alo_a.mp z).1))
theorem zy_r78 {post : Int32 → Prop} {J : Int32 → Int32 → Int32 → Int32 → Int32 → Prop} {p x : Nat} {a b oa ol : Int32} (hp : p < 6)
    (h : ∀ al, ((al = 1 ∧ zq_alo ops xs as p x) ∨ (al = 0 ∧ ¬ zq_alo ops xs as p x)) → wY_role_105 post J (nI x) a b oa ol (nI p) al (nI r) (nI W) (nI m) fR ops xs as bs sc ce dn) : wY_role_78 post J (nI x) a oa ol (nI p) b (nI r) (nI W) (nI m) fR ops xs as bs sc ce dn := by
  obtain ⟨i6, e⟩ := zx_i6 hp
  unfold wY_role_78 wY_role_104
  rw [e]
  exact ⟨i6, br_c (fun hx => zy_rds hp (fun h2 => zx_1 (h 0 (Or.inr ⟨rfl, fun z => z.2 h2⟩))) (fun h2 => zx_0 (h 1 (Or.inl ⟨rfl, hx, h2⟩)))) (fun hx => h 0 (Or.inr ⟨rfl, fun z => hx z.1⟩))⟩

def zy_fi (g : Option Nat) : Int32 := match g with
  | none => -1
  | some f => nI f

theorem zy_rol_lp {post : Int32 → Prop} {x : Nat} (hm : m ≤ 6) (hok : ∀ p, p < m → zq_ok ops xs as bs r p) (hpost : post (zq_rol ops xs as m x)) :
    ∀ k sh oa ol g, k ≤ m → zq_firs ops xs as k m x g → zq_all k m (fun q => ¬ zq_chg ops xs q x) sh →
      zq_all k m (fun q => zq_ment ops xs as q x → zq_adds ops xs as q x) oa → zq_all k m (fun q => zq_ment ops xs as q x → zq_lows ops xs as q x) ol →
      wY_role_29 post (nI x) (nI r) (nI W) (nI m) fR ops xs as bs sc ce dn (k + 1) (zy_fi g) sh oa ol (nI k - 1) := by
  intro k
  induction k with
  | zero =>
    intro sh oa ol g hkm hg hsh hoa hol
    refine br_t (by decide) ?_
    cases g with
    | none =>
      rw [zq_rol_0 ops xs as hg] at hpost
      exact br_f (by decide) hpost
    | some f =>
      have hf : f < m := by
        rcases hg with ⟨e, _⟩ | ⟨f', e, _, h2, _⟩
        · exact nomatch e
        · cases e; exact h2
      have hof := zq_ok_ops ops xs as bs (hok f hf)
      refine br_t (nI_pos' (by omega)) ?_
      rcases zq_all_01 hsh with e | e
      · subst e
        have n1 := zq_all_0 hsh
        refine br_t rfl ⟨(zx_i6 (by omega)).1, ?_⟩
        show (1 < ops (nI f).toNatClampNeg → _) ∧ (¬ 1 < ops (nI f).toNatClampNeg → _)
        rw [(zx_i6 (p := f) (by omega)).2]
        by_cases h0 : ops f = 0
        · rw [zq_rol_2 ops xs as hg n1 (Or.inl h0)] at hpost
          exact br_f (by rw [h0]; decide) hpost
        by_cases h1 : ops f = 1
        · rw [zq_rol_2 ops xs as hg n1 (Or.inr h1)] at hpost
          exact br_f (by rw [h1]; decide) hpost
        have hgt : 1 < ops f := by
          rcases hof with e | e | e | e | e | e
          · exact absurd e h0
          · exact absurd e h1
          · rw [e]; decide
          · rw [e]; decide
          · rw [e]; decide
          · rw [e]; decide
        refine br_t hgt ?_
        rcases zq_all_01 hoa with e | e
        · subst e
          refine br_t rfl ?_
          rcases zq_all_01 hol with e | e
          · subst e
            rw [zq_rol_5 ops xs as hg n1 h0 h1 (zq_all_0 hoa) (zq_all_0 hol)] at hpost
            exact br_t rfl hpost
          · subst e
            rw [zq_rol_4 ops xs as hg n1 h0 h1 (zq_all_0 hoa) (zq_all_1 hol)] at hpost
            exact br_f (by decide) hpost
        · subst e
          rw [zq_rol_3 ops xs as hg n1 h0 h1 (zq_all_1 hoa)] at hpost
          exact br_f (by decide) hpost
      · subst e
        rw [zq_rol_1 ops xs as hg (zq_all_1 hsh)] at hpost
        exact br_f (by decide) hpost
  | succ p ih =>
    intro sh oa ol g hkm hg hsh hoa hol
    have hp : p < m := by omega
    rw [nI_pred]
    refine br_f (nI_pos (by omega)) (zy_ment (by omega) (fun hmt => zx_1 ?_) (fun hmt => zx_0 ?_))
    · have hg' : zq_firs ops xs as p m x (some p) := zq_firs_lm ops xs as hp hmt
      have key : ∀ sh', zq_all p m (fun q => ¬ zq_chg ops xs q x) sh' → wY_role_78 post (wY_role_29 post (nI x) (nI r) (nI W) (nI m) fR ops xs as bs sc ce dn (p + 1)) (nI x) (nI p) oa ol (nI p) sh' (nI r) (nI W) (nI m) fR ops xs as bs sc ce dn := by
        intro sh' hsh'
        have k3 : ∀ oa' ol', zq_all p m (fun q => zq_ment ops xs as q x → zq_adds ops xs as q x) oa' → zq_all p m (fun q => zq_ment ops xs as q x → zq_lows ops xs as q x) ol' →
            wY_role_29 post (nI x) (nI r) (nI W) (nI m) fR ops xs as bs sc ce dn (p + 1) (nI p) sh' oa' ol' (nI p - 1) :=
          fun oa' ol' b c => ih sh' oa' ol' (some p) (by omega) hg' hsh' b c
        refine zy_r78 (by omega) (fun al hal => ?_)
        have k2 : ∀ oa', zq_all p m (fun q => zq_ment ops xs as q x → zq_adds ops xs as q x) oa' →
            wY_role_144 post (wY_role_29 post (nI x) (nI r) (nI W) (nI m) fR ops xs as bs sc ce dn (p + 1)) (nI x) (nI p) sh' ol (nI p) al oa' (nI r) (nI W) (nI m) fR ops xs as bs sc ce dn :=
          fun oa' b => zy_r144 (by omega) (zq_all_01 hol) hal (fun h => k3 oa' ol b (zq_all_lt hol (fun _ => h))) (fun h => k3 oa' 0 b (zq_all_lf hp (fun z => h (z hmt))))
        exact zy_r105 (by omega) (zq_all_01 hoa) hal (fun h => k2 oa (zq_all_lt hoa (fun _ => h))) (fun h => k2 0 (zq_all_lf hp (fun z => h (z hmt))))
      have kt : zq_chg ops xs p x → wY_role_77 post (wY_role_29 post (nI x) (nI r) (nI W) (nI m) fR ops xs as bs sc ce dn (p + 1)) (nI x) (nI p) oa ol (nI p) (nI r) (nI W) (nI m) fR ops xs as bs sc ce dn :=
        fun h => key 0 (zq_all_lf hp (fun z => z h))
      rcases zq_all_01 hsh with e | e
      · subst e
        refine br_t rfl (key 0 ?_)
        by_cases h : zq_chg ops xs p x
        · exact zq_all_lf hp (fun z => z h)
        · exact zq_all_lt hsh h
      · subst e
        have kf : ¬ zq_chg ops xs p x → wY_role_73 post (wY_role_29 post (nI x) (nI r) (nI W) (nI m) fR ops xs as bs sc ce dn (p + 1)) (nI x) (nI p) oa ol (nI p) (nI r) (nI W) (nI m) fR ops xs as bs sc ce dn :=
          fun h => key 1 (zq_all_lt hsh h)
        obtain ⟨i6, e6⟩ := zx_i6 (p := p) (by omega)
        refine br_f (by decide) ⟨i6, ?_⟩
        rw [e6]
        exact br_c (fun hx => ⟨i6, br_c (fun h2 => kf (fun z => z.2 h2)) (fun h2 => kt ⟨hx, h2⟩)⟩) (fun hx => kf (fun z => hx z.1))
    · refine nm_r (zq_m1 p) (ih sh oa ol g (by omega) (zq_firs_ln ops xs as hg hmt) (zq_all_lt hsh (fun z => hmt (Or.inl z.1))) (zq_all_lt hoa (fun z => absurd z hmt)) (zq_all_lt hol (fun z => absurd z hmt)))

theorem zy_rol {post : Int32 → Prop} {x : Nat} (hx : x < 4) (hm : m ≤ 6) (hok : ∀ p, p < m → zq_ok ops xs as bs r p) (hpost : post (zq_rol ops xs as m x)) : wpY_role post (nI r, nI W, nI m, fR, ops, xs, as, bs, sc, ce, dn) (nI x) :=
  br_f (nI_pos (by omega)) (br_t (nI_le (b := 3) (by omega) (by decide)) (nm_e ⟨m + 1, zy_rol_lp hm hok hpost m 1 1 1 none (Nat.le_refl m) (zq_firs_e ops xs as) zq_all_e zq_all_e zq_all_e⟩))
end
