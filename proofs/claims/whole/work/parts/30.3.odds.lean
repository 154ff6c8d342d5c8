/-! ===== odds ===== -/
theorem gsU_le : ∀ (r D : Nat) (V : Vl), gsU r D V ≤ 12 * r
  | 0, _, _ => Nat.le_refl _
  | r + 1, D, V => by
    have := gsU_le r (drw (drw D)) (gsV V D)
    have := popc_12 (telN V (othN (vlP V) (gsP V D)) (gsW V D))
    unfold gsU
    split <;> omega
theorem gsH_le : ∀ (r D : Nat) (V : Vl), vlP V ≤ 4 → gsH r D V ≤ 4 * r
  | 0, _, _, _ => Nat.le_refl _
  | r + 1, D, V, h => by
    have := gsH_le r (drw (drw D)) (gsV V D) (by rw [gsV_P]; exact h)
    unfold gsH
    split <;> omega
theorem sumW_le {f : Nat → Nat} {B : Nat} (hf : ∀ k, f k ≤ B) : ∀ (r k v : Nat), sumW f r k v ≤ v + B * r
  | 0, _, v => Nat.le_refl _
  | r + 1, k, v => by
    have := sumW_le hf r (k + 1) (v + f k)
    have := hf k
    unfold sumW
    rw [Nat.mul_succ]
    omega
theorem sx_frac0 {u h g k : Nat} (hu : u < 2 ^ 31) (hh : h < 2 ^ 31) (hg : 0 < g) (hg2 : g < 2 ^ 31) (hk : k < 64) (z6 : jm_V) (d : Nat) (m : jm_M) : jm_ev false d 10 0 jc_X11_tellFraction 8 [vX, .inl (nI u), .inl (nI h), .inl (nI g), .inl (nI 0), .inl (nI k), z6] [] m = some (jm_j, jm_sL (jm_sL m 0 0 0 18 (lN (u / g))) 0 0 0 19 (lN (h / g))) := by
  have d1 : nI u / nI g = nI (u / g) := div_I hu hg hg2
  have d2 : nI h / nI g = nI (h / g) := div_I hh hg hg2
  have l1 : (nI (u / g)).toInt64 = lN (u / g) := nI_l (Nat.lt_of_le_of_lt (Nat.div_le_self _ _) hu)
  have l2 : (nI (h / g)).toInt64 = lN (h / g) := nI_l (Nat.lt_of_le_of_lt (Nat.div_le_self _ _) hh)
  rw [l_X11_tellFraction_8]
  simp (disch := omega) only [jg_lit, jg_litL, jg_m1, jg_m1L, nI_add, lN_add, pk_mul, jg_sub, jg_subM, jg_addM, jg_addM', jg_negM, jt_in, jt_ix, jt_bi, jt_bl, jt_bv, jt_lt, jg_dT, jg_dF, jt_c, jt_cd, ru_I, ru_L, jg_leI, jg_ltI, jg_eqI, jg_M1, jg_M2, jg_M3, jg_M4, jg_M5, jg_M6, jg_ltT, jg_ltF, jg_leT, jg_leF, jg_eqT, jg_eqF, cond_true, cond_false, ne_eq, not_true_eq_false, not_false_eq_true, decide_true, decide_false, if_true, if_false, and_true, true_and, and_false, false_and, or_true, true_or, or_false, false_or, Nat.reduceEqDiff, reduceIte, Nat.reduceMul, Nat.reduceAdd, Nat.reduceSub, Nat.add_zero, Nat.zero_add, Nat.mul_zero, eq_self_iff_true, jg_not_lt, jg_not_le, d1, d2, l1, l2]
theorem gcd_step (a b : Nat) : Nat.gcd b (a % b) = Nat.gcd a b := by
  rw [Nat.gcd_comm a b, Nat.gcd_comm b (a % b)]
  exact (Nat.gcd_rec b a).symm
theorem sx_frac_1 {u h a b k : Nat} (ha : a < 2 ^ 31) (hb0 : 0 < b) (hb : b < 2 ^ 31) (hk : k < 64) (z6 : jm_V) (d : Nat) (m : jm_M) : jm_ev false d 10 0 jc_X11_tellFraction 8 [vX, .inl (nI u), .inl (nI h), .inl (nI a), .inl (nI b), .inl (nI k), z6] [] m = jm_ev false d 10 0 jc_X11_tellFraction 8 [vX, .inl (nI u), .inl (nI h), .inl (nI b), .inl (nI (a % b)), .inl (nI (k + 1)), .inl (nI (a % b))] [] m := by
  have d1 : nI a / nI b = nI (a / b) := div_I ha hb0 hb
  have d2 : nI a - nI (a / b * b) = nI (a % b) := sm_rem ha hb0 hb
  rw [l_X11_tellFraction_8]
  simp (disch := omega) only [jg_lit, jg_litL, jg_m1, jg_m1L, nI_add, lN_add, pk_mul, jg_sub, jg_subM, jg_addM, jg_addM', jg_negM, jt_in, jt_ix, jt_bi, jt_bl, jt_bv, jt_lt, jg_dT, jg_dF, jt_c, jt_cd, ru_I, ru_L, jg_leI, jg_ltI, jg_eqI, jg_M1, jg_M2, jg_M3, jg_M4, jg_M5, jg_M6, jg_ltT, jg_ltF, jg_leT, jg_leF, jg_eqT, jg_eqF, cond_true, cond_false, ne_eq, not_true_eq_false, not_false_eq_true, decide_true, decide_false, if_true, if_false, and_true, true_and, and_false, false_and, or_true, true_or, or_false, false_or, Nat.reduceEqDiff, reduceIte, Nat.reduceMul, Nat.reduceAdd, Nat.reduceSub, Nat.add_zero, Nat.zero_add, Nat.mul_zero, eq_self_iff_true, jg_not_lt, jg_not_le, d1, d2]
theorem sx_frac_loop {u h g : Nat} (hu : u < 2 ^ 31) (hh : h < 2 ^ 31) (hg : 0 < g) (d : Nat) (m : jm_M) : ∀ (n a b k : Nat) (z6 : jm_V), b < 2 ^ n → n ≤ 20 → a < 2 ^ 31 → k + 2 * n ≤ 63 → Nat.gcd a b = g → jm_ev false d 10 0 jc_X11_tellFraction 8 [vX, .inl (nI u), .inl (nI h), .inl (nI a), .inl (nI b), .inl (nI k), z6] [] m = some (jm_j, jm_sL (jm_sL m 0 0 0 18 (lN (u / g))) 0 0 0 19 (lN (h / g)))
  | 0, a, b, k, z6, hb, hn, ha, hk, hgc => by
    have b0 : b = 0 := by omega
    subst b0
    rw [Nat.gcd_zero_right] at hgc
    subst hgc
    exact sx_frac0 hu hh hg ha (by omega) z6 d m
  | n + 1, a, b, k, z6, hb, hn, ha, hk, hgc => by
    have h20 : 2 ^ (n + 1) ≤ 2 ^ 20 := Nat.pow_le_pow_right (by decide) hn
    have hb31 : b < 2 ^ 31 := by omega
    by_cases b0 : b = 0
    · subst b0
      rw [Nat.gcd_zero_right] at hgc
      subst hgc
      exact sx_frac0 hu hh hg ha (by omega) z6 d m
    · have hbp : 0 < b := by omega
      rw [sx_frac_1 ha hbp hb31 (by omega)]
      have hc := Nat.mod_lt a hbp
      rw [← gcd_step] at hgc
      by_cases c0 : a % b = 0
      · rw [c0] at hgc ⊢
        rw [Nat.gcd_zero_right] at hgc
        subst hgc
        exact sx_frac0 hu hh hg hb31 (by omega) _ d m
      · have hcp : 0 < a % b := by omega
        rw [sx_frac_1 hb31 hcp (by omega) (by omega)]
        rw [← gcd_step] at hgc
        have h1 := Nat.mod_lt b hcp
        have h2 := Nat.div_add_mod b (a % b)
        have h3 : 0 < b / (a % b) := Nat.div_pos (by omega) hcp
        have h4 : a % b ≤ (a % b) * (b / (a % b)) := Nat.le_mul_of_pos_right _ h3
        have h5 : 2 ^ (n + 1) = 2 * 2 ^ n := by rw [Nat.pow_succ]; omega
        exact sx_frac_loop hu hh hg d m n (a % b) (b % (a % b)) (k + 1 + 1) _ (by omega) (by omega) (by omega) (by omega) hgc
theorem sm_is0' (d : Nat) (m : jm_M) : jm_sem false (d + 1) jn_X12_is [vM, .inl (nI 0)] m = some (.inl (nI 1), jm_sI m 40 0 0 2 (nI 0)) := sm_is0 d m
theorem a11 : nI 1 &&& nI 1 = nI 1 := by decide
theorem a01 : nI 0 &&& nI 1 = nI 0 := by decide
theorem sm_by_loop {u h g : Nat} (hu : u < 2 ^ 31) (hh : h < 2 ^ 31) (hg : 0 < g) (d : Nat) (m : jm_M) : ∀ (n a b : Nat) (z9 z10 : jm_V), b < n → n ≤ 2 ^ 31 → a < 2 ^ 31 → Nat.gcd a b = g → jm_ev false (d + 1) 11 2 jc_X12_tellsBy 6 [vM, .inr (.inl (lN u)), jm_j, .inr (.inl (lN h)), jm_j, .inr (.inl (lN a)), jm_j, .inr (.inl (lN b)), jm_j, z9, z10] [] m = some (.inl (nI 1), jm_sI (jm_sL (jm_sL m 40 0 0 3 (lN (u / g))) 40 0 0 4 (lN (h / g))) 40 0 0 2 0)
  | 0, a, b, z9, z10, hb, hn, ha, hgc => by omega
  | n + 1, a, b, z9, z10, hb, hn, ha, hgc => by
    have ez : (lg_cmp (lN b) (lN 0) = nI 0) = (b = 0) := propext (cmp_pos (show b < 2 ^ 62 by omega)).2
    rw [l_X12_tellsBy_6]
    by_cases b0 : b = 0
    · have ez' := ez.trans (eq_true b0)
      subst b0
      rw [Nat.gcd_zero_right] at hgc
      subst hgc
      have n0 : (lN a = lN 0) = False := eq_false (fun z => by have := (pk_lEQ (show a < 2 ^ 63 by omega) (by decide)).mp z; omega)
      have d1 : lN u / lN a = lN (u / a) := pk_lDiv (by omega) hg (by omega)
      have d2 : lN h / lN a = lN (h / a) := pk_lDiv (by omega) hg (by omega)
      simp (disch := omega) only [jg_lit, jg_litL, jg_m1, jg_m1L, nI_add, lN_add, pk_mul, jg_sub, jg_subM, jg_addM, jg_addM', jg_negM, jt_in, jt_ix, jt_bi, jt_bl, jt_bv, jt_lt, jg_dT, jg_dF, jt_c, jt_cd, ru_I, ru_L, jg_leI, jg_ltI, jg_eqI, jg_M1, jg_M2, jg_M3, jg_M4, jg_M5, jg_M6, jg_ltT, jg_ltF, jg_leT, jg_leF, jg_eqT, jg_eqF, cond_true, cond_false, ne_eq, not_true_eq_false, not_false_eq_true, decide_true, decide_false, if_true, if_false, and_true, true_and, and_false, false_and, or_true, true_or, or_false, false_or, Nat.reduceEqDiff, reduceIte, Nat.reduceMul, Nat.reduceAdd, Nat.reduceSub, Nat.add_zero, Nat.zero_add, Nat.mul_zero, eq_self_iff_true, jg_not_lt, jg_not_le, ez', n0, d1, d2, sm_is0', a11]
    · have ez' := ez.trans (eq_false b0)
      have hbp : 0 < b := by omega
      have n0 : (lN b = lN 0) = False := eq_false (fun z => by have := (pk_lEQ (show b < 2 ^ 63 by omega) (by decide)).mp z; omega)
      have d1 : lN a - lN a / lN b * lN b = lN (a % b) := pk_lRem (by omega) hbp (by omega)
      have hc := Nat.mod_lt a hbp
      rw [← gcd_step] at hgc
      have ih := sm_by_loop hu hh hg d m n b (a % b) (.inr (.inl (lN (a % b)))) jm_j (by omega) (by omega) (by omega) hgc
      simp (disch := omega) only [jg_lit, jg_litL, jg_m1, jg_m1L, nI_add, lN_add, pk_mul, jg_sub, jg_subM, jg_addM, jg_addM', jg_negM, jt_in, jt_ix, jt_bi, jt_bl, jt_bv, jt_lt, jg_dT, jg_dF, jt_c, jt_cd, ru_I, ru_L, jg_leI, jg_ltI, jg_eqI, jg_M1, jg_M2, jg_M3, jg_M4, jg_M5, jg_M6, jg_ltT, jg_ltF, jg_leT, jg_leF, jg_eqT, jg_eqF, cond_true, cond_false, ne_eq, not_true_eq_false, not_false_eq_true, decide_true, decide_false, if_true, if_false, and_true, true_and, and_false, false_and, or_true, true_or, or_false, false_or, Nat.reduceEqDiff, reduceIte, Nat.reduceMul, Nat.reduceAdd, Nat.reduceSub, Nat.add_zero, Nat.zero_add, Nat.mul_zero, eq_self_iff_true, jg_not_lt, jg_not_le, ez', n0, d1]
      exact ih
def stF (s : St) (f : Int64 × Int64) (x : Int32) : St := (aV s, x, aT s, aP s, aM s, aB s, aG s, f, aX s)
theorem xO_F {s : St} {μ : jm_M} (h : xO s μ) (a b : Int64) : xO (stF s (a, b) (aS s)) (jm_sL (jm_sL μ 0 0 0 18 a) 0 0 0 19 b) := by
  obtain ⟨h1, h2, h3, h4, h5, h6, h7, h8, h9, h10, h11, h12⟩ := h
  have hl : ∀ K i j k, K ≠ 0 → (jm_sL (jm_sL μ 0 0 0 18 a) 0 0 0 19 b).2 K i j k = μ.2 K i j k := fun K i j k hK => by rw [rd_LL, if_neg (fun z => hK z.1), rd_LL, if_neg (fun z => hK z.1)]
  refine ⟨h1, xT_k h2 (fun i j k => rfl) (fun i j k => hl 3 i j k (by decide)), h3, h4, fun k hk => ?_, h6, h7, h8, ?_, ?_, h11, h12⟩
  · exact ⟨xH_k (h5 k hk).1 (fun K q hK => ⟨rfl, hl _ _ _ _ (by omega)⟩), fun j hj => xW_k ((h5 k hk).2 j hj) (fun q => rfl) (fun q => hl _ _ _ _ (by decide))⟩
  · rw [rd_LL, if_neg (by omega), rd_LL, if_pos ⟨rfl, rfl, rfl, rfl⟩]; rfl
  · rw [rd_LL, if_pos ⟨rfl, rfl, rfl, rfl⟩]; rfl
theorem xV_F {V : Vl} {i : Nat} {μ : jm_M} (h : xV V i μ) (a b : Int64) : xV V i (jm_sL (jm_sL μ 0 0 0 18 a) 0 0 0 19 b) := ⟨xH_k h.1 (fun K q hK => ⟨rfl, by rw [rd_LL, if_neg (by omega), rd_LL, if_neg (by omega)]⟩), fun j hj => xW_k (h.2 j hj) (fun q => rfl) (fun q => by rw [rd_LL, if_neg (by omega), rd_LL, if_neg (by omega)])⟩
theorem mO_F {s : St} {μ : jm_M} (h : mO s μ) (a b : Int64) : mO (stF s (a, b) (aS s)) (jm_sL (jm_sL μ 40 0 0 3 a) 40 0 0 4 b) := by
  obtain ⟨h1, h2, h3, h4, h5, h6, h7, h8, h9, h10, h11, h12⟩ := h
  have hl : ∀ K i j k, K ≠ 40 → (jm_sL (jm_sL μ 40 0 0 3 a) 40 0 0 4 b).2 K i j k = μ.2 K i j k := fun K i j k hK => by rw [rd_LL, if_neg (fun z => hK z.1), rd_LL, if_neg (fun z => hK z.1)]
  refine ⟨h1, mT_k h2 (fun i j k => rfl) (fun i j k => rfl) (fun i j k => hl 45 i j k (by decide)), h3, h4, fun k hk => ?_, h6, h7, h8, ?_, ?_, h11, h12⟩
  · obtain ⟨ν, n1, n2, n3⟩ := h5 k hk
    exact ⟨ν, n1, n2, fun c hc => by rw [hl _ _ _ _ (by decide)]; exact n3 c hc⟩
  · rw [rd_LL, if_neg (by omega), rd_LL, if_pos ⟨rfl, rfl, rfl, rfl⟩]; rfl
  · rw [rd_LL, if_pos ⟨rfl, rfl, rfl, rfl⟩]; rfl
theorem sx_odds_loop {V : Vl} (ho : okV V) (hP : 0 < vlP V) (hW : 0 < (vlW V).length) {seed many days : Nat} (hdays : days ≤ 60) (hmany : many ≤ 20) (hseed : seed ≤ 9999) (z4 : jm_V) (d : Nat) : ∀ (r k u h : Nat) (m : jm_M), k + r = many → xV V 0 m → ∃ m', jm_ev false (d + 7) 10 2 jc_X11_odds 53 [vX, .inl (nI seed), .inl (nI many), .inl (nI days), z4, .inl (nI u), .inl (nI h), .inl (nI k)] [] m = jm_ev false (d + 7) 10 2 jc_X11_odds 53 [vX, .inl (nI seed), .inl (nI many), .inl (nI days), z4, .inl (nI (sumW (fun k => gsU days (seed + k) V) r k u)), .inl (nI (sumW (fun k => gsH days (seed + k) V) r k h)), .inl (nI many)] [] m' ∧ xV V 0 m' ∧ fr QX m m'
  | 0, k, u, h, m, hr, hx => by
    have : k = many := by omega
    subst this
    exact ⟨m, rfl, hx, .rf⟩
  | r + 1, k, u, h, m, hr, hx => by
    have h12 := ho.2.2.2.1.1
    obtain ⟨m1, c1, c2, c3⟩ := sx_copyV (i := 1) hx ho (by decide) (d + 5)
    obtain ⟨m2, r1, r2, r3, r4, r5, r6, r7⟩ := sx_run (i0 := 1) hdays (show seed + k < 65536 by omega) ho hP hW c2 d
    have x1 : xV V 0 m1 := xV_fr hx h12 c3 (fun K j k hK _ z => by unfold PV at z; omega)
    have x2 : xV V 0 m2 := xV_fr x1 h12 r7 (fun K j k hK _ z => by unfold PGs at z; omega)
    obtain ⟨m', e1, e2, e3⟩ := sx_odds_loop ho hP hW hdays hmany hseed z4 d r (k + 1) (u + gsU days (seed + k) V) (h + gsH days (seed + k) V) m2 (by omega) x2
    refine ⟨m', ?_, e2, ((QX_V1 c3).tr (r7.wk (fun K i j q z => by unfold QX SO; unfold PGs at z; omega))).tr e3⟩
    unfold sumW
    rw [← e1, l_X11_odds_53]
    simp (disch := omega) only [jg_lit, jg_litL, jg_m1, jg_m1L, nI_add, lN_add, pk_mul, jg_sub, jg_subM, jg_addM, jg_addM', jg_negM, jt_in, jt_ix, jt_bi, jt_bl, jt_bv, jt_lt, jg_dT, jg_dF, jt_c, jt_cd, ru_I, ru_L, jg_leI, jg_ltI, jg_eqI, jg_M1, jg_M2, jg_M3, jg_M4, jg_M5, jg_M6, jg_ltT, jg_ltF, jg_leT, jg_leF, jg_eqT, jg_eqF, cond_true, cond_false, ne_eq, not_true_eq_false, not_false_eq_true, decide_true, decide_false, if_true, if_false, and_true, true_and, and_false, false_and, or_true, true_or, or_false, false_or, Nat.reduceEqDiff, reduceIte, Nat.reduceMul, Nat.reduceAdd, Nat.reduceSub, Nat.add_zero, Nat.zero_add, Nat.mul_zero, eq_self_iff_true, jg_not_lt, jg_not_le, c1, r1, r2, r4]
theorem sm_odds_loop {V : Vl} (ho : okV V) (hP : 0 < vlP V) (hW : 0 < (vlW V).length) {seed many days : Nat} (hdays : days ≤ 60) (hmany : many ≤ 20) (hseed : seed ≤ 9999) (d : Nat) : ∀ (r k u h sy : Nat) (m : jm_M), k + r = many → mF V m → m.1 40 0 0 43 = nI u → m.1 40 0 0 44 = nI sy → m.1 40 0 0 42 = nI h → ∃ m', jm_ev false (d + 8) 11 2 jc_X12_odds 74 [vM, .inl (nI seed), .inl (nI many), .inl (nI days), .inl (nI k)] [] m = jm_ev false (d + 8) 11 2 jc_X12_odds 74 [vM, .inl (nI seed), .inl (nI many), .inl (nI days), .inl (nI many)] [] m' ∧ mF V m' ∧ m'.1 40 0 0 43 = nI (sumW (fun k => gsU days (seed + k) V) r k u) ∧ m'.1 40 0 0 42 = nI (sumW (fun k => gsH days (seed + k) V) r k h) ∧ fr PGm m m'
  | 0, k, u, h, sy, m, hr, hF, h0, h1, h2 => by
    have : k = many := by omega
    subst this
    exact ⟨m, rfl, hF, h0, h2, .rf⟩
  | r + 1, k, u, h, sy, m, hr, hF, h0, h1, h2 => by
    obtain ⟨m1, b1, b2, b3, b4, -, -, -, b8⟩ := sm_gossips ho hP hW hdays (show seed + k < 65536 by omega) hF h0 h1 h2 d
    obtain ⟨m', e1, e2, e3, e4, e5⟩ := sm_odds_loop ho hP hW hdays hmany hseed d r (k + 1) _ _ _ m1 (by omega) (mF_Gm hF ho b8) b2 b3 b4
    refine ⟨m', ?_, e2, e3, e4, b8.tr e5⟩
    rw [← e1, l_X12_odds_74]
    simp (disch := omega) only [jg_lit, jg_litL, jg_m1, jg_m1L, nI_add, lN_add, pk_mul, jg_sub, jg_subM, jg_addM, jg_addM', jg_negM, jt_in, jt_ix, jt_bi, jt_bl, jt_bv, jt_lt, jg_dT, jg_dF, jt_c, jt_cd, ru_I, ru_L, jg_leI, jg_ltI, jg_eqI, jg_M1, jg_M2, jg_M3, jg_M4, jg_M5, jg_M6, jg_ltT, jg_ltF, jg_leT, jg_leF, jg_eqT, jg_eqF, cond_true, cond_false, ne_eq, not_true_eq_false, not_false_eq_true, decide_true, decide_false, if_true, if_false, and_true, true_and, and_false, false_and, or_true, true_or, or_false, false_or, Nat.reduceEqDiff, reduceIte, Nat.reduceMul, Nat.reduceAdd, Nat.reduceSub, Nat.add_zero, Nat.zero_add, Nat.mul_zero, eq_self_iff_true, jg_not_lt, jg_not_le, b1]
theorem sx_refuseN (d n : Nat) (m : jm_M) : jm_sem false (d + 1) jn_X11_refuse [vX, .inl (nI n)] m = some (.inl (nI 0), jm_sI m 0 0 0 14 (nI n)) := e_X11_refuse d (nI n) m
theorem sm_isN {n : Nat} (h : 0 < n) (h2 : n < 2 ^ 31) (d : Nat) (m : jm_M) : jm_sem false (d + 1) jn_X12_is [vM, .inl (nI n)] m = some (.inl (nI 0), jm_sI m 40 0 0 2 (nI n)) := sm_is1 d (nI_ne0 h h2) m
theorem c_odds (x y z : Int32) : jcall jn_X11_odds jn_X12_odds [.inl x, .inl y, .inl z] := by
  intro s μ ho hx hm
  have h12 := ho.1.2.2.2.1.1
  have hp4 := ho.1.2.1
  have f1 : jm_sem false 98 jn_X12_isFrom [.inr (.inl x.toInt64), .inr (.inl (lN 0)), .inr (.inl (lN 9999))] μ = some (.inl (if x < nI 0 ∨ nI 9999 < x then nI 0 else nI 1), μ) := sm_isFromI (lo := 0) (hi := 9999) (by decide) (by decide) 97 x μ
  have f2 : jm_sem false 98 jn_X12_isFrom [.inr (.inl y.toInt64), .inr (.inl (lN 1)), .inr (.inl (lN 20))] μ = some (.inl (if y < nI 1 ∨ nI 20 < y then nI 0 else nI 1), μ) := sm_isFromI (lo := 1) (hi := 20) (by decide) (by decide) 97 y μ
  have f3 : jm_sem false 98 jn_X12_isFrom [.inr (.inl z.toInt64), .inr (.inl (lN 1)), .inr (.inl (lN 60))] μ = some (.inl (if z < nI 1 ∨ nI 60 < z then nI 0 else nI 1), μ) := sm_isFromI (lo := 1) (hi := 60) (by decide) (by decide) 97 z μ
  have i1 := sm_isN (n := 1) (by decide) (by decide) 97 μ
  have i6 := fun m => sm_isN (n := 6) (by decide) (by decide) 97 m
  rcases in_range y 1 20 (by decide) (by decide) with h | ⟨b, hb1, hb, rfl⟩
  · rw [if_pos h] at f2
    refine jcall_no ho hx hm 1 (v := .inl (nI 0)) ?_ ?_
    · rw [e_X11_odds]
      by_cases c : y < 1
      · rw [jt_dt c]; simp (disch := omega) only [jg_lit, jg_litL, jg_m1, jg_m1L, nI_add, lN_add, pk_mul, jg_sub, jg_subM, jg_addM, jg_addM', jg_negM, jt_in, jt_ix, jt_bi, jt_bl, jt_bv, jt_lt, jg_dT, jg_dF, jt_c, jt_cd, ru_I, ru_L, jg_leI, jg_ltI, jg_eqI, jg_M1, jg_M2, jg_M3, jg_M4, jg_M5, jg_M6, jg_ltT, jg_ltF, jg_leT, jg_leF, jg_eqT, jg_eqF, cond_true, cond_false, ne_eq, not_true_eq_false, not_false_eq_true, decide_true, decide_false, if_true, if_false, and_true, true_and, and_false, false_and, or_true, true_or, or_false, false_or, Nat.reduceEqDiff, reduceIte, Nat.reduceMul, Nat.reduceAdd, Nat.reduceSub, Nat.add_zero, Nat.zero_add, Nat.mul_zero, eq_self_iff_true, jg_not_lt, jg_not_le, sx_refuseN, a01]
      · rw [jt_df c, jt_dt (show (20 : Int32) < y from h.resolve_left c)]; simp (disch := omega) only [jg_lit, jg_litL, jg_m1, jg_m1L, nI_add, lN_add, pk_mul, jg_sub, jg_subM, jg_addM, jg_addM', jg_negM, jt_in, jt_ix, jt_bi, jt_bl, jt_bv, jt_lt, jg_dT, jg_dF, jt_c, jt_cd, ru_I, ru_L, jg_leI, jg_ltI, jg_eqI, jg_M1, jg_M2, jg_M3, jg_M4, jg_M5, jg_M6, jg_ltT, jg_ltF, jg_leT, jg_leF, jg_eqT, jg_eqF, cond_true, cond_false, ne_eq, not_true_eq_false, not_false_eq_true, decide_true, decide_false, if_true, if_false, and_true, true_and, and_false, false_and, or_true, true_or, or_false, false_or, Nat.reduceEqDiff, reduceIte, Nat.reduceMul, Nat.reduceAdd, Nat.reduceSub, Nat.add_zero, Nat.zero_add, Nat.mul_zero, eq_self_iff_true, jg_not_lt, jg_not_le, sx_refuseN, a01]
    · rw [e_X12_odds]
      by_cases c : x < nI 0 ∨ nI 9999 < x
      · rw [if_pos c] at f1; simp (disch := omega) only [jg_lit, jg_litL, jg_m1, jg_m1L, nI_add, lN_add, pk_mul, jg_sub, jg_subM, jg_addM, jg_addM', jg_negM, jt_in, jt_ix, jt_bi, jt_bl, jt_bv, jt_lt, jg_dT, jg_dF, jt_c, jt_cd, ru_I, ru_L, jg_leI, jg_ltI, jg_eqI, jg_M1, jg_M2, jg_M3, jg_M4, jg_M5, jg_M6, jg_ltT, jg_ltF, jg_leT, jg_leF, jg_eqT, jg_eqF, cond_true, cond_false, ne_eq, not_true_eq_false, not_false_eq_true, decide_true, decide_false, if_true, if_false, and_true, true_and, and_false, false_and, or_true, true_or, or_false, false_or, Nat.reduceEqDiff, reduceIte, Nat.reduceMul, Nat.reduceAdd, Nat.reduceSub, Nat.add_zero, Nat.zero_add, Nat.mul_zero, eq_self_iff_true, jg_not_lt, jg_not_le, f1, i1, a01]
      · rw [if_neg c] at f1; simp (disch := omega) only [jg_lit, jg_litL, jg_m1, jg_m1L, nI_add, lN_add, pk_mul, jg_sub, jg_subM, jg_addM, jg_addM', jg_negM, jt_in, jt_ix, jt_bi, jt_bl, jt_bv, jt_lt, jg_dT, jg_dF, jt_c, jt_cd, ru_I, ru_L, jg_leI, jg_ltI, jg_eqI, jg_M1, jg_M2, jg_M3, jg_M4, jg_M5, jg_M6, jg_ltT, jg_ltF, jg_leT, jg_leF, jg_eqT, jg_eqF, cond_true, cond_false, ne_eq, not_true_eq_false, not_false_eq_true, decide_true, decide_false, if_true, if_false, and_true, true_and, and_false, false_and, or_true, true_or, or_false, false_or, Nat.reduceEqDiff, reduceIte, Nat.reduceMul, Nat.reduceAdd, Nat.reduceSub, Nat.add_zero, Nat.zero_add, Nat.mul_zero, eq_self_iff_true, jg_not_lt, jg_not_le, f1, f2, i1, a01]
  · rw [if_neg (fun z => by
      rcases z with z | z
      · exact nI_nlt hb1 (by omega) z
      · exact nI_nlt hb (by omega) z)] at f2
    rcases in_range x 0 9999 (by decide) (by decide) with h | ⟨a, -, ha, rfl⟩
    · rw [if_pos h] at f1
      have w := sx_wrongG1 (y := z) (Or.inl h) 97 μ
      refine jcall_no ho hx hm 1 (v := .inl (nI 0)) ?_ ?_
      · rw [e_X11_odds]
        by_cases c : x ≤ (10000 : Int32) - nI b
        · rw [jt_dt c]; simp (disch := omega) only [jg_lit, jg_litL, jg_m1, jg_m1L, nI_add, lN_add, pk_mul, jg_sub, jg_subM, jg_addM, jg_addM', jg_negM, jt_in, jt_ix, jt_bi, jt_bl, jt_bv, jt_lt, jg_dT, jg_dF, jt_c, jt_cd, ru_I, ru_L, jg_leI, jg_ltI, jg_eqI, jg_M1, jg_M2, jg_M3, jg_M4, jg_M5, jg_M6, jg_ltT, jg_ltF, jg_leT, jg_leF, jg_eqT, jg_eqF, cond_true, cond_false, ne_eq, not_true_eq_false, not_false_eq_true, decide_true, decide_false, if_true, if_false, and_true, true_and, and_false, false_and, or_true, true_or, or_false, false_or, Nat.reduceEqDiff, reduceIte, Nat.reduceMul, Nat.reduceAdd, Nat.reduceSub, Nat.add_zero, Nat.zero_add, Nat.mul_zero, eq_self_iff_true, jg_not_lt, jg_not_le, w, sx_refuseN, a01]
        · rw [jt_df c]; simp (disch := omega) only [jg_lit, jg_litL, jg_m1, jg_m1L, nI_add, lN_add, pk_mul, jg_sub, jg_subM, jg_addM, jg_addM', jg_negM, jt_in, jt_ix, jt_bi, jt_bl, jt_bv, jt_lt, jg_dT, jg_dF, jt_c, jt_cd, ru_I, ru_L, jg_leI, jg_ltI, jg_eqI, jg_M1, jg_M2, jg_M3, jg_M4, jg_M5, jg_M6, jg_ltT, jg_ltF, jg_leT, jg_leF, jg_eqT, jg_eqF, cond_true, cond_false, ne_eq, not_true_eq_false, not_false_eq_true, decide_true, decide_false, if_true, if_false, and_true, true_and, and_false, false_and, or_true, true_or, or_false, false_or, Nat.reduceEqDiff, reduceIte, Nat.reduceMul, Nat.reduceAdd, Nat.reduceSub, Nat.add_zero, Nat.zero_add, Nat.mul_zero, eq_self_iff_true, jg_not_lt, jg_not_le, sx_refuseN, a01]
      · rw [e_X12_odds]; simp (disch := omega) only [jg_lit, jg_litL, jg_m1, jg_m1L, nI_add, lN_add, pk_mul, jg_sub, jg_subM, jg_addM, jg_addM', jg_negM, jt_in, jt_ix, jt_bi, jt_bl, jt_bv, jt_lt, jg_dT, jg_dF, jt_c, jt_cd, ru_I, ru_L, jg_leI, jg_ltI, jg_eqI, jg_M1, jg_M2, jg_M3, jg_M4, jg_M5, jg_M6, jg_ltT, jg_ltF, jg_leT, jg_leF, jg_eqT, jg_eqF, cond_true, cond_false, ne_eq, not_true_eq_false, not_false_eq_true, decide_true, decide_false, if_true, if_false, and_true, true_and, and_false, false_and, or_true, true_or, or_false, false_or, Nat.reduceEqDiff, reduceIte, Nat.reduceMul, Nat.reduceAdd, Nat.reduceSub, Nat.add_zero, Nat.zero_add, Nat.mul_zero, eq_self_iff_true, jg_not_lt, jg_not_le, f1, i1, a01]
    · rw [if_neg (fun z => by
        rcases z with z | z
        · exact nI_nlt (Nat.zero_le _) (by omega) z
        · exact nI_nlt ha (by omega) z)] at f1
      by_cases cs : a + b - 1 ≤ 9999
      · rcases in_range z 1 60 (by decide) (by decide) with h | ⟨e, he1, he, rfl⟩
        · rw [if_pos h] at f3
          have w := sx_wrongG1 (x := nI a) (Or.inr h) 97 μ
          refine jcall_no ho hx hm 1 (v := .inl (nI 0)) ?_ ?_
          · rw [e_X11_odds]; simp (disch := omega) only [jg_lit, jg_litL, jg_m1, jg_m1L, nI_add, lN_add, pk_mul, jg_sub, jg_subM, jg_addM, jg_addM', jg_negM, jt_in, jt_ix, jt_bi, jt_bl, jt_bv, jt_lt, jg_dT, jg_dF, jt_c, jt_cd, ru_I, ru_L, jg_leI, jg_ltI, jg_eqI, jg_M1, jg_M2, jg_M3, jg_M4, jg_M5, jg_M6, jg_ltT, jg_ltF, jg_leT, jg_leF, jg_eqT, jg_eqF, cond_true, cond_false, ne_eq, not_true_eq_false, not_false_eq_true, decide_true, decide_false, if_true, if_false, and_true, true_and, and_false, false_and, or_true, true_or, or_false, false_or, Nat.reduceEqDiff, reduceIte, Nat.reduceMul, Nat.reduceAdd, Nat.reduceSub, Nat.add_zero, Nat.zero_add, Nat.mul_zero, eq_self_iff_true, jg_not_lt, jg_not_le, w, sx_refuseN, a01]
          · rw [e_X12_odds]; simp (disch := omega) only [jg_lit, jg_litL, jg_m1, jg_m1L, nI_add, lN_add, pk_mul, jg_sub, jg_subM, jg_addM, jg_addM', jg_negM, jt_in, jt_ix, jt_bi, jt_bl, jt_bv, jt_lt, jg_dT, jg_dF, jt_c, jt_cd, ru_I, ru_L, jg_leI, jg_ltI, jg_eqI, jg_M1, jg_M2, jg_M3, jg_M4, jg_M5, jg_M6, jg_ltT, jg_ltF, jg_leT, jg_leF, jg_eqT, jg_eqF, cond_true, cond_false, ne_eq, not_true_eq_false, not_false_eq_true, decide_true, decide_false, if_true, if_false, and_true, true_and, and_false, false_and, or_true, true_or, or_false, false_or, Nat.reduceEqDiff, reduceIte, Nat.reduceMul, Nat.reduceAdd, Nat.reduceSub, Nat.add_zero, Nat.zero_add, Nat.mul_zero, eq_self_iff_true, jg_not_lt, jg_not_le, f1, f2, f3, i1, a01]
        · rw [if_neg (fun z => by
            rcases z with z | z
            · exact nI_nlt he1 (by omega) z
            · exact nI_nlt he (by omega) z)] at f3
          have w := sx_wrongG hx.1.1 ho.1 ha he1 he 97
          have cg := sm_canGossip hm.1.1 ho.1 97
          by_cases c : vlP (aV s) = 0 ∨ (vlW (aV s)).length = 0
          · rw [if_pos c] at w cg
            refine jcall_no ho hx hm 6 (v := .inl (nI 0)) ?_ ?_
            · rw [e_X11_odds]; simp (disch := omega) only [jg_lit, jg_litL, jg_m1, jg_m1L, nI_add, lN_add, pk_mul, jg_sub, jg_subM, jg_addM, jg_addM', jg_negM, jt_in, jt_ix, jt_bi, jt_bl, jt_bv, jt_lt, jg_dT, jg_dF, jt_c, jt_cd, ru_I, ru_L, jg_leI, jg_ltI, jg_eqI, jg_M1, jg_M2, jg_M3, jg_M4, jg_M5, jg_M6, jg_ltT, jg_ltF, jg_leT, jg_leF, jg_eqT, jg_eqF, cond_true, cond_false, ne_eq, not_true_eq_false, not_false_eq_true, decide_true, decide_false, if_true, if_false, and_true, true_and, and_false, false_and, or_true, true_or, or_false, false_or, Nat.reduceEqDiff, reduceIte, Nat.reduceMul, Nat.reduceAdd, Nat.reduceSub, Nat.add_zero, Nat.zero_add, Nat.mul_zero, eq_self_iff_true, jg_not_lt, jg_not_le, w, sx_refuseN, a01]
            · rw [e_X12_odds]; simp (disch := omega) only [jg_lit, jg_litL, jg_m1, jg_m1L, nI_add, lN_add, pk_mul, jg_sub, jg_subM, jg_addM, jg_addM', jg_negM, jt_in, jt_ix, jt_bi, jt_bl, jt_bv, jt_lt, jg_dT, jg_dF, jt_c, jt_cd, ru_I, ru_L, jg_leI, jg_ltI, jg_eqI, jg_M1, jg_M2, jg_M3, jg_M4, jg_M5, jg_M6, jg_ltT, jg_ltF, jg_leT, jg_leF, jg_eqT, jg_eqF, cond_true, cond_false, ne_eq, not_true_eq_false, not_false_eq_true, decide_true, decide_false, if_true, if_false, and_true, true_and, and_false, false_and, or_true, true_or, or_false, false_or, Nat.reduceEqDiff, reduceIte, Nat.reduceMul, Nat.reduceAdd, Nat.reduceSub, Nat.add_zero, Nat.zero_add, Nat.mul_zero, eq_self_iff_true, jg_not_lt, jg_not_le, f1, f2, f3, cg, i6, a01]
          · rw [if_neg c] at w cg
            have hP : 0 < vlP (aV s) := by omega
            have hW : 0 < (vlW (aV s)).length := by omega
            obtain ⟨m1, o1, o2, o3⟩ := sx_odds_loop ho.1 hP hW he hb ha (.inl (nI 0)) 91 b 0 0 0 μ (by omega) hx.1
            have F0 : mF (aV s) (jm_sI (jm_sI (jm_sI μ 40 0 0 42 0) 40 0 0 43 0) 40 0 0 44 0) := mF_k hm.1 ho.1 (fun k _ => by simp (disch := omega) only [jg_lit, jg_litL, jg_m1, jg_m1L, nI_add, lN_add, pk_mul, jg_sub, jg_subM, jg_addM, jg_addM', jg_negM, jt_in, jt_ix, jt_bi, jt_bl, jt_bv, jt_lt, jg_dT, jg_dF, jt_c, jt_cd, ru_I, ru_L, jg_leI, jg_ltI, jg_eqI, jg_M1, jg_M2, jg_M3, jg_M4, jg_M5, jg_M6, jg_ltT, jg_ltF, jg_leT, jg_leF, jg_eqT, jg_eqF, cond_true, cond_false, ne_eq, not_true_eq_false, not_false_eq_true, decide_true, decide_false, if_true, if_false, and_true, true_and, and_false, false_and, or_true, true_or, or_false, false_or, Nat.reduceEqDiff, reduceIte, Nat.reduceMul, Nat.reduceAdd, Nat.reduceSub, Nat.add_zero, Nat.zero_add, Nat.mul_zero, eq_self_iff_true, jg_not_lt, jg_not_le]) (fun k _ => rfl)
            obtain ⟨n1, p1, p2, p3, p4, p5⟩ := sm_odds_loop ho.1 hP hW he hb ha 90 b 0 0 0 0 _ (by omega) F0 (by simp (disch := omega) only [jg_lit, jg_litL, jg_m1, jg_m1L, nI_add, lN_add, pk_mul, jg_sub, jg_subM, jg_addM, jg_addM', jg_negM, jt_in, jt_ix, jt_bi, jt_bl, jt_bv, jt_lt, jg_dT, jg_dF, jt_c, jt_cd, ru_I, ru_L, jg_leI, jg_ltI, jg_eqI, jg_M1, jg_M2, jg_M3, jg_M4, jg_M5, jg_M6, jg_ltT, jg_ltF, jg_leT, jg_leF, jg_eqT, jg_eqF, cond_true, cond_false, ne_eq, not_true_eq_false, not_false_eq_true, decide_true, decide_false, if_true, if_false, and_true, true_and, and_false, false_and, or_true, true_or, or_false, false_or, Nat.reduceEqDiff, reduceIte, Nat.reduceMul, Nat.reduceAdd, Nat.reduceSub, Nat.add_zero, Nat.zero_add, Nat.mul_zero, eq_self_iff_true, jg_not_lt, jg_not_le]) (by simp (disch := omega) only [jg_lit, jg_litL, jg_m1, jg_m1L, nI_add, lN_add, pk_mul, jg_sub, jg_subM, jg_addM, jg_addM', jg_negM, jt_in, jt_ix, jt_bi, jt_bl, jt_bv, jt_lt, jg_dT, jg_dF, jt_c, jt_cd, ru_I, ru_L, jg_leI, jg_ltI, jg_eqI, jg_M1, jg_M2, jg_M3, jg_M4, jg_M5, jg_M6, jg_ltT, jg_ltF, jg_leT, jg_leF, jg_eqT, jg_eqF, cond_true, cond_false, ne_eq, not_true_eq_false, not_false_eq_true, decide_true, decide_false, if_true, if_false, and_true, true_and, and_false, false_and, or_true, true_or, or_false, false_or, Nat.reduceEqDiff, reduceIte, Nat.reduceMul, Nat.reduceAdd, Nat.reduceSub, Nat.add_zero, Nat.zero_add, Nat.mul_zero, eq_self_iff_true, jg_not_lt, jg_not_le]) (by simp (disch := omega) only [jg_lit, jg_litL, jg_m1, jg_m1L, nI_add, lN_add, pk_mul, jg_sub, jg_subM, jg_addM, jg_addM', jg_negM, jt_in, jt_ix, jt_bi, jt_bl, jt_bv, jt_lt, jg_dT, jg_dF, jt_c, jt_cd, ru_I, ru_L, jg_leI, jg_ltI, jg_eqI, jg_M1, jg_M2, jg_M3, jg_M4, jg_M5, jg_M6, jg_ltT, jg_ltF, jg_leT, jg_leF, jg_eqT, jg_eqF, cond_true, cond_false, ne_eq, not_true_eq_false, not_false_eq_true, decide_true, decide_false, if_true, if_false, and_true, true_and, and_false, false_and, or_true, true_or, or_false, false_or, Nat.reduceEqDiff, reduceIte, Nat.reduceMul, Nat.reduceAdd, Nat.reduceSub, Nat.add_zero, Nat.zero_add, Nat.mul_zero, eq_self_iff_true, jg_not_lt, jg_not_le])
            have hU := sumW_le (f := fun k => gsU e (a + k) (aV s)) (B := 12 * e) (fun k => gsU_le e (a + k) (aV s)) b 0 0
            have hH := sumW_le (f := fun k => gsH e (a + k) (aV s)) (B := 4 * e) (fun k => gsH_le e (a + k) (aV s) hp4) b 0 0
            generalize hu : sumW (fun k => gsU e (a + k) (aV s)) b 0 0 = u at *
            generalize hh : sumW (fun k => gsH e (a + k) (aV s)) b 0 0 = h at *
            have hU2 : u ≤ 14400 := by
              have : 12 * e * b ≤ 12 * 60 * 20 := Nat.mul_le_mul (by omega) hb
              omega
            have hH2 : h ≤ 4800 := by
              have : 4 * e * b ≤ 4 * 60 * 20 := Nat.mul_le_mul (by omega) hb
              omega
            have fm : fr QM μ n1 := by
              refine fr.tr ?_ (p5.wk (fun K i j k z => by unfold QM SM; unfold PGm at z; omega))
              exact fr_sI (fr_sI (fr_I (by unfold QM SM; omega)) (by unfold QM SM; omega)) (by unfold QM SM; omega)
            have hz : nI 10000 - nI b = nI (10000 - b) := jg_sub (by omega)
            have p1' : ∀ v, jm_ev false 98 11 2 jc_X12_odds 74 [vM, .inl (nI a), .inl (nI b), .inl (nI e), .inl (nI b)] [] n1 = v → jm_sem false 99 jn_X12_odds [vM, .inl (nI a), .inl (nI b), .inl (nI e)] μ = v := fun v hv => by
              rw [e_X12_odds]
              simp (disch := omega) only [jg_lit, jg_litL, jg_m1, jg_m1L, nI_add, lN_add, pk_mul, jg_sub, jg_subM, jg_addM, jg_addM', jg_negM, jt_in, jt_ix, jt_bi, jt_bl, jt_bv, jt_lt, jg_dT, jg_dF, jt_c, jt_cd, ru_I, ru_L, jg_leI, jg_ltI, jg_eqI, jg_M1, jg_M2, jg_M3, jg_M4, jg_M5, jg_M6, jg_ltT, jg_ltF, jg_leT, jg_leF, jg_eqT, jg_eqF, cond_true, cond_false, ne_eq, not_true_eq_false, not_false_eq_true, decide_true, decide_false, if_true, if_false, and_true, true_and, and_false, false_and, or_true, true_or, or_false, false_or, Nat.reduceEqDiff, reduceIte, Nat.reduceMul, Nat.reduceAdd, Nat.reduceSub, Nat.add_zero, Nat.zero_add, Nat.mul_zero, eq_self_iff_true, jg_not_lt, jg_not_le, f1, f2, f3, cg, e_X12_begins0]
              exact p1.trans hv
            have o1' : ∀ v, jm_ev false 98 10 2 jc_X11_odds 53 [vX, .inl (nI a), .inl (nI b), .inl (nI e), .inl (nI 0), .inl (nI u), .inl (nI h), .inl (nI b)] [] m1 = v → jm_sem false 99 jn_X11_odds [vX, .inl (nI a), .inl (nI b), .inl (nI e)] μ = v := fun v hv => by
              rw [e_X11_odds]
              simp (disch := omega) only [jg_lit, jg_litL, jg_m1, jg_m1L, nI_add, lN_add, pk_mul, jg_sub, jg_subM, jg_addM, jg_addM', jg_negM, jt_in, jt_ix, jt_bi, jt_bl, jt_bv, jt_lt, jg_dT, jg_dF, jt_c, jt_cd, ru_I, ru_L, jg_leI, jg_ltI, jg_eqI, jg_M1, jg_M2, jg_M3, jg_M4, jg_M5, jg_M6, jg_ltT, jg_ltF, jg_leT, jg_leF, jg_eqT, jg_eqF, cond_true, cond_false, ne_eq, not_true_eq_false, not_false_eq_true, decide_true, decide_false, if_true, if_false, and_true, true_and, and_false, false_and, or_true, true_or, or_false, false_or, Nat.reduceEqDiff, reduceIte, Nat.reduceMul, Nat.reduceAdd, Nat.reduceSub, Nat.add_zero, Nat.zero_add, Nat.mul_zero, eq_self_iff_true, jg_not_lt, jg_not_le, w]
              exact o1.trans hv
            by_cases c0 : h = 0
            · refine jcall_V ho hx hm ho.1 6 (v := .inl (nI 0)) o2 o3 p2 fm (o1' _ ?_) (p1' _ ?_)
              · rw [l_X11_odds_53]; simp (disch := omega) only [jg_lit, jg_litL, jg_m1, jg_m1L, nI_add, lN_add, pk_mul, jg_sub, jg_subM, jg_addM, jg_addM', jg_negM, jt_in, jt_ix, jt_bi, jt_bl, jt_bv, jt_lt, jg_dT, jg_dF, jt_c, jt_cd, ru_I, ru_L, jg_leI, jg_ltI, jg_eqI, jg_M1, jg_M2, jg_M3, jg_M4, jg_M5, jg_M6, jg_ltT, jg_ltF, jg_leT, jg_leF, jg_eqT, jg_eqF, cond_true, cond_false, ne_eq, not_true_eq_false, not_false_eq_true, decide_true, decide_false, if_true, if_false, and_true, true_and, and_false, false_and, or_true, true_or, or_false, false_or, Nat.reduceEqDiff, reduceIte, Nat.reduceMul, Nat.reduceAdd, Nat.reduceSub, Nat.add_zero, Nat.zero_add, Nat.mul_zero, eq_self_iff_true, jg_not_lt, jg_not_le, c0, sx_refuseN, a01]
              · rw [l_X12_odds_74]; simp (disch := omega) only [jg_lit, jg_litL, jg_m1, jg_m1L, nI_add, lN_add, pk_mul, jg_sub, jg_subM, jg_addM, jg_addM', jg_negM, jt_in, jt_ix, jt_bi, jt_bl, jt_bv, jt_lt, jg_dT, jg_dF, jt_c, jt_cd, ru_I, ru_L, jg_leI, jg_ltI, jg_eqI, jg_M1, jg_M2, jg_M3, jg_M4, jg_M5, jg_M6, jg_ltT, jg_ltF, jg_leT, jg_leF, jg_eqT, jg_eqF, cond_true, cond_false, ne_eq, not_true_eq_false, not_false_eq_true, decide_true, decide_false, if_true, if_false, and_true, true_and, and_false, false_and, or_true, true_or, or_false, false_or, Nat.reduceEqDiff, reduceIte, Nat.reduceMul, Nat.reduceAdd, Nat.reduceSub, Nat.add_zero, Nat.zero_add, Nat.mul_zero, eq_self_iff_true, jg_not_lt, jg_not_le, p4, c0, i6, a01]
            · have hg : 0 < Nat.gcd u h := Nat.gcd_pos_of_pos_right _ (by omega)
              have tf := sx_frac_loop (show u < 2 ^ 31 by omega) (show h < 2 ^ 31 by omega) hg 97 m1 14 h u 0 jm_j (by omega) (by decide) (by omega) (by decide) (Nat.gcd_comm h u)
              have tb := sm_by_loop (show u < 2 ^ 31 by omega) (show h < 2 ^ 31 by omega) hg 96 n1 (2 ^ 31) u h jm_j jm_j (by omega) (Nat.le_refl _) (by omega) rfl
              have l1 : (nI u).toInt64 = lN u := nI_l (by omega)
              have l2 : (nI h).toInt64 = lN h := nI_l (by omega)
              have x1 := xO_fr hx.2 ho o3
              have y1 := mO_fr hm.2 ho fm
              refine ⟨.inl (nI 1), stF s (lN (u / Nat.gcd u h), lN (h / Nat.gcd u h)) 0, jm_sI (jm_sL (jm_sL m1 0 0 0 18 (lN (u / Nat.gcd u h))) 0 0 0 19 (lN (h / Nat.gcd u h))) 0 0 0 14 0, jm_sI (jm_sL (jm_sL n1 40 0 0 3 (lN (u / Nat.gcd u h))) 40 0 0 4 (lN (h / Nat.gcd u h))) 40 0 0 2 0, ⟨ho.1, ho.2⟩, o1' _ ?_, p1' _ ?_, ⟨xV_st (xV_F o2 _ _) 0, ?_⟩, ⟨mF_st (mF_k (μ' := jm_sL (jm_sL n1 40 0 0 3 (lN (u / Nat.gcd u h))) 40 0 0 4 (lN (h / Nat.gcd u h))) p2 ho.1 (fun k _ => rfl) (fun k _ => by rw [rd_LL, if_neg (by omega), rd_LL, if_neg (by omega)])) ho.1 0, ?_⟩⟩
              · rw [l_X11_odds_53]
                simp (disch := omega) only [jg_lit, jg_litL, jg_m1, jg_m1L, nI_add, lN_add, pk_mul, jg_sub, jg_subM, jg_addM, jg_addM', jg_negM, jt_in, jt_ix, jt_bi, jt_bl, jt_bv, jt_lt, jg_dT, jg_dF, jt_c, jt_cd, ru_I, ru_L, jg_leI, jg_ltI, jg_eqI, jg_M1, jg_M2, jg_M3, jg_M4, jg_M5, jg_M6, jg_ltT, jg_ltF, jg_leT, jg_leF, jg_eqT, jg_eqF, cond_true, cond_false, ne_eq, not_true_eq_false, not_false_eq_true, decide_true, decide_false, if_true, if_false, and_true, true_and, and_false, false_and, or_true, true_or, or_false, false_or, Nat.reduceEqDiff, reduceIte, Nat.reduceMul, Nat.reduceAdd, Nat.reduceSub, Nat.add_zero, Nat.zero_add, Nat.mul_zero, eq_self_iff_true, jg_not_lt, jg_not_le, e_X11_tellFraction]
                rw [tf]
                simp (disch := omega) only [jg_lit, jg_litL, jg_m1, jg_m1L, nI_add, lN_add, pk_mul, jg_sub, jg_subM, jg_addM, jg_addM', jg_negM, jt_in, jt_ix, jt_bi, jt_bl, jt_bv, jt_lt, jg_dT, jg_dF, jt_c, jt_cd, ru_I, ru_L, jg_leI, jg_ltI, jg_eqI, jg_M1, jg_M2, jg_M3, jg_M4, jg_M5, jg_M6, jg_ltT, jg_ltF, jg_leT, jg_leF, jg_eqT, jg_eqF, cond_true, cond_false, ne_eq, not_true_eq_false, not_false_eq_true, decide_true, decide_false, if_true, if_false, and_true, true_and, and_false, false_and, or_true, true_or, or_false, false_or, Nat.reduceEqDiff, reduceIte, Nat.reduceMul, Nat.reduceAdd, Nat.reduceSub, Nat.add_zero, Nat.zero_add, Nat.mul_zero, eq_self_iff_true, jg_not_lt, jg_not_le, e_X11_allow, a11]
              · rw [l_X12_odds_74]
                simp (disch := omega) only [jg_lit, jg_litL, jg_m1, jg_m1L, nI_add, lN_add, pk_mul, jg_sub, jg_subM, jg_addM, jg_addM', jg_negM, jt_in, jt_ix, jt_bi, jt_bl, jt_bv, jt_lt, jg_dT, jg_dF, jt_c, jt_cd, ru_I, ru_L, jg_leI, jg_ltI, jg_eqI, jg_M1, jg_M2, jg_M3, jg_M4, jg_M5, jg_M6, jg_ltT, jg_ltF, jg_leT, jg_leF, jg_eqT, jg_eqF, cond_true, cond_false, ne_eq, not_true_eq_false, not_false_eq_true, decide_true, decide_false, if_true, if_false, and_true, true_and, and_false, false_and, or_true, true_or, or_false, false_or, Nat.reduceEqDiff, reduceIte, Nat.reduceMul, Nat.reduceAdd, Nat.reduceSub, Nat.add_zero, Nat.zero_add, Nat.mul_zero, eq_self_iff_true, jg_not_lt, jg_not_le, p4, p3, l1, l2, e_X12_tellsBy]
                rw [tb]
                simp (disch := omega) only [jg_lit, jg_litL, jg_m1, jg_m1L, nI_add, lN_add, pk_mul, jg_sub, jg_subM, jg_addM, jg_addM', jg_negM, jt_in, jt_ix, jt_bi, jt_bl, jt_bv, jt_lt, jg_dT, jg_dF, jt_c, jt_cd, ru_I, ru_L, jg_leI, jg_ltI, jg_eqI, jg_M1, jg_M2, jg_M3, jg_M4, jg_M5, jg_M6, jg_ltT, jg_ltF, jg_leT, jg_leF, jg_eqT, jg_eqF, cond_true, cond_false, ne_eq, not_true_eq_false, not_false_eq_true, decide_true, decide_false, if_true, if_false, and_true, true_and, and_false, false_and, or_true, true_or, or_false, false_or, Nat.reduceEqDiff, reduceIte, Nat.reduceMul, Nat.reduceAdd, Nat.reduceSub, Nat.add_zero, Nat.zero_add, Nat.mul_zero, eq_self_iff_true, jg_not_lt, jg_not_le, a11]
              · exact xO_st (s := stF s (lN (u / Nat.gcd u h), lN (h / Nat.gcd u h)) (aS s)) (xO_F x1 _ _) ⟨ho.1, ho.2⟩ (aV s) 0
              · exact mO_st (s := stF s (lN (u / Nat.gcd u h), lN (h / Nat.gcd u h)) (aS s)) (mO_F y1 _ _) (aV s) 0
      · have hz : nI 10000 - nI b = nI (10000 - b) := jg_sub (by omega)
        refine jcall_no ho hx hm 1 (v := .inl (nI 0)) ?_ ?_
        · rw [e_X11_odds]; simp (disch := omega) only [jg_lit, jg_litL, jg_m1, jg_m1L, nI_add, lN_add, pk_mul, jg_sub, jg_subM, jg_addM, jg_addM', jg_negM, jt_in, jt_ix, jt_bi, jt_bl, jt_bv, jt_lt, jg_dT, jg_dF, jt_c, jt_cd, ru_I, ru_L, jg_leI, jg_ltI, jg_eqI, jg_M1, jg_M2, jg_M3, jg_M4, jg_M5, jg_M6, jg_ltT, jg_ltF, jg_leT, jg_leF, jg_eqT, jg_eqF, cond_true, cond_false, ne_eq, not_true_eq_false, not_false_eq_true, decide_true, decide_false, if_true, if_false, and_true, true_and, and_false, false_and, or_true, true_or, or_false, false_or, Nat.reduceEqDiff, reduceIte, Nat.reduceMul, Nat.reduceAdd, Nat.reduceSub, Nat.add_zero, Nat.zero_add, Nat.mul_zero, eq_self_iff_true, jg_not_lt, jg_not_le, sx_refuseN, a01]
        · rw [e_X12_odds]; simp (disch := omega) only [jg_lit, jg_litL, jg_m1, jg_m1L, nI_add, lN_add, pk_mul, jg_sub, jg_subM, jg_addM, jg_addM', jg_negM, jt_in, jt_ix, jt_bi, jt_bl, jt_bv, jt_lt, jg_dT, jg_dF, jt_c, jt_cd, ru_I, ru_L, jg_leI, jg_ltI, jg_eqI, jg_M1, jg_M2, jg_M3, jg_M4, jg_M5, jg_M6, jg_ltT, jg_ltF, jg_leT, jg_leF, jg_eqT, jg_eqF, cond_true, cond_false, ne_eq, not_true_eq_false, not_false_eq_true, decide_true, decide_false, if_true, if_false, and_true, true_and, and_false, false_and, or_true, true_or, or_false, false_or, Nat.reduceEqDiff, reduceIte, Nat.reduceMul, Nat.reduceAdd, Nat.reduceSub, Nat.add_zero, Nat.zero_add, Nat.mul_zero, eq_self_iff_true, jg_not_lt, jg_not_le, f1, f2, i1, a01]
