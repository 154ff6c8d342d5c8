/-! ===== common: the reference ===== -/
def P52 (K _i _j _k : Nat) : Prop := K = 52
theorem mR_52 {ls : List Nat} {b : Nat} {μ : jm_M} (h : mR ls b μ) (k : Nat) (x : Int32) : mR ls b (jm_sI μ 52 0 0 k x) := mR_cp h (fun q _ => by rw [rd_II, if_neg (by omega)])
theorem sm_common_in {a b : List Nat} (oa : okL a) (ob : okL b) {b1 b2 : Nat} (q1 : b1 + 9 ≤ 8600) (q2 : b2 + 9 ≤ 8600) {i : Nat} (hi : i ≤ a.length) (z1 z2 : jm_V) (d : Nat) : ∀ (r k : Nat) (m : jm_M), k + r = b.length + 1 → mR a b1 m → mR b b2 m → (∀ p q, p < i → q ≤ b.length → m.1 52 0 0 (9 * p + q) = nI (lcT a b p q)) → (∀ q, q < k → m.1 52 0 0 (9 * i + q) = nI (lcT a b i q)) → ∃ m' z6', jm_ev false (d + 1) 11 1 jc_X12_common 78 [vM, z1, z2, .inl (nI b1), .inl (nI b2), .inl (nI i), .inl (nI k)] [] m = jm_ev false (d + 1) 11 1 jc_X12_common 64 [vM, z1, z2, .inl (nI b1), .inl (nI b2), .inl (nI (i + 1)), z6'] [] m' ∧ (∀ p q, p < i + 1 → q ≤ b.length → m'.1 52 0 0 (9 * p + q) = nI (lcT a b p q)) ∧ fr P52 m m'
  | 0, k, m, hr, ra, rb, h1, h2 => by
    have a8 := ra.1
    have b8 := rb.1
    have lb := rb.2.1
    refine ⟨m, .inl (nI k), ?_, fun p q hp hq => ?_, .rf⟩
    · rw [l_X12_common_78]
      simp (disch := omega) only [jg_lit, jg_litL, jg_m1, jg_m1L, nI_add, lN_add, pk_mul, jg_sub, jg_subM, jg_addM, jg_addM', jg_negM, jt_in, jt_ix, jt_bi, jt_bl, jt_bv, jt_lt, jg_dT, jg_dF, jt_c, jt_cd, ru_I, ru_L, jg_leI, jg_ltI, jg_eqI, jg_M1, jg_M2, jg_M3, jg_M4, jg_M5, jg_M6, jg_ltT, jg_ltF, jg_leT, jg_leF, jg_eqT, jg_eqF, cond_true, cond_false, ne_eq, not_true_eq_false, not_false_eq_true, decide_true, decide_false, if_true, if_false, and_true, true_and, and_false, false_and, or_true, true_or, or_false, false_or, Nat.reduceEqDiff, reduceIte, Nat.reduceMul, Nat.reduceAdd, Nat.reduceSub, Nat.add_zero, Nat.zero_add, Nat.mul_zero, eq_self_iff_true, jg_not_lt, jg_not_le, lb]
    · by_cases e : p = i
      · rw [e]; exact h2 q (by omega)
      · exact h1 p q (by omega) hq
  | r + 1, k, m, hr, ra, rb, h1, h2 => by
    have a8 := ra.1
    have b8 := rb.1
    have lb := rb.2.1
    have ih := sm_common_in oa ob q1 q2 hi z1 z2 d r (k + 1) (jm_sI m 52 0 0 (9 * i + k) (nI (lcT a b i k))) (by omega) (mR_52 ra _ _) (mR_52 rb _ _) (fun p q hp hq => by rw [rd_II, if_neg (by omega)]; exact h1 p q hp hq) (fun q hq => by
      rw [rd_II]
      by_cases e : q = k
      · rw [if_pos ⟨rfl, rfl, rfl, by omega⟩, e]
      · rw [if_neg (by omega)]; exact h2 q (by omega))
    obtain ⟨m', z6', e1, e2, e3⟩ := ih
    refine ⟨m', z6', ?_, e2, (fr_I (rfl : P52 52 0 0 (9 * i + k))).tr e3⟩
    rw [← e1, l_X12_common_78]
    by_cases c0 : i = 0
    · subst c0
      show _ = jm_ev false (d + 1) 11 1 jc_X12_common 78 _ [] (jm_sI m 52 0 0 (9 * 0 + k) (nI 0))
      simp (disch := omega) only [jg_lit, jg_litL, jg_m1, jg_m1L, nI_add, lN_add, pk_mul, jg_sub, jg_subM, jg_addM, jg_addM', jg_negM, jt_in, jt_ix, jt_bi, jt_bl, jt_bv, jt_lt, jg_dT, jg_dF, jt_c, jt_cd, ru_I, ru_L, jg_leI, jg_ltI, jg_eqI, jg_M1, jg_M2, jg_M3, jg_M4, jg_M5, jg_M6, jg_ltT, jg_ltF, jg_leT, jg_leF, jg_eqT, jg_eqF, cond_true, cond_false, ne_eq, not_true_eq_false, not_false_eq_true, decide_true, decide_false, if_true, if_false, and_true, true_and, and_false, false_and, or_true, true_or, or_false, false_or, Nat.reduceEqDiff, reduceIte, Nat.reduceMul, Nat.reduceAdd, Nat.reduceSub, Nat.add_zero, Nat.zero_add, Nat.mul_zero, eq_self_iff_true, jg_not_lt, jg_not_le, lb]
    · by_cases c1 : k = 0
      · subst c1
        rw [lcT_0]
        simp (disch := omega) only [jg_lit, jg_litL, jg_m1, jg_m1L, nI_add, lN_add, pk_mul, jg_sub, jg_subM, jg_addM, jg_addM', jg_negM, jt_in, jt_ix, jt_bi, jt_bl, jt_bv, jt_lt, jg_dT, jg_dF, jt_c, jt_cd, ru_I, ru_L, jg_leI, jg_ltI, jg_eqI, jg_M1, jg_M2, jg_M3, jg_M4, jg_M5, jg_M6, jg_ltT, jg_ltF, jg_leT, jg_leF, jg_eqT, jg_eqF, cond_true, cond_false, ne_eq, not_true_eq_false, not_false_eq_true, decide_true, decide_false, if_true, if_false, and_true, true_and, and_false, false_and, or_true, true_or, or_false, false_or, Nat.reduceEqDiff, reduceIte, Nat.reduceMul, Nat.reduceAdd, Nat.reduceSub, Nat.add_zero, Nat.zero_add, Nat.mul_zero, eq_self_iff_true, jg_not_lt, jg_not_le, lb]
      · have pa := ra.2.2 (i - 1) (by omega)
        have pb := rb.2.2 (k - 1) (by omega)
        rw [show b1 + 1 + (i - 1) = b1 + i by omega] at pa
        rw [show b2 + 1 + (k - 1) = b2 + k by omega] at pb
        have g1 := okL_31 oa (i - 1)
        have g2 := okL_31 ob (k - 1)
        have p10 : m.1 52 0 0 (9 * i + k - 10) = nI (lcT a b (i - 1) (k - 1)) := by rw [show 9 * i + k - 10 = 9 * (i - 1) + (k - 1) by omega]; exact h1 _ _ (by omega) (by omega)
        have p9 : m.1 52 0 0 (9 * i + k - 9) = nI (lcT a b (i - 1) k) := by rw [show 9 * i + k - 9 = 9 * (i - 1) + k by omega]; exact h1 _ _ (by omega) (by omega)
        have p1 : m.1 52 0 0 (9 * i + k - 1) = nI (lcT a b i (k - 1)) := by rw [show 9 * i + k - 1 = 9 * i + (k - 1) by omega]; exact h2 _ (by omega)
        have t1 := lcT_le a b (i - 1) k
        have t2 := lcT_le a b i (k - 1)
        by_cases c : a.getD (i - 1) 0 = b.getD (k - 1) 0
        · have v : lcT a b i k = lcT a b (i - 1) (k - 1) + 1 := by
            have := lcT_eq c
            rw [show i - 1 + 1 = i by omega, show k - 1 + 1 = k by omega] at this
            exact this
          rw [v]
          simp (disch := omega) only [jg_lit, jg_litL, jg_m1, jg_m1L, nI_add, lN_add, pk_mul, jg_sub, jg_subM, jg_addM, jg_addM', jg_negM, jt_in, jt_ix, jt_bi, jt_bl, jt_bv, jt_lt, jg_dT, jg_dF, jt_c, jt_cd, ru_I, ru_L, jg_leI, jg_ltI, jg_eqI, jg_M1, jg_M2, jg_M3, jg_M4, jg_M5, jg_M6, jg_ltT, jg_ltF, jg_leT, jg_leF, jg_eqT, jg_eqF, cond_true, cond_false, ne_eq, not_true_eq_false, not_false_eq_true, decide_true, decide_false, if_true, if_false, and_true, true_and, and_false, false_and, or_true, true_or, or_false, false_or, Nat.reduceEqDiff, reduceIte, Nat.reduceMul, Nat.reduceAdd, Nat.reduceSub, Nat.add_zero, Nat.zero_add, Nat.mul_zero, eq_self_iff_true, jg_not_lt, jg_not_le, lb, pa, pb, p10]
        · have v : lcT a b i k = max (lcT a b (i - 1) k) (lcT a b i (k - 1)) := by
            have := lcT_ne c
            rw [show i - 1 + 1 = i by omega, show k - 1 + 1 = k by omega] at this
            exact this
          have mx := nI_max (a := lcT a b (i - 1) k) (b := lcT a b i (k - 1)) (by omega) (by omega)
          rw [v, ← mx]
          simp (disch := omega) only [jg_lit, jg_litL, jg_m1, jg_m1L, nI_add, lN_add, pk_mul, jg_sub, jg_subM, jg_addM, jg_addM', jg_negM, jt_in, jt_ix, jt_bi, jt_bl, jt_bv, jt_lt, jg_dT, jg_dF, jt_c, jt_cd, ru_I, ru_L, jg_leI, jg_ltI, jg_eqI, jg_M1, jg_M2, jg_M3, jg_M4, jg_M5, jg_M6, jg_ltT, jg_ltF, jg_leT, jg_leF, jg_eqT, jg_eqF, cond_true, cond_false, ne_eq, not_true_eq_false, not_false_eq_true, decide_true, decide_false, if_true, if_false, and_true, true_and, and_false, false_and, or_true, true_or, or_false, false_or, Nat.reduceEqDiff, reduceIte, Nat.reduceMul, Nat.reduceAdd, Nat.reduceSub, Nat.add_zero, Nat.zero_add, Nat.mul_zero, eq_self_iff_true, jg_not_lt, jg_not_le, lb, pa, pb, p9, p1]
theorem sm_common_out {a b : List Nat} (oa : okL a) (ob : okL b) {b1 b2 : Nat} (q1 : b1 + 9 ≤ 8600) (q2 : b2 + 9 ≤ 8600) (z1 z2 : jm_V) (d : Nat) : ∀ (r i : Nat) (z6 : jm_V) (m : jm_M), i + r = a.length + 1 → mR a b1 m → mR b b2 m → (∀ p q, p < i → q ≤ b.length → m.1 52 0 0 (9 * p + q) = nI (lcT a b p q)) → ∃ m', jm_ev false (d + 1) 11 1 jc_X12_common 64 [vM, z1, z2, .inl (nI b1), .inl (nI b2), .inl (nI i), z6] [] m = some (.inl (nI (lcT a b a.length b.length)), jm_sI m' 40 0 0 2 0) ∧ fr P52 m m'
  | 0, i, z6, m, hr, ra, rb, h1 => by
    have a8 := ra.1
    have b8 := rb.1
    have la := ra.2.1
    have lb := rb.2.1
    have l := h1 a.length b.length (by omega) (Nat.le_refl _)
    refine ⟨m, ?_, .rf⟩
    rw [l_X12_common_64]
    simp (disch := omega) only [jg_lit, jg_litL, jg_m1, jg_m1L, nI_add, lN_add, pk_mul, jg_sub, jg_subM, jg_addM, jg_addM', jg_negM, jt_in, jt_ix, jt_bi, jt_bl, jt_bv, jt_lt, jg_dT, jg_dF, jt_c, jt_cd, ru_I, ru_L, jg_leI, jg_ltI, jg_eqI, jg_M1, jg_M2, jg_M3, jg_M4, jg_M5, jg_M6, jg_ltT, jg_ltF, jg_leT, jg_leF, jg_eqT, jg_eqF, cond_true, cond_false, ne_eq, not_true_eq_false, not_false_eq_true, decide_true, decide_false, if_true, if_false, and_true, true_and, and_false, false_and, or_true, true_or, or_false, false_or, Nat.reduceEqDiff, reduceIte, Nat.reduceMul, Nat.reduceAdd, Nat.reduceSub, Nat.add_zero, Nat.zero_add, Nat.mul_zero, eq_self_iff_true, jg_not_lt, jg_not_le, la, lb, l, sm_gives]
  | r + 1, i, z6, m, hr, ra, rb, h1 => by
    have a8 := ra.1
    have b8 := rb.1
    have la := ra.2.1
    have lb := rb.2.1
    obtain ⟨m1, z6', e1, e2, e3⟩ := sm_common_in oa ob q1 q2 (show i ≤ a.length by omega) z1 z2 d (b.length + 1) 0 m (by omega) ra rb h1 (fun q hq => by omega)
    obtain ⟨m', f1, f2⟩ := sm_common_out oa ob q1 q2 z1 z2 d r (i + 1) z6' m1 (by omega) (mR_fr ra e3 (fun k _ z => by unfold P52 at z; omega)) (mR_fr rb e3 (fun k _ z => by unfold P52 at z; omega)) e2
    refine ⟨m', ?_, e3.tr f2⟩
    rw [← f1, ← e1, l_X12_common_64]
    simp (disch := omega) only [jg_lit, jg_litL, jg_m1, jg_m1L, nI_add, lN_add, pk_mul, jg_sub, jg_subM, jg_addM, jg_addM', jg_negM, jt_in, jt_ix, jt_bi, jt_bl, jt_bv, jt_lt, jg_dT, jg_dF, jt_c, jt_cd, ru_I, ru_L, jg_leI, jg_ltI, jg_eqI, jg_M1, jg_M2, jg_M3, jg_M4, jg_M5, jg_M6, jg_ltT, jg_ltF, jg_leT, jg_leF, jg_eqT, jg_eqF, cond_true, cond_false, ne_eq, not_true_eq_false, not_false_eq_true, decide_true, decide_false, if_true, if_false, and_true, true_and, and_false, false_and, or_true, true_or, or_false, false_or, Nat.reduceEqDiff, reduceIte, Nat.reduceMul, Nat.reduceAdd, Nat.reduceSub, Nat.add_zero, Nat.zero_add, Nat.mul_zero, eq_self_iff_true, jg_not_lt, jg_not_le, la]
theorem sx_pair1 {V : Vl} {m : jm_M} (h : xV V 0 m) (h12 : (vlW V).length ≤ 12) {x y : Int32} (hxy : (x < 0 ∨ nI (vlW V).length ≤ x) ∨ (y < 0 ∨ nI (vlW V).length ≤ y)) (d : Nat) : jm_sem false (d + 2) jn_X11_wrongPair [vX, .inl x, .inl y] m = some (.inl (nI 1), m) := by
  rw [e_X11_wrongPair]
  rcases in_cases x (show (vlW V).length < 2 ^ 31 by omega) with hx | ⟨k, hk, rfl⟩
  · have i0 := sx_isWordF h.1 hx d
    simp (disch := omega) only [jg_lit, jg_litL, jg_m1, jg_m1L, nI_add, lN_add, pk_mul, jg_sub, jg_subM, jg_addM, jg_addM', jg_negM, jt_in, jt_ix, jt_bi, jt_bl, jt_bv, jt_lt, jg_dT, jg_dF, jt_c, jt_cd, ru_I, ru_L, jg_leI, jg_ltI, jg_eqI, jg_M1, jg_M2, jg_M3, jg_M4, jg_M5, jg_M6, jg_ltT, jg_ltF, jg_leT, jg_leF, jg_eqT, jg_eqF, cond_true, cond_false, ne_eq, not_true_eq_false, not_false_eq_true, decide_true, decide_false, if_true, if_false, and_true, true_and, and_false, false_and, or_true, true_or, or_false, false_or, Nat.reduceEqDiff, reduceIte, Nat.reduceMul, Nat.reduceAdd, Nat.reduceSub, Nat.add_zero, Nat.zero_add, Nat.mul_zero, eq_self_iff_true, jg_not_lt, jg_not_le, i0]
  · have i1 := sx_isWordT h.1 h12 hk d
    have hy := hxy.resolve_left (fun z => z.elim (nI_pos (by omega)) (nI_ge hk (by omega)))
    have i0 := sx_isWordF h.1 hy d
    simp (disch := omega) only [jg_lit, jg_litL, jg_m1, jg_m1L, nI_add, lN_add, pk_mul, jg_sub, jg_subM, jg_addM, jg_addM', jg_negM, jt_in, jt_ix, jt_bi, jt_bl, jt_bv, jt_lt, jg_dT, jg_dF, jt_c, jt_cd, ru_I, ru_L, jg_leI, jg_ltI, jg_eqI, jg_M1, jg_M2, jg_M3, jg_M4, jg_M5, jg_M6, jg_ltT, jg_ltF, jg_leT, jg_leF, jg_eqT, jg_eqF, cond_true, cond_false, ne_eq, not_true_eq_false, not_false_eq_true, decide_true, decide_false, if_true, if_false, and_true, true_and, and_false, false_and, or_true, true_or, or_false, false_or, Nat.reduceEqDiff, reduceIte, Nat.reduceMul, Nat.reduceAdd, Nat.reduceSub, Nat.add_zero, Nat.zero_add, Nat.mul_zero, eq_self_iff_true, jg_not_lt, jg_not_le, i0, i1]
theorem sx_pair6 {V : Vl} {m : jm_M} (h : xV V 0 m) (ho : okWs (vlW V)) {k l : Nat} (hk : k < (vlW V).length) (hl : l < (vlW V).length) (hg : wL (gw (vlW V) k) = [] ∨ wL (gw (vlW V) l) = []) (d : Nat) : jm_sem false (d + 2) jn_X11_wrongPair [vX, .inl (nI k), .inl (nI l)] m = some (.inl (nI 6), m) := by
  have h12 := ho.1
  have i1 := sx_isWordT h.1 h12 hk d
  have i2 := sx_isWordT h.1 h12 hl d
  rw [e_X11_wrongPair]
  by_cases c : wL (gw (vlW V) k) = []
  · have g := sx_isGoneT (h.2 k hk) (okW_8 (ho.2.1 k hk).1) c d
    simp (disch := omega) only [jg_lit, jg_litL, jg_m1, jg_m1L, nI_add, lN_add, pk_mul, jg_sub, jg_subM, jg_addM, jg_addM', jg_negM, jt_in, jt_ix, jt_bi, jt_bl, jt_bv, jt_lt, jg_dT, jg_dF, jt_c, jt_cd, ru_I, ru_L, jg_leI, jg_ltI, jg_eqI, jg_M1, jg_M2, jg_M3, jg_M4, jg_M5, jg_M6, jg_ltT, jg_ltF, jg_leT, jg_leF, jg_eqT, jg_eqF, cond_true, cond_false, ne_eq, not_true_eq_false, not_false_eq_true, decide_true, decide_false, if_true, if_false, and_true, true_and, and_false, false_and, or_true, true_or, or_false, false_or, Nat.reduceEqDiff, reduceIte, Nat.reduceMul, Nat.reduceAdd, Nat.reduceSub, Nat.add_zero, Nat.zero_add, Nat.mul_zero, eq_self_iff_true, jg_not_lt, jg_not_le, i1, i2, g, Bool.and_true]
  · have g := sx_isGoneF (h.2 k hk) (okW_8 (ho.2.1 k hk).1) c d
    have g2 := sx_isGoneT (h.2 l hl) (okW_8 (ho.2.1 l hl).1) (hg.resolve_left c) d
    simp (disch := omega) only [jg_lit, jg_litL, jg_m1, jg_m1L, nI_add, lN_add, pk_mul, jg_sub, jg_subM, jg_addM, jg_addM', jg_negM, jt_in, jt_ix, jt_bi, jt_bl, jt_bv, jt_lt, jg_dT, jg_dF, jt_c, jt_cd, ru_I, ru_L, jg_leI, jg_ltI, jg_eqI, jg_M1, jg_M2, jg_M3, jg_M4, jg_M5, jg_M6, jg_ltT, jg_ltF, jg_leT, jg_leF, jg_eqT, jg_eqF, cond_true, cond_false, ne_eq, not_true_eq_false, not_false_eq_true, decide_true, decide_false, if_true, if_false, and_true, true_and, and_false, false_and, or_true, true_or, or_false, false_or, Nat.reduceEqDiff, reduceIte, Nat.reduceMul, Nat.reduceAdd, Nat.reduceSub, Nat.add_zero, Nat.zero_add, Nat.mul_zero, eq_self_iff_true, jg_not_lt, jg_not_le, i1, i2, g, g2, Bool.and_true]
theorem sx_pair0 {V : Vl} {m : jm_M} (h : xV V 0 m) (ho : okWs (vlW V)) {k l : Nat} (hk : k < (vlW V).length) (hl : l < (vlW V).length) (hg : wL (gw (vlW V) k) ≠ []) (hg2 : wL (gw (vlW V) l) ≠ []) (d : Nat) : jm_sem false (d + 2) jn_X11_wrongPair [vX, .inl (nI k), .inl (nI l)] m = some (.inl (nI 0), m) := by
  have h12 := ho.1
  have i1 := sx_isWordT h.1 h12 hk d
  have i2 := sx_isWordT h.1 h12 hl d
  have g := sx_isGoneF (h.2 k hk) (okW_8 (ho.2.1 k hk).1) hg d
  have g2 := sx_isGoneF (h.2 l hl) (okW_8 (ho.2.1 l hl).1) hg2 d
  rw [e_X11_wrongPair]
  simp (disch := omega) only [jg_lit, jg_litL, jg_m1, jg_m1L, nI_add, lN_add, pk_mul, jg_sub, jg_subM, jg_addM, jg_addM', jg_negM, jt_in, jt_ix, jt_bi, jt_bl, jt_bv, jt_lt, jg_dT, jg_dF, jt_c, jt_cd, ru_I, ru_L, jg_leI, jg_ltI, jg_eqI, jg_M1, jg_M2, jg_M3, jg_M4, jg_M5, jg_M6, jg_ltT, jg_ltF, jg_leT, jg_leF, jg_eqT, jg_eqF, cond_true, cond_false, ne_eq, not_true_eq_false, not_false_eq_true, decide_true, decide_false, if_true, if_false, and_true, true_and, and_false, false_and, or_true, true_or, or_false, false_or, Nat.reduceEqDiff, reduceIte, Nat.reduceMul, Nat.reduceAdd, Nat.reduceSub, Nat.add_zero, Nat.zero_add, Nat.mul_zero, eq_self_iff_true, jg_not_lt, jg_not_le, i1, i2, g, g2, Bool.and_true]
theorem QX_20 {m m' : jm_M} (h : fr P20 m m') : fr QX m m' := h.wk (fun K i j k z => by unfold QX SO; unfold P20 at z; omega)
theorem xV_20 {V : Vl} {m m' : jm_M} (h : xV V 0 m) (h12 : (vlW V).length ≤ 12) (hf : fr P20 m m') : xV V 0 m' := xV_fr h h12 hf (fun K j k hK hj z => by unfold P20 at z; omega)
theorem QM_52 {m m' : jm_M} (h : fr P52 m m') : fr QM m m' := h.wk (fun K i j k z => by unfold QM SM; unfold P52 at z; omega)
theorem mF_52 {V : Vl} {m m' : jm_M} (h : mF V m) (ho : okV V) (hf : fr P52 m m') : mF V m' := mF_fr h ho hf (fun k _ z => by unfold P52 at z; omega) (fun k _ z => by unfold P52 at z; omega)
theorem c_common (x y : Int32) : jcall jn_X11_common jn_X12_common [.inl x, .inl y] := by
  intro s μ ho hx hm
  have h12 := ho.1.2.2.2.1.1
  have hOk := ho.1.2.2.2.1
  rcases in_cases x (show (vlW (aV s)).length < 2 ^ 31 by omega) with h | ⟨k, hk, rfl⟩
  · have p := sx_pair1 hx.1 h12 (y := y) (Or.inl h) 96
    have i0 := sm_isWordF hm.1.1 h 97
    refine jcall_no ho hx hm 1 (v := .inl jM) ?_ ?_
    · rw [e_X11_common]; simp (disch := omega) only [jg_lit, jg_litL, jg_m1, jg_m1L, nI_add, lN_add, pk_mul, jg_sub, jg_subM, jg_addM, jg_addM', jg_negM, jt_in, jt_ix, jt_bi, jt_bl, jt_bv, jt_lt, jg_dT, jg_dF, jt_c, jt_cd, ru_I, ru_L, jg_leI, jg_ltI, jg_eqI, jg_M1, jg_M2, jg_M3, jg_M4, jg_M5, jg_M6, jg_ltT, jg_ltF, jg_leT, jg_leF, jg_eqT, jg_eqF, cond_true, cond_false, ne_eq, not_true_eq_false, not_false_eq_true, decide_true, decide_false, if_true, if_false, and_true, true_and, and_false, false_and, or_true, true_or, or_false, false_or, Nat.reduceEqDiff, reduceIte, Nat.reduceMul, Nat.reduceAdd, Nat.reduceSub, Nat.add_zero, Nat.zero_add, Nat.mul_zero, eq_self_iff_true, jg_not_lt, jg_not_le, p, sx_fail]
    · rw [e_X12_common]; simp (disch := omega) only [jg_lit, jg_litL, jg_m1, jg_m1L, nI_add, lN_add, pk_mul, jg_sub, jg_subM, jg_addM, jg_addM', jg_negM, jt_in, jt_ix, jt_bi, jt_bl, jt_bv, jt_lt, jg_dT, jg_dF, jt_c, jt_cd, ru_I, ru_L, jg_leI, jg_ltI, jg_eqI, jg_M1, jg_M2, jg_M3, jg_M4, jg_M5, jg_M6, jg_ltT, jg_ltF, jg_leT, jg_leF, jg_eqT, jg_eqF, cond_true, cond_false, ne_eq, not_true_eq_false, not_false_eq_true, decide_true, decide_false, if_true, if_false, and_true, true_and, and_false, false_and, or_true, true_or, or_false, false_or, Nat.reduceEqDiff, reduceIte, Nat.reduceMul, Nat.reduceAdd, Nat.reduceSub, Nat.add_zero, Nat.zero_add, Nat.mul_zero, eq_self_iff_true, jg_not_lt, jg_not_le, i0, sm_refuse]
  · have i1 := sm_isWordT hm.1.1 h12 hk 97
    rcases in_cases y (show (vlW (aV s)).length < 2 ^ 31 by omega) with h | ⟨l, hl, rfl⟩
    · have p := sx_pair1 hx.1 h12 (x := nI k) (Or.inr h) 96
      have i0 := sm_isWordF hm.1.1 h 97
      refine jcall_no ho hx hm 1 (v := .inl jM) ?_ ?_
      · rw [e_X11_common]; simp (disch := omega) only [jg_lit, jg_litL, jg_m1, jg_m1L, nI_add, lN_add, pk_mul, jg_sub, jg_subM, jg_addM, jg_addM', jg_negM, jt_in, jt_ix, jt_bi, jt_bl, jt_bv, jt_lt, jg_dT, jg_dF, jt_c, jt_cd, ru_I, ru_L, jg_leI, jg_ltI, jg_eqI, jg_M1, jg_M2, jg_M3, jg_M4, jg_M5, jg_M6, jg_ltT, jg_ltF, jg_leT, jg_leF, jg_eqT, jg_eqF, cond_true, cond_false, ne_eq, not_true_eq_false, not_false_eq_true, decide_true, decide_false, if_true, if_false, and_true, true_and, and_false, false_and, or_true, true_or, or_false, false_or, Nat.reduceEqDiff, reduceIte, Nat.reduceMul, Nat.reduceAdd, Nat.reduceSub, Nat.add_zero, Nat.zero_add, Nat.mul_zero, eq_self_iff_true, jg_not_lt, jg_not_le, p, sx_fail]
      · rw [e_X12_common]; simp (disch := omega) only [jg_lit, jg_litL, jg_m1, jg_m1L, nI_add, lN_add, pk_mul, jg_sub, jg_subM, jg_addM, jg_addM', jg_negM, jt_in, jt_ix, jt_bi, jt_bl, jt_bv, jt_lt, jg_dT, jg_dF, jt_c, jt_cd, ru_I, ru_L, jg_leI, jg_ltI, jg_eqI, jg_M1, jg_M2, jg_M3, jg_M4, jg_M5, jg_M6, jg_ltT, jg_ltF, jg_leT, jg_leF, jg_eqT, jg_eqF, cond_true, cond_false, ne_eq, not_true_eq_false, not_false_eq_true, decide_true, decide_false, if_true, if_false, and_true, true_and, and_false, false_and, or_true, true_or, or_false, false_or, Nat.reduceEqDiff, reduceIte, Nat.reduceMul, Nat.reduceAdd, Nat.reduceSub, Nat.add_zero, Nat.zero_add, Nat.mul_zero, eq_self_iff_true, jg_not_lt, jg_not_le, i1, i0, sm_refuse]
    · have i2 := sm_isWordT hm.1.1 h12 hl 97
      have hwk := hm.1.1.2.2.2.2 k hk
      have hwl := hm.1.1.2.2.2.2 l hl
      have k8 := okW_8 (hOk.2.1 k hk).1
      have l8 := okW_8 (hOk.2.1 l hl).1
      have sk : μ.1 41 0 0 (0 + 10 + 40 * k) = nI (wL (gw (vlW (aV s)) k)).length := hwk.1.2.1
      have sl : μ.1 41 0 0 (0 + 10 + 40 * l) = nI (wL (gw (vlW (aV s)) l)).length := hwl.1.2.1
      have ro := fun q => sm_rowOf 97 0 q μ
      by_cases c : wL (gw (vlW (aV s)) k) = []
      · have p := sx_pair6 hx.1 hOk hk hl (Or.inl c) 96
        rw [c] at sk
        refine jcall_no ho hx hm 6 (v := .inl jM) ?_ ?_
        · rw [e_X11_common]; simp (disch := omega) only [jg_lit, jg_litL, jg_m1, jg_m1L, nI_add, lN_add, pk_mul, jg_sub, jg_subM, jg_addM, jg_addM', jg_negM, jt_in, jt_ix, jt_bi, jt_bl, jt_bv, jt_lt, jg_dT, jg_dF, jt_c, jt_cd, ru_I, ru_L, jg_leI, jg_ltI, jg_eqI, jg_M1, jg_M2, jg_M3, jg_M4, jg_M5, jg_M6, jg_ltT, jg_ltF, jg_leT, jg_leF, jg_eqT, jg_eqF, cond_true, cond_false, ne_eq, not_true_eq_false, not_false_eq_true, decide_true, decide_false, if_true, if_false, and_true, true_and, and_false, false_and, or_true, true_or, or_false, false_or, Nat.reduceEqDiff, reduceIte, Nat.reduceMul, Nat.reduceAdd, Nat.reduceSub, Nat.add_zero, Nat.zero_add, Nat.mul_zero, eq_self_iff_true, jg_not_lt, jg_not_le, p, sx_fail]
        · rw [e_X12_common]; simp (disch := omega) only [jg_lit, jg_litL, jg_m1, jg_m1L, nI_add, lN_add, pk_mul, jg_sub, jg_subM, jg_addM, jg_addM', jg_negM, jt_in, jt_ix, jt_bi, jt_bl, jt_bv, jt_lt, jg_dT, jg_dF, jt_c, jt_cd, ru_I, ru_L, jg_leI, jg_ltI, jg_eqI, jg_M1, jg_M2, jg_M3, jg_M4, jg_M5, jg_M6, jg_ltT, jg_ltF, jg_leT, jg_leF, jg_eqT, jg_eqF, cond_true, cond_false, ne_eq, not_true_eq_false, not_false_eq_true, decide_true, decide_false, if_true, if_false, and_true, true_and, and_false, false_and, or_true, true_or, or_false, false_or, Nat.reduceEqDiff, reduceIte, Nat.reduceMul, Nat.reduceAdd, Nat.reduceSub, Nat.add_zero, Nat.zero_add, Nat.mul_zero, eq_self_iff_true, jg_not_lt, jg_not_le, i1, i2, sm_rowOf, sk, List.length_nil, sm_refuse]
      · have lk : 0 < (wL (gw (vlW (aV s)) k)).length := List.length_pos_iff.mpr c
        by_cases c2 : wL (gw (vlW (aV s)) l) = []
        · have p := sx_pair6 hx.1 hOk hk hl (Or.inr c2) 96
          rw [c2] at sl
          refine jcall_no ho hx hm 6 (v := .inl jM) ?_ ?_
          · rw [e_X11_common]; simp (disch := omega) only [jg_lit, jg_litL, jg_m1, jg_m1L, nI_add, lN_add, pk_mul, jg_sub, jg_subM, jg_addM, jg_addM', jg_negM, jt_in, jt_ix, jt_bi, jt_bl, jt_bv, jt_lt, jg_dT, jg_dF, jt_c, jt_cd, ru_I, ru_L, jg_leI, jg_ltI, jg_eqI, jg_M1, jg_M2, jg_M3, jg_M4, jg_M5, jg_M6, jg_ltT, jg_ltF, jg_leT, jg_leF, jg_eqT, jg_eqF, cond_true, cond_false, ne_eq, not_true_eq_false, not_false_eq_true, decide_true, decide_false, if_true, if_false, and_true, true_and, and_false, false_and, or_true, true_or, or_false, false_or, Nat.reduceEqDiff, reduceIte, Nat.reduceMul, Nat.reduceAdd, Nat.reduceSub, Nat.add_zero, Nat.zero_add, Nat.mul_zero, eq_self_iff_true, jg_not_lt, jg_not_le, p, sx_fail]
          · rw [e_X12_common]; simp (disch := omega) only [jg_lit, jg_litL, jg_m1, jg_m1L, nI_add, lN_add, pk_mul, jg_sub, jg_subM, jg_addM, jg_addM', jg_negM, jt_in, jt_ix, jt_bi, jt_bl, jt_bv, jt_lt, jg_dT, jg_dF, jt_c, jt_cd, ru_I, ru_L, jg_leI, jg_ltI, jg_eqI, jg_M1, jg_M2, jg_M3, jg_M4, jg_M5, jg_M6, jg_ltT, jg_ltF, jg_leT, jg_leF, jg_eqT, jg_eqF, cond_true, cond_false, ne_eq, not_true_eq_false, not_false_eq_true, decide_true, decide_false, if_true, if_false, and_true, true_and, and_false, false_and, or_true, true_or, or_false, false_or, Nat.reduceEqDiff, reduceIte, Nat.reduceMul, Nat.reduceAdd, Nat.reduceSub, Nat.add_zero, Nat.zero_add, Nat.mul_zero, eq_self_iff_true, jg_not_lt, jg_not_le, i1, i2, sm_rowOf, sk, sl, List.length_nil, sm_refuse]
        · have ll : 0 < (wL (gw (vlW (aV s)) l)).length := List.length_pos_iff.mpr c2
          have p := sx_pair0 hx.1 hOk hk hl c c2 96
          obtain ⟨m1, e1, e2⟩ := sx_commonOf (hOk.2.1 k hk) (hOk.2.1 l hl) (hx.1.2 k hk) (hx.1.2 l hl) 96
          obtain ⟨n1, f1, f2⟩ := sm_common_out (hOk.2.1 k hk).1.1 (hOk.2.1 l hl).1.1 (b1 := 0 + 10 + 40 * k) (b2 := 0 + 10 + 40 * l) (by omega) (by omega) (.inl (nI k)) (.inl (nI l)) 97 ((wL (gw (vlW (aV s)) k)).length + 1) 0 jm_j μ (by omega) hwk.1 hwl.1 (fun p q hp _ => by omega)
          refine jcall_V ho hx hm ho.1 0 (xV_20 hx.1 h12 e2) (QX_20 e2) (mF_52 hm.1 ho.1 f2) (QM_52 f2) (v := .inl (nI (lcT (wL (gw (vlW (aV s)) k)) (wL (gw (vlW (aV s)) l)) (wL (gw (vlW (aV s)) k)).length (wL (gw (vlW (aV s)) l)).length))) ?_ ?_
          · rw [e_X11_common]; simp (disch := omega) only [jg_lit, jg_litL, jg_m1, jg_m1L, nI_add, lN_add, pk_mul, jg_sub, jg_subM, jg_addM, jg_addM', jg_negM, jt_in, jt_ix, jt_bi, jt_bl, jt_bv, jt_lt, jg_dT, jg_dF, jt_c, jt_cd, ru_I, ru_L, jg_leI, jg_ltI, jg_eqI, jg_M1, jg_M2, jg_M3, jg_M4, jg_M5, jg_M6, jg_ltT, jg_ltF, jg_leT, jg_leF, jg_eqT, jg_eqF, cond_true, cond_false, ne_eq, not_true_eq_false, not_false_eq_true, decide_true, decide_false, if_true, if_false, and_true, true_and, and_false, false_and, or_true, true_or, or_false, false_or, Nat.reduceEqDiff, reduceIte, Nat.reduceMul, Nat.reduceAdd, Nat.reduceSub, Nat.add_zero, Nat.zero_add, Nat.mul_zero, eq_self_iff_true, jg_not_lt, jg_not_le, p, e1, sx_give, Bool.and_true]
          · rw [e_X12_common]; simp (disch := omega) only [jg_lit, jg_litL, jg_m1, jg_m1L, nI_add, lN_add, pk_mul, jg_sub, jg_subM, jg_addM, jg_addM', jg_negM, jt_in, jt_ix, jt_bi, jt_bl, jt_bv, jt_lt, jg_dT, jg_dF, jt_c, jt_cd, ru_I, ru_L, jg_leI, jg_ltI, jg_eqI, jg_M1, jg_M2, jg_M3, jg_M4, jg_M5, jg_M6, jg_ltT, jg_ltF, jg_leT, jg_leF, jg_eqT, jg_eqF, cond_true, cond_false, ne_eq, not_true_eq_false, not_false_eq_true, decide_true, decide_false, if_true, if_false, and_true, true_and, and_false, false_and, or_true, true_or, or_false, false_or, Nat.reduceEqDiff, reduceIte, Nat.reduceMul, Nat.reduceAdd, Nat.reduceSub, Nat.add_zero, Nat.zero_add, Nat.mul_zero, eq_self_iff_true, jg_not_lt, jg_not_le, i1, i2, sm_rowOf, sk, sl]
            exact f1
