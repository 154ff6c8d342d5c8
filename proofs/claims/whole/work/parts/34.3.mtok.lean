/-! ===== TOKENS in the reference ===== -/
def kdM (k : Nat) : Nat := if k = 0 then 0 else if k = 1 then 2 else if k = 2 then 3 else if k = 3 then 4 else 1
def mTb (T : Tb) (m : jm_M) : Prop := okT T ∧ m.1 40 0 0 11 = nI T.1 ∧ ∀ k, k < T.1 → m.1 47 0 0 k &&& nI 255 = nI (T.2 k)
def mTk (T : Tb) (a : Nat) (m : jm_M) : Prop := m.1 40 0 0 12 = nI (kdM (tkK T a)) ∧ m.1 40 0 0 13 = nI a ∧ m.1 40 0 0 14 = nI (tkE T a) ∧ (tkK T a = 2 → m.1 40 0 0 15 = nI (tkN T a)) ∧ (tkK T a = 3 → m.1 40 0 0 15 = nI (T.2 a))
def P40 (K _i _j k : Nat) : Prop := K = 40 ∧ 12 ≤ k ∧ k ≤ 15
theorem mTb_fr {T : Tb} {P : Nat → Nat → Nat → Nat → Prop} {m m' : jm_M} (h : mTb T m) (f : fr P m m') (h1 : ¬ P 40 0 0 11) (h2 : ∀ k, ¬ P 47 0 0 k) : mTb T m' := ⟨h.1, by rw [(f 40 0 0 11 h1).1]; exact h.2.1, fun k hk => by rw [(f 47 0 0 k (h2 k)).1]; exact h.2.2 k hk⟩
theorem mTb_40 {T : Tb} {m m' : jm_M} (h : mTb T m) (f : fr P40 m m') : mTb T m' := mTb_fr h f (fun z => by unfold P40 at z; omega) (fun k z => by unfold P40 at z; omega)
theorem mTk_fr {T : Tb} {a : Nat} {P : Nat → Nat → Nat → Nat → Prop} {m m' : jm_M} (h : mTk T a m) (f : fr P m m') (h1 : ∀ k, 12 ≤ k → k ≤ 15 → ¬ P 40 0 0 k) : mTk T a m' := by
  obtain ⟨a1, a2, a3, a4, a5⟩ := h
  have k15 := (f 40 0 0 15 (h1 15 (by omega) (by omega))).1
  exact ⟨by rw [(f 40 0 0 12 (h1 12 (by omega) (by omega))).1]; exact a1, by rw [(f 40 0 0 13 (h1 13 (by omega) (by omega))).1]; exact a2, by rw [(f 40 0 0 14 (h1 14 (by omega) (by omega))).1]; exact a3, fun z => by rw [k15]; exact a4 z, fun z => by rw [k15]; exact a5 z⟩
theorem sm_by {T : Tb} {m : jm_M} (h : mTb T m) {k : Nat} (hk : k ≤ T.1) (d : Nat) : jm_sem false (d + 1) jn_X12_byteAt [vM, .inl (nI k)] m = some (.inl (if k < T.1 then nI (T.2 k) else jM), m) := by
  have h9 := h.1.1
  have h1 := h.2.1
  rw [e_X12_byteAt]
  by_cases c : k < T.1
  · have hb := h.2.2 k c
    rw [if_pos c]
    simp (disch := omega) only [jg_lit, jg_litL, jg_m1, jg_m1L, nI_add, lN_add, pk_mul, jg_sub, jg_subM, jg_addM, jg_addM', jg_negM, jt_in, jt_ix, jt_bi, jt_bl, jt_bv, jt_lt, jg_dT, jg_dF, jt_c, jt_cd, ru_I, ru_L, jg_leI, jg_ltI, jg_eqI, jg_M1, jg_M2, jg_M3, jg_M4, jg_M5, jg_M6, jg_ltT, jg_ltF, jg_leT, jg_leF, jg_eqT, jg_eqF, cond_true, cond_false, ne_eq, not_true_eq_false, not_false_eq_true, decide_true, decide_false, if_true, if_false, and_true, true_and, and_false, false_and, or_true, true_or, or_false, false_or, Nat.reduceEqDiff, reduceIte, Nat.reduceMul, Nat.reduceAdd, Nat.reduceSub, Nat.add_zero, Nat.zero_add, Nat.mul_zero, eq_self_iff_true, jg_not_lt, jg_not_le, h1, hb]
  · rw [if_neg c]
    simp (disch := omega) only [jg_lit, jg_litL, jg_m1, jg_m1L, nI_add, lN_add, pk_mul, jg_sub, jg_subM, jg_addM, jg_addM', jg_negM, jt_in, jt_ix, jt_bi, jt_bl, jt_bv, jt_lt, jg_dT, jg_dF, jt_c, jt_cd, ru_I, ru_L, jg_leI, jg_ltI, jg_eqI, jg_M1, jg_M2, jg_M3, jg_M4, jg_M5, jg_M6, jg_ltT, jg_ltF, jg_leT, jg_leF, jg_eqT, jg_eqF, cond_true, cond_false, ne_eq, not_true_eq_false, not_false_eq_true, decide_true, decide_false, if_true, if_false, and_true, true_and, and_false, false_and, or_true, true_or, or_false, false_or, Nat.reduceEqDiff, reduceIte, Nat.reduceMul, Nat.reduceAdd, Nat.reduceSub, Nat.add_zero, Nat.zero_add, Nat.mul_zero, eq_self_iff_true, jg_not_lt, jg_not_le, h1]
theorem sm_byT {T : Tb} {m : jm_M} (h : mTb T m) {k : Nat} (hk : k < T.1) (d : Nat) : jm_sem false (d + 1) jn_X12_byteAt [vM, .inl (nI k)] m = some (.inl (nI (T.2 k)), m) := by rw [sm_by h (by omega), if_pos hk]
theorem sm_byE {T : Tb} {m : jm_M} (h : mTb T m) {k : Nat} (hk : k = T.1) (d : Nat) : jm_sem false (d + 1) jn_X12_byteAt [vM, .inl (nI k)] m = some (.inl jM, m) := by rw [sm_by h (by omega), if_neg (by omega)]
theorem sm_isSmall {c : Nat} (h : c < 256) (d : Nat) (m : jm_M) : jm_sem false (d + 1) jn_X12_isSmall [.inl (nI c)] m = some (.inl (if isSm c then nI 1 else nI 0), m) := by
  rw [e_X12_isSmall]
  unfold isSm
  by_cases c1 : 97 ≤ c
  · by_cases c2 : c ≤ 122
    · rw [decide_eq_true ⟨c1, c2⟩]; simp (disch := omega) only [jg_lit, jg_litL, jg_m1, jg_m1L, nI_add, lN_add, pk_mul, jg_sub, jg_subM, jg_addM, jg_addM', jg_negM, jt_in, jt_ix, jt_bi, jt_bl, jt_bv, jt_lt, jg_dT, jg_dF, jt_c, jt_cd, ru_I, ru_L, jg_leI, jg_ltI, jg_eqI, jg_M1, jg_M2, jg_M3, jg_M4, jg_M5, jg_M6, jg_ltT, jg_ltF, jg_leT, jg_leF, jg_eqT, jg_eqF, cond_true, cond_false, ne_eq, not_true_eq_false, not_false_eq_true, decide_true, decide_false, if_true, if_false, and_true, true_and, and_false, false_and, or_true, true_or, or_false, false_or, Nat.reduceEqDiff, reduceIte, Nat.reduceMul, Nat.reduceAdd, Nat.reduceSub, Nat.add_zero, Nat.zero_add, Nat.mul_zero, eq_self_iff_true, jg_not_lt, jg_not_le]
    · rw [decide_eq_false (fun z => c2 z.2)]; simp (disch := omega) only [jg_lit, jg_litL, jg_m1, jg_m1L, nI_add, lN_add, pk_mul, jg_sub, jg_subM, jg_addM, jg_addM', jg_negM, jt_in, jt_ix, jt_bi, jt_bl, jt_bv, jt_lt, jg_dT, jg_dF, jt_c, jt_cd, ru_I, ru_L, jg_leI, jg_ltI, jg_eqI, jg_M1, jg_M2, jg_M3, jg_M4, jg_M5, jg_M6, jg_ltT, jg_ltF, jg_leT, jg_leF, jg_eqT, jg_eqF, cond_true, cond_false, ne_eq, not_true_eq_false, not_false_eq_true, decide_true, decide_false, if_true, if_false, and_true, true_and, and_false, false_and, or_true, true_or, or_false, false_or, Nat.reduceEqDiff, reduceIte, Nat.reduceMul, Nat.reduceAdd, Nat.reduceSub, Nat.add_zero, Nat.zero_add, Nat.mul_zero, eq_self_iff_true, jg_not_lt, jg_not_le, Bool.false_eq_true]
  · rw [decide_eq_false (fun z => c1 z.1)]; simp (disch := omega) only [jg_lit, jg_litL, jg_m1, jg_m1L, nI_add, lN_add, pk_mul, jg_sub, jg_subM, jg_addM, jg_addM', jg_negM, jt_in, jt_ix, jt_bi, jt_bl, jt_bv, jt_lt, jg_dT, jg_dF, jt_c, jt_cd, ru_I, ru_L, jg_leI, jg_ltI, jg_eqI, jg_M1, jg_M2, jg_M3, jg_M4, jg_M5, jg_M6, jg_ltT, jg_ltF, jg_leT, jg_leF, jg_eqT, jg_eqF, cond_true, cond_false, ne_eq, not_true_eq_false, not_false_eq_true, decide_true, decide_false, if_true, if_false, and_true, true_and, and_false, false_and, or_true, true_or, or_false, false_or, Nat.reduceEqDiff, reduceIte, Nat.reduceMul, Nat.reduceAdd, Nat.reduceSub, Nat.add_zero, Nat.zero_add, Nat.mul_zero, eq_self_iff_true, jg_not_lt, jg_not_le, Bool.false_eq_true]
theorem sm_isDigit {c : Nat} (h : c < 256) (d : Nat) (m : jm_M) : jm_sem false (d + 1) jn_X12_isDigit [.inl (nI c)] m = some (.inl (if isDg c then nI 1 else nI 0), m) := by
  rw [e_X12_isDigit]
  unfold isDg
  by_cases c1 : 48 ≤ c
  · by_cases c2 : c ≤ 57
    · rw [decide_eq_true ⟨c1, c2⟩]; simp (disch := omega) only [jg_lit, jg_litL, jg_m1, jg_m1L, nI_add, lN_add, pk_mul, jg_sub, jg_subM, jg_addM, jg_addM', jg_negM, jt_in, jt_ix, jt_bi, jt_bl, jt_bv, jt_lt, jg_dT, jg_dF, jt_c, jt_cd, ru_I, ru_L, jg_leI, jg_ltI, jg_eqI, jg_M1, jg_M2, jg_M3, jg_M4, jg_M5, jg_M6, jg_ltT, jg_ltF, jg_leT, jg_leF, jg_eqT, jg_eqF, cond_true, cond_false, ne_eq, not_true_eq_false, not_false_eq_true, decide_true, decide_false, if_true, if_false, and_true, true_and, and_false, false_and, or_true, true_or, or_false, false_or, Nat.reduceEqDiff, reduceIte, Nat.reduceMul, Nat.reduceAdd, Nat.reduceSub, Nat.add_zero, Nat.zero_add, Nat.mul_zero, eq_self_iff_true, jg_not_lt, jg_not_le]
    · rw [decide_eq_false (fun z => c2 z.2)]; simp (disch := omega) only [jg_lit, jg_litL, jg_m1, jg_m1L, nI_add, lN_add, pk_mul, jg_sub, jg_subM, jg_addM, jg_addM', jg_negM, jt_in, jt_ix, jt_bi, jt_bl, jt_bv, jt_lt, jg_dT, jg_dF, jt_c, jt_cd, ru_I, ru_L, jg_leI, jg_ltI, jg_eqI, jg_M1, jg_M2, jg_M3, jg_M4, jg_M5, jg_M6, jg_ltT, jg_ltF, jg_leT, jg_leF, jg_eqT, jg_eqF, cond_true, cond_false, ne_eq, not_true_eq_false, not_false_eq_true, decide_true, decide_false, if_true, if_false, and_true, true_and, and_false, false_and, or_true, true_or, or_false, false_or, Nat.reduceEqDiff, reduceIte, Nat.reduceMul, Nat.reduceAdd, Nat.reduceSub, Nat.add_zero, Nat.zero_add, Nat.mul_zero, eq_self_iff_true, jg_not_lt, jg_not_le, Bool.false_eq_true]
  · rw [decide_eq_false (fun z => c1 z.1)]; simp (disch := omega) only [jg_lit, jg_litL, jg_m1, jg_m1L, nI_add, lN_add, pk_mul, jg_sub, jg_subM, jg_addM, jg_addM', jg_negM, jt_in, jt_ix, jt_bi, jt_bl, jt_bv, jt_lt, jg_dT, jg_dF, jt_c, jt_cd, ru_I, ru_L, jg_leI, jg_ltI, jg_eqI, jg_M1, jg_M2, jg_M3, jg_M4, jg_M5, jg_M6, jg_ltT, jg_ltF, jg_leT, jg_leF, jg_eqT, jg_eqF, cond_true, cond_false, ne_eq, not_true_eq_false, not_false_eq_true, decide_true, decide_false, if_true, if_false, and_true, true_and, and_false, false_and, or_true, true_or, or_false, false_or, Nat.reduceEqDiff, reduceIte, Nat.reduceMul, Nat.reduceAdd, Nat.reduceSub, Nat.add_zero, Nat.zero_add, Nat.mul_zero, eq_self_iff_true, jg_not_lt, jg_not_le, Bool.false_eq_true]
theorem sm_isSmallM (d : Nat) (m : jm_M) : jm_sem false (d + 1) jn_X12_isSmall [.inl jM] m = some (.inl (nI 0), m) := by rw [e_X12_isSmall]; simp (disch := omega) only [jg_lit, jg_litL, jg_m1, jg_m1L, nI_add, lN_add, pk_mul, jg_sub, jg_subM, jg_addM, jg_addM', jg_negM, jt_in, jt_ix, jt_bi, jt_bl, jt_bv, jt_lt, jg_dT, jg_dF, jt_c, jt_cd, ru_I, ru_L, jg_leI, jg_ltI, jg_eqI, jg_M1, jg_M2, jg_M3, jg_M4, jg_M5, jg_M6, jg_ltT, jg_ltF, jg_leT, jg_leF, jg_eqT, jg_eqF, cond_true, cond_false, ne_eq, not_true_eq_false, not_false_eq_true, decide_true, decide_false, if_true, if_false, and_true, true_and, and_false, false_and, or_true, true_or, or_false, false_or, Nat.reduceEqDiff, reduceIte, Nat.reduceMul, Nat.reduceAdd, Nat.reduceSub, Nat.add_zero, Nat.zero_add, Nat.mul_zero, eq_self_iff_true, jg_not_lt, jg_not_le]
theorem sm_isDigitM (d : Nat) (m : jm_M) : jm_sem false (d + 1) jn_X12_isDigit [.inl jM] m = some (.inl (nI 0), m) := by rw [e_X12_isDigit]; simp (disch := omega) only [jg_lit, jg_litL, jg_m1, jg_m1L, nI_add, lN_add, pk_mul, jg_sub, jg_subM, jg_addM, jg_addM', jg_negM, jt_in, jt_ix, jt_bi, jt_bl, jt_bv, jt_lt, jg_dT, jg_dF, jt_c, jt_cd, ru_I, ru_L, jg_leI, jg_ltI, jg_eqI, jg_M1, jg_M2, jg_M3, jg_M4, jg_M5, jg_M6, jg_ltT, jg_ltF, jg_leT, jg_leF, jg_eqT, jg_eqF, cond_true, cond_false, ne_eq, not_true_eq_false, not_false_eq_true, decide_true, decide_false, if_true, if_false, and_true, true_and, and_false, false_and, or_true, true_or, or_false, false_or, Nat.reduceEqDiff, reduceIte, Nat.reduceMul, Nat.reduceAdd, Nat.reduceSub, Nat.add_zero, Nat.zero_add, Nat.mul_zero, eq_self_iff_true, jg_not_lt, jg_not_le]
theorem sm_skip {T : Tb} (z1 : jm_V) (d : Nat) : ∀ (r p : Nat) (m : jm_M), p + r = T.1 → mTb T m → m.1 40 0 0 14 = nI p → ∃ m', jm_ev false (d + 1) 11 0 jc_X12_ahead 0 [vM, z1] [] m = jm_ev false (d + 1) 11 0 jc_X12_ahead 0 [vM, z1] [] m' ∧ m'.1 40 0 0 14 = nI (rnT T isBl r p) ∧ fr P40 m m'
  | 0, p, m, hr, h, h2 => ⟨m, rfl, h2, .rf⟩
  | r + 1, p, m, hr, h, h2 => by
    have h9 := h.1.1
    have b := sm_byT h (show p < T.1 by omega) d
    unfold rnT
    by_cases c : isBl (T.2 p) = true
    · rw [if_pos ⟨by omega, c⟩]
      obtain ⟨m', e1, e2, e3⟩ := sm_skip z1 d r (p + 1) (jm_sI m 40 0 0 14 (nI (p + 1))) (by omega) (mTb_40 h (fr_I (by unfold P40; omega))) (by rw [rd_II, if_pos ⟨rfl, rfl, rfl, rfl⟩])
      refine ⟨m', ?_, e2, (fr_I (by unfold P40; omega)).tr e3⟩
      rw [← e1]
      refine (l_X12_ahead_0 _ _ _).trans ?_
      rcases of_decide_eq_true c with c1 | c1
      · rw [c1] at b
        rw [h2, b, jt_bi, jt_df (show ¬ nI 10 = 32 by decide), cond_false, h2, b, jt_bi, jt_df (show ¬ (nI 10 ≠ 10) from fun z => z rfl), cond_false, h2, nI_1]
      · rw [c1] at b
        rw [h2, b, jt_bi, jt_dt (show nI 32 = 32 from rfl), cond_true, h2, nI_1]
    · rw [if_neg (fun z => c z.2)]
      exact ⟨m, rfl, h2, .rf⟩
theorem sm_word_loop {T : Tb} (z1 : jm_V) (d : Nat) : ∀ (r p : Nat) (m : jm_M), p + r = T.1 → mTb T m → m.1 40 0 0 14 = nI p → ∃ m', jm_ev false (d + 1) 11 0 jc_X12_ahead 81 [vM, z1] [] m = some (jm_j, jm_sI m' 40 0 0 12 (nI 2)) ∧ m'.1 40 0 0 14 = nI (rnT T isSm r p) ∧ fr (fun K _ _ k => K = 40 ∧ k = 14) m m'
  | 0, p, m, hr, h, h2 => by
    have b := sm_byE h (show p = T.1 by omega) d
    have s := sm_isSmallM d m
    refine ⟨m, ?_, h2, .rf⟩
    rw [l_X12_ahead_81]
    simp (disch := omega) only [jg_lit, jg_litL, jg_m1, jg_m1L, nI_add, lN_add, pk_mul, jg_sub, jg_subM, jg_addM, jg_addM', jg_negM, jt_in, jt_ix, jt_bi, jt_bl, jt_bv, jt_lt, jg_dT, jg_dF, jt_c, jt_cd, ru_I, ru_L, jg_leI, jg_ltI, jg_eqI, jg_M1, jg_M2, jg_M3, jg_M4, jg_M5, jg_M6, jg_ltT, jg_ltF, jg_leT, jg_leF, jg_eqT, jg_eqF, cond_true, cond_false, ne_eq, not_true_eq_false, not_false_eq_true, decide_true, decide_false, if_true, if_false, and_true, true_and, and_false, false_and, or_true, true_or, or_false, false_or, Nat.reduceEqDiff, reduceIte, Nat.reduceMul, Nat.reduceAdd, Nat.reduceSub, Nat.add_zero, Nat.zero_add, Nat.mul_zero, eq_self_iff_true, jg_not_lt, jg_not_le, h2, b, s]
  | r + 1, p, m, hr, h, h2 => by
    have h9 := h.1.1
    have b := sm_byT h (show p < T.1 by omega) d
    have s := sm_isSmall (h.1.2 p) d m
    unfold rnT
    by_cases c : isSm (T.2 p) = true
    · rw [if_pos ⟨by omega, c⟩]
      rw [c, if_pos rfl] at s
      obtain ⟨m', e1, e2, e3⟩ := sm_word_loop z1 d r (p + 1) (jm_sI m 40 0 0 14 (nI (p + 1))) (by omega) (mTb_40 h (fr_I (by unfold P40; omega))) (by rw [rd_II, if_pos ⟨rfl, rfl, rfl, rfl⟩])
      refine ⟨m', ?_, e2, (fr_I ⟨rfl, rfl⟩).tr e3⟩
      rw [← e1, l_X12_ahead_81]
      simp (disch := omega) only [jg_lit, jg_litL, jg_m1, jg_m1L, nI_add, lN_add, pk_mul, jg_sub, jg_subM, jg_addM, jg_addM', jg_negM, jt_in, jt_ix, jt_bi, jt_bl, jt_bv, jt_lt, jg_dT, jg_dF, jt_c, jt_cd, ru_I, ru_L, jg_leI, jg_ltI, jg_eqI, jg_M1, jg_M2, jg_M3, jg_M4, jg_M5, jg_M6, jg_ltT, jg_ltF, jg_leT, jg_leF, jg_eqT, jg_eqF, cond_true, cond_false, ne_eq, not_true_eq_false, not_false_eq_true, decide_true, decide_false, if_true, if_false, and_true, true_and, and_false, false_and, or_true, true_or, or_false, false_or, Nat.reduceEqDiff, reduceIte, Nat.reduceMul, Nat.reduceAdd, Nat.reduceSub, Nat.add_zero, Nat.zero_add, Nat.mul_zero, eq_self_iff_true, jg_not_lt, jg_not_le, h2, b, s]
    · rw [if_neg (fun z => c z.2)]
      rw [if_neg c] at s
      refine ⟨m, ?_, h2, .rf⟩
      rw [l_X12_ahead_81]
      simp (disch := omega) only [jg_lit, jg_litL, jg_m1, jg_m1L, nI_add, lN_add, pk_mul, jg_sub, jg_subM, jg_addM, jg_addM', jg_negM, jt_in, jt_ix, jt_bi, jt_bl, jt_bv, jt_lt, jg_dT, jg_dF, jt_c, jt_cd, ru_I, ru_L, jg_leI, jg_ltI, jg_eqI, jg_M1, jg_M2, jg_M3, jg_M4, jg_M5, jg_M6, jg_ltT, jg_ltF, jg_leT, jg_leF, jg_eqT, jg_eqF, cond_true, cond_false, ne_eq, not_true_eq_false, not_false_eq_true, decide_true, decide_false, if_true, if_false, and_true, true_and, and_false, false_and, or_true, true_or, or_false, false_or, Nat.reduceEqDiff, reduceIte, Nat.reduceMul, Nat.reduceAdd, Nat.reduceSub, Nat.add_zero, Nat.zero_add, Nat.mul_zero, eq_self_iff_true, jg_not_lt, jg_not_le, h2, b, s]
def vmT (T : Tb) (a : Nat) : Nat → Nat
  | 0 => 0
  | r + 1 => min 100000 (10 * vmT T a r + (T.2 (a + r) - 48))
theorem vmT_le (T : Tb) (a : Nat) : ∀ n, vmT T a n ≤ 100000
  | 0 => Nat.zero_le _
  | n + 1 => by unfold vmT; omega
theorem nm_lt {T : Tb} {a : Nat} : ∀ n, (∀ i, i < n → T.2 (a + i) ≤ 57) → nm T a n < 10 ^ n
  | 0, _ => Nat.one_pos
  | n + 1, h => by
    have h1 := nm_lt n (fun i hi => h i (by omega))
    have h2 := h n (by omega)
    show 10 * nm T a n + (T.2 (a + n) - 48) < 10 ^ (n + 1)
    rw [Nat.pow_succ]
    omega
theorem vmT_nm {T : Tb} {a : Nat} : ∀ n, n ≤ 4 → (∀ i, i < n → T.2 (a + i) ≤ 57) → vmT T a n = nm T a n
  | 0, _, _ => rfl
  | n + 1, h4, h => by
    have h1 := nm_lt (n + 1) h
    have h2 : 10 ^ (n + 1) ≤ 10 ^ 4 := Nat.pow_le_pow_right (by decide) h4
    unfold vmT
    rw [vmT_nm n (by omega) (fun i hi => h i (by omega))]
    have e : nm T a (n + 1) = 10 * nm T a n + (T.2 (a + n) - 48) := rfl
    rw [← e]
    omega
theorem if_min (x : Nat) : (if x < 100000 then nI x else nI 100000) = nI (min 100000 x) := by
  split
  · rw [Nat.min_eq_right (by omega)]
  · rw [Nat.min_eq_left (by omega)]
theorem sm_num_loop {T : Tb} {a : Nat} (z1 : jm_V) (d : Nat) : ∀ (r p : Nat) (m : jm_M), p + r = T.1 → a ≤ p → mTb T m → m.1 40 0 0 14 = nI p → m.1 40 0 0 13 = nI a → m.1 40 0 0 15 = nI (vmT T a (p - a)) → ∃ m', jm_ev false (d + 1) 11 0 jc_X12_ahead 128 [vM, z1] [] m = some (jm_j, jm_sI m' 40 0 0 12 (nI (if rnT T isDg r p - a ≤ 4 then 3 else 1))) ∧ m'.1 40 0 0 14 = nI (rnT T isDg r p) ∧ m'.1 40 0 0 15 = nI (vmT T a (rnT T isDg r p - a)) ∧ fr (fun K _ _ k => K = 40 ∧ (k = 14 ∨ k = 15)) m m'
  | 0, p, m, hr, ha, h, h2, h3, h5 => by
    have h9 := h.1.1
    have b := sm_byE h (show p = T.1 by omega) d
    have s := sm_isDigitM d m
    refine ⟨m, ?_, h2, h5, .rf⟩
    have e : rnT T isDg 0 p = p := rfl
    rw [l_X12_ahead_128, e]
    by_cases c4 : p - a ≤ 4
    · rw [if_pos c4]; simp (disch := omega) only [jg_lit, jg_litL, jg_m1, jg_m1L, nI_add, lN_add, pk_mul, jg_sub, jg_subM, jg_addM, jg_addM', jg_negM, jt_in, jt_ix, jt_bi, jt_bl, jt_bv, jt_lt, jg_dT, jg_dF, jt_c, jt_cd, ru_I, ru_L, jg_leI, jg_ltI, jg_eqI, jg_M1, jg_M2, jg_M3, jg_M4, jg_M5, jg_M6, jg_ltT, jg_ltF, jg_leT, jg_leF, jg_eqT, jg_eqF, cond_true, cond_false, ne_eq, not_true_eq_false, not_false_eq_true, decide_true, decide_false, if_true, if_false, and_true, true_and, and_false, false_and, or_true, true_or, or_false, false_or, Nat.reduceEqDiff, reduceIte, Nat.reduceMul, Nat.reduceAdd, Nat.reduceSub, Nat.add_zero, Nat.zero_add, Nat.mul_zero, eq_self_iff_true, jg_not_lt, jg_not_le, h2, h3, b, s]
    · rw [if_neg c4]; simp (disch := omega) only [jg_lit, jg_litL, jg_m1, jg_m1L, nI_add, lN_add, pk_mul, jg_sub, jg_subM, jg_addM, jg_addM', jg_negM, jt_in, jt_ix, jt_bi, jt_bl, jt_bv, jt_lt, jg_dT, jg_dF, jt_c, jt_cd, ru_I, ru_L, jg_leI, jg_ltI, jg_eqI, jg_M1, jg_M2, jg_M3, jg_M4, jg_M5, jg_M6, jg_ltT, jg_ltF, jg_leT, jg_leF, jg_eqT, jg_eqF, cond_true, cond_false, ne_eq, not_true_eq_false, not_false_eq_true, decide_true, decide_false, if_true, if_false, and_true, true_and, and_false, false_and, or_true, true_or, or_false, false_or, Nat.reduceEqDiff, reduceIte, Nat.reduceMul, Nat.reduceAdd, Nat.reduceSub, Nat.add_zero, Nat.zero_add, Nat.mul_zero, eq_self_iff_true, jg_not_lt, jg_not_le, h2, h3, b, s]
  | r + 1, p, m, hr, ha, h, h2, h3, h5 => by
    have h9 := h.1.1
    have b := sm_byT h (show p < T.1 by omega) d
    have s := sm_isDigit (h.1.2 p) d m
    by_cases c : isDg (T.2 p) = true
    · have eR : rnT T isDg (r + 1) p = rnT T isDg r (p + 1) := if_pos ⟨by omega, c⟩
      rw [eR]
      rw [c, if_pos rfl] at s
      have cc := of_decide_eq_true c
      have vl := vmT_le T a (p - a)
      have ev : min 100000 (10 * vmT T a (p - a) + T.2 p - 48) = vmT T a (p + 1 - a) := by
        rw [show p + 1 - a = (p - a) + 1 by omega]
        have : vmT T a (p - a + 1) = min 100000 (10 * vmT T a (p - a) + (T.2 (a + (p - a)) - 48)) := rfl
        rw [this, show a + (p - a) = p by omega]
        omega
      obtain ⟨m', e1, e2, e3, e4⟩ := sm_num_loop (a := a) z1 d r (p + 1) (jm_sI (jm_sI m 40 0 0 15 (nI (vmT T a (p + 1 - a)))) 40 0 0 14 (nI (p + 1))) (by omega) (by omega) (mTb_40 h (fr_sI (fr_I (by unfold P40; omega)) (by unfold P40; omega))) (by rw [rd_II, if_pos ⟨rfl, rfl, rfl, rfl⟩]) (by rw [rd_II, if_neg (by omega), rd_II, if_neg (by omega)]; exact h3) (by rw [rd_II, if_neg (by omega), rd_II, if_pos ⟨rfl, rfl, rfl, rfl⟩])
      refine ⟨m', ?_, e2, e3, (fr_sI (fr_I ⟨rfl, Or.inr rfl⟩) ⟨rfl, Or.inl rfl⟩).tr e4⟩
      rw [← e1, l_X12_ahead_128]
      simp (disch := omega) only [jg_lit, jg_litL, jg_m1, jg_m1L, nI_add, lN_add, pk_mul, jg_sub, jg_subM, jg_addM, jg_addM', jg_negM, jt_in, jt_ix, jt_bi, jt_bl, jt_bv, jt_lt, jg_dT, jg_dF, jt_c, jt_cd, ru_I, ru_L, jg_leI, jg_ltI, jg_eqI, jg_M1, jg_M2, jg_M3, jg_M4, jg_M5, jg_M6, jg_ltT, jg_ltF, jg_leT, jg_leF, jg_eqT, jg_eqF, cond_true, cond_false, ne_eq, not_true_eq_false, not_false_eq_true, decide_true, decide_false, if_true, if_false, and_true, true_and, and_false, false_and, or_true, true_or, or_false, false_or, Nat.reduceEqDiff, reduceIte, Nat.reduceMul, Nat.reduceAdd, Nat.reduceSub, Nat.add_zero, Nat.zero_add, Nat.mul_zero, eq_self_iff_true, jg_not_lt, jg_not_le, h2, h5, b, s, if_min, ev]
    · have eR : rnT T isDg (r + 1) p = p := if_neg (fun z => c z.2)
      rw [eR]
      rw [if_neg c] at s
      refine ⟨m, ?_, h2, h5, .rf⟩
      rw [l_X12_ahead_128]
      by_cases c4 : p - a ≤ 4
      · rw [if_pos c4]; simp (disch := omega) only [jg_lit, jg_litL, jg_m1, jg_m1L, nI_add, lN_add, pk_mul, jg_sub, jg_subM, jg_addM, jg_addM', jg_negM, jt_in, jt_ix, jt_bi, jt_bl, jt_bv, jt_lt, jg_dT, jg_dF, jt_c, jt_cd, ru_I, ru_L, jg_leI, jg_ltI, jg_eqI, jg_M1, jg_M2, jg_M3, jg_M4, jg_M5, jg_M6, jg_ltT, jg_ltF, jg_leT, jg_leF, jg_eqT, jg_eqF, cond_true, cond_false, ne_eq, not_true_eq_false, not_false_eq_true, decide_true, decide_false, if_true, if_false, and_true, true_and, and_false, false_and, or_true, true_or, or_false, false_or, Nat.reduceEqDiff, reduceIte, Nat.reduceMul, Nat.reduceAdd, Nat.reduceSub, Nat.add_zero, Nat.zero_add, Nat.mul_zero, eq_self_iff_true, jg_not_lt, jg_not_le, h2, h3, b, s]
      · rw [if_neg c4]; simp (disch := omega) only [jg_lit, jg_litL, jg_m1, jg_m1L, nI_add, lN_add, pk_mul, jg_sub, jg_subM, jg_addM, jg_addM', jg_negM, jt_in, jt_ix, jt_bi, jt_bl, jt_bv, jt_lt, jg_dT, jg_dF, jt_c, jt_cd, ru_I, ru_L, jg_leI, jg_ltI, jg_eqI, jg_M1, jg_M2, jg_M3, jg_M4, jg_M5, jg_M6, jg_ltT, jg_ltF, jg_leT, jg_leF, jg_eqT, jg_eqF, cond_true, cond_false, ne_eq, not_true_eq_false, not_false_eq_true, decide_true, decide_false, if_true, if_false, and_true, true_and, and_false, false_and, or_true, true_or, or_false, false_or, Nat.reduceEqDiff, reduceIte, Nat.reduceMul, Nat.reduceAdd, Nat.reduceSub, Nat.add_zero, Nat.zero_add, Nat.mul_zero, eq_self_iff_true, jg_not_lt, jg_not_le, h2, h3, b, s]
theorem blk_stop {T : Tb} : ∀ (r p : Nat), p + r = T.1 → rnT T isBl r p < T.1 → isBl (T.2 (rnT T isBl r p)) = false
  | 0, p, hr, h => by have h : p < T.1 := h; omega
  | r + 1, p, hr, h => by
    unfold rnT at h ⊢
    split
    · rename_i c
      rw [if_pos c] at h
      exact blk_stop r (p + 1) (by omega) h
    · rename_i c
      rw [if_neg c] at h
      cases hb : isBl (T.2 p) with
      | false => rfl
      | true => exact absurd ⟨h, hb⟩ c
theorem sm_ahead0 {T : Tb} {a : Nat} (ha : a ≤ T.1) (hb : a < T.1 → isBl (T.2 a) = false) (z1 : jm_V) (d : Nat) {m : jm_M} (h : mTb T m) (h2 : m.1 40 0 0 14 = nI a) : ∃ m', jm_ev false (d + 1) 11 0 jc_X12_ahead 0 [vM, z1] [] m = some (jm_j, m') ∧ mTk T a m' ∧ fr P40 m m' := by
  have h9 := h.1.1
  have bm := sm_by h ha d
  have f1 : fr P40 m (jm_sI m 40 0 0 13 (nI a)) := fr_I (by unfold P40; omega)
  have h1 := mTb_40 h f1
  have bm1 := sm_by h1 ha d
  have g14 : (jm_sI m 40 0 0 13 (nI a)).1 40 0 0 14 = nI a := by rw [rd_II, if_neg (by omega)]; exact h2
  by_cases c0 : T.1 ≤ a
  · rw [if_neg (by omega)] at bm bm1
    have st := l_X12_ahead_0 (d + 1) z1 m
    rw [h2, bm, jt_bi, jt_df (show ¬ jM = 32 by decide), cond_false, h2, bm, jt_bi, jt_dt (show jM ≠ 10 by decide), cond_true, h2, g14, bm1, jt_bi] at st
    have k0 : tkK T a = 0 := tkK_0.mpr c0
    have e0 : tkE T a = a := by unfold tkE; rw [if_pos c0]
    refine ⟨jm_sI (jm_sI (jm_sI m 40 0 0 13 (nI a)) 40 0 0 15 jM) 40 0 0 12 (nI 0), ?_, ?_, f1.tr (fr_sI (fr_sI .rf (by unfold P40; omega)) (by unfold P40; omega))⟩
    · rw [st, jt_df (fun z => z rfl), cond_false]
      rfl
    · unfold mTk
      rw [k0, e0]
      refine ⟨by simp (disch := omega) only [jg_lit, jg_litL, jg_m1, jg_m1L, nI_add, lN_add, pk_mul, jg_sub, jg_subM, jg_addM, jg_addM', jg_negM, jt_in, jt_ix, jt_bi, jt_bl, jt_bv, jt_lt, jg_dT, jg_dF, jt_c, jt_cd, ru_I, ru_L, jg_leI, jg_ltI, jg_eqI, jg_M1, jg_M2, jg_M3, jg_M4, jg_M5, jg_M6, jg_ltT, jg_ltF, jg_leT, jg_leF, jg_eqT, jg_eqF, cond_true, cond_false, ne_eq, not_true_eq_false, not_false_eq_true, decide_true, decide_false, if_true, if_false, and_true, true_and, and_false, false_and, or_true, true_or, or_false, false_or, Nat.reduceEqDiff, reduceIte, Nat.reduceMul, Nat.reduceAdd, Nat.reduceSub, Nat.add_zero, Nat.zero_add, Nat.mul_zero, eq_self_iff_true, jg_not_lt, jg_not_le]; rfl, by simp (disch := omega) only [jg_lit, jg_litL, jg_m1, jg_m1L, nI_add, lN_add, pk_mul, jg_sub, jg_subM, jg_addM, jg_addM', jg_negM, jt_in, jt_ix, jt_bi, jt_bl, jt_bv, jt_lt, jg_dT, jg_dF, jt_c, jt_cd, ru_I, ru_L, jg_leI, jg_ltI, jg_eqI, jg_M1, jg_M2, jg_M3, jg_M4, jg_M5, jg_M6, jg_ltT, jg_ltF, jg_leT, jg_leF, jg_eqT, jg_eqF, cond_true, cond_false, ne_eq, not_true_eq_false, not_false_eq_true, decide_true, decide_false, if_true, if_false, and_true, true_and, and_false, false_and, or_true, true_or, or_false, false_or, Nat.reduceEqDiff, reduceIte, Nat.reduceMul, Nat.reduceAdd, Nat.reduceSub, Nat.add_zero, Nat.zero_add, Nat.mul_zero, eq_self_iff_true, jg_not_lt, jg_not_le], by simp (disch := omega) only [jg_lit, jg_litL, jg_m1, jg_m1L, nI_add, lN_add, pk_mul, jg_sub, jg_subM, jg_addM, jg_addM', jg_negM, jt_in, jt_ix, jt_bi, jt_bl, jt_bv, jt_lt, jg_dT, jg_dF, jt_c, jt_cd, ru_I, ru_L, jg_leI, jg_ltI, jg_eqI, jg_M1, jg_M2, jg_M3, jg_M4, jg_M5, jg_M6, jg_ltT, jg_ltF, jg_leT, jg_leF, jg_eqT, jg_eqF, cond_true, cond_false, ne_eq, not_true_eq_false, not_false_eq_true, decide_true, decide_false, if_true, if_false, and_true, true_and, and_false, false_and, or_true, true_or, or_false, false_or, Nat.reduceEqDiff, reduceIte, Nat.reduceMul, Nat.reduceAdd, Nat.reduceSub, Nat.add_zero, Nat.zero_add, Nat.mul_zero, eq_self_iff_true, jg_not_lt, jg_not_le]; exact h2, fun z => by omega, fun z => by omega⟩
  · have ca : a < T.1 := by omega
    have c256 := h.1.2 a
    have nb := of_decide_eq_false (hb ca)
    have n1 : T.2 a ≠ 10 := fun z => nb (Or.inl z)
    have n2 : T.2 a ≠ 32 := fun z => nb (Or.inr z)
    rw [if_pos ca] at bm bm1
    have st := l_X12_ahead_0 (d + 1) z1 m
    rw [h2, bm, jt_bi, jt_df (show ¬ nI (T.2 a) = 32 from fun z => n2 ((nI_eq (b := 32) (by omega) (by decide)).mp z)), cond_false, h2, bm, jt_bi, jt_dt (show nI (T.2 a) ≠ 10 from fun z => n1 ((nI_eq (b := 10) (by omega) (by decide)).mp z)), cond_true, h2, g14, bm1, jt_bi] at st
    rw [jt_dt (show nI (T.2 a) ≠ -1 from jt_m1 (by omega)), cond_true] at st
    have f2 : fr P40 m (jm_sI (jm_sI m 40 0 0 13 (nI a)) 40 0 0 15 (nI (T.2 a))) := f1.tr (fr_I (by unfold P40; omega))
    have h3 := mTb_40 h f2
    have is := sm_isSmall c256 d (jm_sI (jm_sI m 40 0 0 13 (nI a)) 40 0 0 15 (nI (T.2 a)))
    by_cases c1 : isSm (T.2 a) = true
    · have k1 : tkK T a = 1 := by unfold tkK; rw [if_neg c0, if_pos c1]
      have e1 : tkE T a = rnT T isSm (T.1 - a) a := (tkK_w k1).2.2
      rw [c1, if_pos rfl] at is
      obtain ⟨m1, u1, u2, u3⟩ := sm_word_loop (.inl (nI (T.2 a))) d (T.1 - a) a _ (by omega) h3 (by simp (disch := omega) only [jg_lit, jg_litL, jg_m1, jg_m1L, nI_add, lN_add, pk_mul, jg_sub, jg_subM, jg_addM, jg_addM', jg_negM, jt_in, jt_ix, jt_bi, jt_bl, jt_bv, jt_lt, jg_dT, jg_dF, jt_c, jt_cd, ru_I, ru_L, jg_leI, jg_ltI, jg_eqI, jg_M1, jg_M2, jg_M3, jg_M4, jg_M5, jg_M6, jg_ltT, jg_ltF, jg_leT, jg_leF, jg_eqT, jg_eqF, cond_true, cond_false, ne_eq, not_true_eq_false, not_false_eq_true, decide_true, decide_false, if_true, if_false, and_true, true_and, and_false, false_and, or_true, true_or, or_false, false_or, Nat.reduceEqDiff, reduceIte, Nat.reduceMul, Nat.reduceAdd, Nat.reduceSub, Nat.add_zero, Nat.zero_add, Nat.mul_zero, eq_self_iff_true, jg_not_lt, jg_not_le]; exact h2)
      rw [← e1] at u2
      refine ⟨jm_sI m1 40 0 0 12 (nI 2), ?_, ?_, (f2.tr (u3.wk (fun K i j k z => by unfold P40; omega))).tr (fr_I (by unfold P40; omega))⟩
      · rw [← u1, st, is, jt_bi, show decide (nI 1 = 0) = false by decide, cond_false]
      · unfold mTk
        rw [k1]
        refine ⟨by simp (disch := omega) only [jg_lit, jg_litL, jg_m1, jg_m1L, nI_add, lN_add, pk_mul, jg_sub, jg_subM, jg_addM, jg_addM', jg_negM, jt_in, jt_ix, jt_bi, jt_bl, jt_bv, jt_lt, jg_dT, jg_dF, jt_c, jt_cd, ru_I, ru_L, jg_leI, jg_ltI, jg_eqI, jg_M1, jg_M2, jg_M3, jg_M4, jg_M5, jg_M6, jg_ltT, jg_ltF, jg_leT, jg_leF, jg_eqT, jg_eqF, cond_true, cond_false, ne_eq, not_true_eq_false, not_false_eq_true, decide_true, decide_false, if_true, if_false, and_true, true_and, and_false, false_and, or_true, true_or, or_false, false_or, Nat.reduceEqDiff, reduceIte, Nat.reduceMul, Nat.reduceAdd, Nat.reduceSub, Nat.add_zero, Nat.zero_add, Nat.mul_zero, eq_self_iff_true, jg_not_lt, jg_not_le]; rfl, ?_, by simp (disch := omega) only [jg_lit, jg_litL, jg_m1, jg_m1L, nI_add, lN_add, pk_mul, jg_sub, jg_subM, jg_addM, jg_addM', jg_negM, jt_in, jt_ix, jt_bi, jt_bl, jt_bv, jt_lt, jg_dT, jg_dF, jt_c, jt_cd, ru_I, ru_L, jg_leI, jg_ltI, jg_eqI, jg_M1, jg_M2, jg_M3, jg_M4, jg_M5, jg_M6, jg_ltT, jg_ltF, jg_leT, jg_leF, jg_eqT, jg_eqF, cond_true, cond_false, ne_eq, not_true_eq_false, not_false_eq_true, decide_true, decide_false, if_true, if_false, and_true, true_and, and_false, false_and, or_true, true_or, or_false, false_or, Nat.reduceEqDiff, reduceIte, Nat.reduceMul, Nat.reduceAdd, Nat.reduceSub, Nat.add_zero, Nat.zero_add, Nat.mul_zero, eq_self_iff_true, jg_not_lt, jg_not_le]; exact u2, fun z => by omega, fun z => by omega⟩
        rw [rd_II, if_neg (by omega), (u3 40 0 0 13 (by omega)).1]
        simp (disch := omega) only [jg_lit, jg_litL, jg_m1, jg_m1L, nI_add, lN_add, pk_mul, jg_sub, jg_subM, jg_addM, jg_addM', jg_negM, jt_in, jt_ix, jt_bi, jt_bl, jt_bv, jt_lt, jg_dT, jg_dF, jt_c, jt_cd, ru_I, ru_L, jg_leI, jg_ltI, jg_eqI, jg_M1, jg_M2, jg_M3, jg_M4, jg_M5, jg_M6, jg_ltT, jg_ltF, jg_leT, jg_leF, jg_eqT, jg_eqF, cond_true, cond_false, ne_eq, not_true_eq_false, not_false_eq_true, decide_true, decide_false, if_true, if_false, and_true, true_and, and_false, false_and, or_true, true_or, or_false, false_or, Nat.reduceEqDiff, reduceIte, Nat.reduceMul, Nat.reduceAdd, Nat.reduceSub, Nat.add_zero, Nat.zero_add, Nat.mul_zero, eq_self_iff_true, jg_not_lt, jg_not_le]
    · rw [if_neg c1] at is
      have id := sm_isDigit c256 d (jm_sI (jm_sI m 40 0 0 13 (nI a)) 40 0 0 15 (nI (T.2 a)))
      by_cases c2 : isDg (T.2 a) = true
      · have e1 : tkE T a = rnT T isDg (T.1 - a) a := by unfold tkE; rw [if_neg c0, if_neg c1, if_pos c2]
        have k1 : tkK T a = if tkE T a - a ≤ 4 then 2 else 4 := by
          show (if T.1 ≤ a then 0 else if isSm (T.2 a) then 1 else if isDg (T.2 a) then (if tkE T a - a ≤ 4 then 2 else 4) else _) = _
          rw [if_neg c0, if_neg c1, if_pos c2]
        rw [c2, if_pos rfl] at id
        obtain ⟨m1, u1, u2, u3, u4⟩ := sm_num_loop (a := a) (.inl (nI (T.2 a))) d (T.1 - a) a (jm_sI (jm_sI (jm_sI m 40 0 0 13 (nI a)) 40 0 0 15 (nI (T.2 a))) 40 0 0 15 (nI 0)) (by omega) (Nat.le_refl a) (mTb_40 h3 (fr_I (by unfold P40; omega))) (by simp (disch := omega) only [jg_lit, jg_litL, jg_m1, jg_m1L, nI_add, lN_add, pk_mul, jg_sub, jg_subM, jg_addM, jg_addM', jg_negM, jt_in, jt_ix, jt_bi, jt_bl, jt_bv, jt_lt, jg_dT, jg_dF, jt_c, jt_cd, ru_I, ru_L, jg_leI, jg_ltI, jg_eqI, jg_M1, jg_M2, jg_M3, jg_M4, jg_M5, jg_M6, jg_ltT, jg_ltF, jg_leT, jg_leF, jg_eqT, jg_eqF, cond_true, cond_false, ne_eq, not_true_eq_false, not_false_eq_true, decide_true, decide_false, if_true, if_false, and_true, true_and, and_false, false_and, or_true, true_or, or_false, false_or, Nat.reduceEqDiff, reduceIte, Nat.reduceMul, Nat.reduceAdd, Nat.reduceSub, Nat.add_zero, Nat.zero_add, Nat.mul_zero, eq_self_iff_true, jg_not_lt, jg_not_le]; exact h2) (by simp (disch := omega) only [jg_lit, jg_litL, jg_m1, jg_m1L, nI_add, lN_add, pk_mul, jg_sub, jg_subM, jg_addM, jg_addM', jg_negM, jt_in, jt_ix, jt_bi, jt_bl, jt_bv, jt_lt, jg_dT, jg_dF, jt_c, jt_cd, ru_I, ru_L, jg_leI, jg_ltI, jg_eqI, jg_M1, jg_M2, jg_M3, jg_M4, jg_M5, jg_M6, jg_ltT, jg_ltF, jg_leT, jg_leF, jg_eqT, jg_eqF, cond_true, cond_false, ne_eq, not_true_eq_false, not_false_eq_true, decide_true, decide_false, if_true, if_false, and_true, true_and, and_false, false_and, or_true, true_or, or_false, false_or, Nat.reduceEqDiff, reduceIte, Nat.reduceMul, Nat.reduceAdd, Nat.reduceSub, Nat.add_zero, Nat.zero_add, Nat.mul_zero, eq_self_iff_true, jg_not_lt, jg_not_le]) (by simp (disch := omega) only [jg_lit, jg_litL, jg_m1, jg_m1L, nI_add, lN_add, pk_mul, jg_sub, jg_subM, jg_addM, jg_addM', jg_negM, jt_in, jt_ix, jt_bi, jt_bl, jt_bv, jt_lt, jg_dT, jg_dF, jt_c, jt_cd, ru_I, ru_L, jg_leI, jg_ltI, jg_eqI, jg_M1, jg_M2, jg_M3, jg_M4, jg_M5, jg_M6, jg_ltT, jg_ltF, jg_leT, jg_leF, jg_eqT, jg_eqF, cond_true, cond_false, ne_eq, not_true_eq_false, not_false_eq_true, decide_true, decide_false, if_true, if_false, and_true, true_and, and_false, false_and, or_true, true_or, or_false, false_or, Nat.reduceEqDiff, reduceIte, Nat.reduceMul, Nat.reduceAdd, Nat.reduceSub, Nat.add_zero, Nat.zero_add, Nat.mul_zero, eq_self_iff_true, jg_not_lt, jg_not_le, Nat.sub_self]; rfl)
        rw [← e1] at u1 u2 u3
        have dg : ∀ i, i < tkE T a - a → T.2 (a + i) ≤ 57 := fun i hi => by
          have := (rnT_le T isDg (T.1 - a) a).2.2 (a + i) (by omega) (by omega)
          exact (of_decide_eq_true this).2
        have kd : kdM (tkK T a) = if tkE T a - a ≤ 4 then 3 else 1 := by
          rw [k1]
          split <;> rfl
        refine ⟨jm_sI m1 40 0 0 12 (nI (if tkE T a - a ≤ 4 then 3 else 1)), ?_, ?_, ((f2.tr (fr_I (by unfold P40; omega))).tr (u4.wk (fun K i j k z => by unfold P40; omega))).tr (fr_I (by unfold P40; omega))⟩
        · rw [← u1, st, is, jt_bi, show decide (nI 0 = 0) = true by decide, cond_true, id, jt_bi, show decide (nI 1 = 0) = false by decide, cond_false]
          rfl
        · refine ⟨by rw [kd]; simp (disch := omega) only [jg_lit, jg_litL, jg_m1, jg_m1L, nI_add, lN_add, pk_mul, jg_sub, jg_subM, jg_addM, jg_addM', jg_negM, jt_in, jt_ix, jt_bi, jt_bl, jt_bv, jt_lt, jg_dT, jg_dF, jt_c, jt_cd, ru_I, ru_L, jg_leI, jg_ltI, jg_eqI, jg_M1, jg_M2, jg_M3, jg_M4, jg_M5, jg_M6, jg_ltT, jg_ltF, jg_leT, jg_leF, jg_eqT, jg_eqF, cond_true, cond_false, ne_eq, not_true_eq_false, not_false_eq_true, decide_true, decide_false, if_true, if_false, and_true, true_and, and_false, false_and, or_true, true_or, or_false, false_or, Nat.reduceEqDiff, reduceIte, Nat.reduceMul, Nat.reduceAdd, Nat.reduceSub, Nat.add_zero, Nat.zero_add, Nat.mul_zero, eq_self_iff_true, jg_not_lt, jg_not_le], ?_, by simp (disch := omega) only [jg_lit, jg_litL, jg_m1, jg_m1L, nI_add, lN_add, pk_mul, jg_sub, jg_subM, jg_addM, jg_addM', jg_negM, jt_in, jt_ix, jt_bi, jt_bl, jt_bv, jt_lt, jg_dT, jg_dF, jt_c, jt_cd, ru_I, ru_L, jg_leI, jg_ltI, jg_eqI, jg_M1, jg_M2, jg_M3, jg_M4, jg_M5, jg_M6, jg_ltT, jg_ltF, jg_leT, jg_leF, jg_eqT, jg_eqF, cond_true, cond_false, ne_eq, not_true_eq_false, not_false_eq_true, decide_true, decide_false, if_true, if_false, and_true, true_and, and_false, false_and, or_true, true_or, or_false, false_or, Nat.reduceEqDiff, reduceIte, Nat.reduceMul, Nat.reduceAdd, Nat.reduceSub, Nat.add_zero, Nat.zero_add, Nat.mul_zero, eq_self_iff_true, jg_not_lt, jg_not_le]; exact u2, fun z => ?_, fun z => by rw [k1] at z; split at z <;> omega⟩
          · rw [rd_II, if_neg (by omega), (u4 40 0 0 13 (by omega)).1]
            simp (disch := omega) only [jg_lit, jg_litL, jg_m1, jg_m1L, nI_add, lN_add, pk_mul, jg_sub, jg_subM, jg_addM, jg_addM', jg_negM, jt_in, jt_ix, jt_bi, jt_bl, jt_bv, jt_lt, jg_dT, jg_dF, jt_c, jt_cd, ru_I, ru_L, jg_leI, jg_ltI, jg_eqI, jg_M1, jg_M2, jg_M3, jg_M4, jg_M5, jg_M6, jg_ltT, jg_ltF, jg_leT, jg_leF, jg_eqT, jg_eqF, cond_true, cond_false, ne_eq, not_true_eq_false, not_false_eq_true, decide_true, decide_false, if_true, if_false, and_true, true_and, and_false, false_and, or_true, true_or, or_false, false_or, Nat.reduceEqDiff, reduceIte, Nat.reduceMul, Nat.reduceAdd, Nat.reduceSub, Nat.add_zero, Nat.zero_add, Nat.mul_zero, eq_self_iff_true, jg_not_lt, jg_not_le]
          · rw [rd_II, if_neg (by omega), u3]
            have z4 : tkE T a - a ≤ 4 := by
              rw [k1] at z
              split at z
              · assumption
              · omega
            exact congrArg nI (vmT_nm _ z4 dg)
      · rw [if_neg c2] at id
        have e1 : tkE T a = a + 1 := by unfold tkE; rw [if_neg c0, if_neg c1, if_neg c2]
        have k1 : tkK T a = if isSg (T.2 a) then 3 else 4 := by
          show (if T.1 ≤ a then 0 else if isSm (T.2 a) then 1 else if isDg (T.2 a) then _ else if isSg (T.2 a) then 3 else 4) = _
          rw [if_neg c0, if_neg c1, if_neg c2]
        refine ⟨jm_sI (jm_sI (jm_sI (jm_sI m 40 0 0 13 (nI a)) 40 0 0 15 (nI (T.2 a))) 40 0 0 14 (nI (a + 1))) 40 0 0 12 (nI (kdM (tkK T a))), ?_, ?_, f2.tr (fr_sI (fr_sI .rf (by unfold P40; omega)) (by unfold P40; omega))⟩
        · rw [st, is, jt_bi, show decide (nI 0 = 0) = true by decide, cond_true, id, jt_bi, show decide (nI 0 = 0) = true by decide, cond_true, k1]
          cases c3 : isSg (T.2 a) with
          | true =>
            have kd : kdM (if true = true then 3 else 4) = 4 := rfl
            rw [kd]
            rcases of_decide_eq_true c3 with z | z | z | z | z | z
            all_goals rw [z]
            all_goals simp (disch := omega) only [jg_lit, jg_litL, jg_m1, jg_m1L, nI_add, lN_add, pk_mul, jg_sub, jg_subM, jg_addM, jg_addM', jg_negM, jt_in, jt_ix, jt_bi, jt_bl, jt_bv, jt_lt, jg_dT, jg_dF, jt_c, jt_cd, ru_I, ru_L, jg_leI, jg_ltI, jg_eqI, jg_M1, jg_M2, jg_M3, jg_M4, jg_M5, jg_M6, jg_ltT, jg_ltF, jg_leT, jg_leF, jg_eqT, jg_eqF, cond_true, cond_false, ne_eq, not_true_eq_false, not_false_eq_true, decide_true, decide_false, if_true, if_false, and_true, true_and, and_false, false_and, or_true, true_or, or_false, false_or, Nat.reduceEqDiff, reduceIte, Nat.reduceMul, Nat.reduceAdd, Nat.reduceSub, Nat.add_zero, Nat.zero_add, Nat.mul_zero, eq_self_iff_true, jg_not_lt, jg_not_le, h2]
          | false =>
            have kd : kdM (if false = true then 3 else 4) = 1 := rfl
            rw [kd]
            have z := of_decide_eq_false c3
            have z1 : T.2 a ≠ 59 := fun y => z (Or.inl y)
            have z2 : T.2 a ≠ 60 := fun y => z (Or.inr (Or.inl y))
            have z3 : T.2 a ≠ 62 := fun y => z (Or.inr (Or.inr (Or.inl y)))
            have z4 : T.2 a ≠ 61 := fun y => z (Or.inr (Or.inr (Or.inr (Or.inl y))))
            have z5 : T.2 a ≠ 40 := fun y => z (Or.inr (Or.inr (Or.inr (Or.inr (Or.inl y)))))
            have z6 : T.2 a ≠ 41 := fun y => z (Or.inr (Or.inr (Or.inr (Or.inr (Or.inr y)))))
            simp (disch := omega) only [jg_lit, jg_litL, jg_m1, jg_m1L, nI_add, lN_add, pk_mul, jg_sub, jg_subM, jg_addM, jg_addM', jg_negM, jt_in, jt_ix, jt_bi, jt_bl, jt_bv, jt_lt, jg_dT, jg_dF, jt_c, jt_cd, ru_I, ru_L, jg_leI, jg_ltI, jg_eqI, jg_M1, jg_M2, jg_M3, jg_M4, jg_M5, jg_M6, jg_ltT, jg_ltF, jg_leT, jg_leF, jg_eqT, jg_eqF, cond_true, cond_false, ne_eq, not_true_eq_false, not_false_eq_true, decide_true, decide_false, if_true, if_false, and_true, true_and, and_false, false_and, or_true, true_or, or_false, false_or, Nat.reduceEqDiff, reduceIte, Nat.reduceMul, Nat.reduceAdd, Nat.reduceSub, Nat.add_zero, Nat.zero_add, Nat.mul_zero, eq_self_iff_true, jg_not_lt, jg_not_le, h2]
        · unfold mTk
          rw [e1]
          refine ⟨by simp (disch := omega) only [jg_lit, jg_litL, jg_m1, jg_m1L, nI_add, lN_add, pk_mul, jg_sub, jg_subM, jg_addM, jg_addM', jg_negM, jt_in, jt_ix, jt_bi, jt_bl, jt_bv, jt_lt, jg_dT, jg_dF, jt_c, jt_cd, ru_I, ru_L, jg_leI, jg_ltI, jg_eqI, jg_M1, jg_M2, jg_M3, jg_M4, jg_M5, jg_M6, jg_ltT, jg_ltF, jg_leT, jg_leF, jg_eqT, jg_eqF, cond_true, cond_false, ne_eq, not_true_eq_false, not_false_eq_true, decide_true, decide_false, if_true, if_false, and_true, true_and, and_false, false_and, or_true, true_or, or_false, false_or, Nat.reduceEqDiff, reduceIte, Nat.reduceMul, Nat.reduceAdd, Nat.reduceSub, Nat.add_zero, Nat.zero_add, Nat.mul_zero, eq_self_iff_true, jg_not_lt, jg_not_le], by simp (disch := omega) only [jg_lit, jg_litL, jg_m1, jg_m1L, nI_add, lN_add, pk_mul, jg_sub, jg_subM, jg_addM, jg_addM', jg_negM, jt_in, jt_ix, jt_bi, jt_bl, jt_bv, jt_lt, jg_dT, jg_dF, jt_c, jt_cd, ru_I, ru_L, jg_leI, jg_ltI, jg_eqI, jg_M1, jg_M2, jg_M3, jg_M4, jg_M5, jg_M6, jg_ltT, jg_ltF, jg_leT, jg_leF, jg_eqT, jg_eqF, cond_true, cond_false, ne_eq, not_true_eq_false, not_false_eq_true, decide_true, decide_false, if_true, if_false, and_true, true_and, and_false, false_and, or_true, true_or, or_false, false_or, Nat.reduceEqDiff, reduceIte, Nat.reduceMul, Nat.reduceAdd, Nat.reduceSub, Nat.add_zero, Nat.zero_add, Nat.mul_zero, eq_self_iff_true, jg_not_lt, jg_not_le], by simp (disch := omega) only [jg_lit, jg_litL, jg_m1, jg_m1L, nI_add, lN_add, pk_mul, jg_sub, jg_subM, jg_addM, jg_addM', jg_negM, jt_in, jt_ix, jt_bi, jt_bl, jt_bv, jt_lt, jg_dT, jg_dF, jt_c, jt_cd, ru_I, ru_L, jg_leI, jg_ltI, jg_eqI, jg_M1, jg_M2, jg_M3, jg_M4, jg_M5, jg_M6, jg_ltT, jg_ltF, jg_leT, jg_leF, jg_eqT, jg_eqF, cond_true, cond_false, ne_eq, not_true_eq_false, not_false_eq_true, decide_true, decide_false, if_true, if_false, and_true, true_and, and_false, false_and, or_true, true_or, or_false, false_or, Nat.reduceEqDiff, reduceIte, Nat.reduceMul, Nat.reduceAdd, Nat.reduceSub, Nat.add_zero, Nat.zero_add, Nat.mul_zero, eq_self_iff_true, jg_not_lt, jg_not_le], fun z => by rw [k1] at z; split at z <;> omega, fun z => by simp (disch := omega) only [jg_lit, jg_litL, jg_m1, jg_m1L, nI_add, lN_add, pk_mul, jg_sub, jg_subM, jg_addM, jg_addM', jg_negM, jt_in, jt_ix, jt_bi, jt_bl, jt_bv, jt_lt, jg_dT, jg_dF, jt_c, jt_cd, ru_I, ru_L, jg_leI, jg_ltI, jg_eqI, jg_M1, jg_M2, jg_M3, jg_M4, jg_M5, jg_M6, jg_ltT, jg_ltF, jg_leT, jg_leF, jg_eqT, jg_eqF, cond_true, cond_false, ne_eq, not_true_eq_false, not_false_eq_true, decide_true, decide_false, if_true, if_false, and_true, true_and, and_false, false_and, or_true, true_or, or_false, false_or, Nat.reduceEqDiff, reduceIte, Nat.reduceMul, Nat.reduceAdd, Nat.reduceSub, Nat.add_zero, Nat.zero_add, Nat.mul_zero, eq_self_iff_true, jg_not_lt, jg_not_le]⟩
theorem sm_aheadE {T : Tb} {e : Nat} (he : e ≤ T.1) {m : jm_M} (h : mTb T m) (h2 : m.1 40 0 0 14 = nI e) (d : Nat) : ∃ m', jm_sem false (d + 2) jn_X12_ahead [vM] m = some (jm_j, m') ∧ mTk T (tkS T e) m' ∧ fr P40 m m' := by
  obtain ⟨m1, a1, a2, a3⟩ := sm_skip jm_j d (T.1 - e) e m (by omega) h h2
  have hs := tkS_le he
  obtain ⟨m2, b1, b2, b3⟩ := sm_ahead0 (a := tkS T e) hs.2 (fun z => blk_stop (T.1 - e) e (by omega) z) jm_j d (mTb_40 h a3) a2
  refine ⟨m2, ?_, b2, a3.tr b3⟩
  rw [← b1, ← a1]
  exact (e_X12_ahead _ _).trans (l_X12_ahead_0 _ _ _).symm
theorem sm_ahead {T : Tb} {a : Nat} (ha : a ≤ T.1) {m : jm_M} (h : mTb T m) (hk : mTk T a m) (d : Nat) : ∃ m', jm_sem false (d + 2) jn_X12_ahead [vM] m = some (jm_j, m') ∧ mTk T (tkX T a) m' ∧ fr P40 m m' := sm_aheadE (tkE_le ha) h hk.2.2.1 d
