/-! ===== faults (class) ===== -/
def xF (T : Tb) (a : Nat) (m : jm_M) : Prop := a ≤ T.1 ∧ xTb T m ∧ xTk T a m ∧ m.1 5 0 0 8 = nI 0 ∧ m.1 5 0 0 9 = jM
def xE (f : Ft) (m : jm_M) : Prop := 1 ≤ f.1 ∧ f.1 < 10 ∧ m.1 5 0 0 8 = nI f.1 ∧ m.1 5 0 0 9 = nI f.2
def xR (T : Tb) (r : Ft ⊕ Nat) (m : jm_M) : Prop := match r with
  | .inl f => xE f m
  | .inr b => xF T b m
def P5x (K _i _j k : Nat) : Prop := K = 5 ∧ 2 ≤ k ∧ k ≤ 9
theorem P5_x {m m' : jm_M} (f : fr P5 m m') : fr P5x m m' := f.wk (fun K i j k z => by unfold P5 at z; unfold P5x; omega)
theorem xF_fr {T : Tb} {a : Nat} {P : Nat → Nat → Nat → Nat → Prop} {m m' : jm_M} (h : xF T a m) (f : fr P m m') (h5 : ∀ k, ¬ P 5 0 0 k) (h4 : ∀ k, ¬ P 4 0 0 k) : xF T a m' := ⟨h.1, xTb_fr h.2.1 f (h5 1) h4, xTk_fr h.2.2.1 f (fun k _ _ => h5 k), by rw [(f 5 0 0 8 (h5 8)).1]; exact h.2.2.2.1, by rw [(f 5 0 0 9 (h5 9)).1]; exact h.2.2.2.2⟩
theorem xE_fr {e : Ft} {P : Nat → Nat → Nat → Nat → Prop} {m m' : jm_M} (h : xE e m) (f : fr P m m') (h5 : ∀ k, ¬ P 5 0 0 k) : xE e m' := ⟨h.1, h.2.1, by rw [(f 5 0 0 8 (h5 8)).1]; exact h.2.2.1, by rw [(f 5 0 0 9 (h5 9)).1]; exact h.2.2.2⟩
theorem sx_fineT {T : Tb} {a : Nat} {m : jm_M} (h : xF T a m) (d : Nat) : jm_sem false (d + 1) jn_X6_isFine [.inr (.inr (.inl (5, 0, 0)))] m = some (.inl (nI 1), m) := by
  have h8 := h.2.2.2.1
  rw [e_X6_isFine]; simp (disch := omega) only [jg_lit, jg_litL, jg_m1, jg_m1L, nI_add, lN_add, pk_mul, jg_sub, jg_subM, jg_addM, jg_addM', jg_negM, jt_in, jt_ix, jt_bi, jt_bl, jt_bv, jt_lt, jg_dT, jg_dF, jt_c, jt_cd, ru_I, ru_L, jg_leI, jg_ltI, jg_eqI, jg_M1, jg_M2, jg_M3, jg_M4, jg_M5, jg_M6, jg_ltT, jg_ltF, jg_leT, jg_leF, jg_eqT, jg_eqF, cond_true, cond_false, ne_eq, not_true_eq_false, not_false_eq_true, decide_true, decide_false, if_true, if_false, and_true, true_and, and_false, false_and, or_true, true_or, or_false, false_or, Nat.reduceEqDiff, reduceIte, Nat.reduceMul, Nat.reduceAdd, Nat.reduceSub, Nat.add_zero, Nat.zero_add, Nat.mul_zero, eq_self_iff_true, jg_not_lt, jg_not_le, h8]
theorem sx_fineF {f : Ft} {m : jm_M} (h : xE f m) (d : Nat) : jm_sem false (d + 1) jn_X6_isFine [.inr (.inr (.inl (5, 0, 0)))] m = some (.inl (nI 0), m) := by
  obtain ⟨h1, h2, h8, h9⟩ := h
  rw [e_X6_isFine]; simp (disch := omega) only [jg_lit, jg_litL, jg_m1, jg_m1L, nI_add, lN_add, pk_mul, jg_sub, jg_subM, jg_addM, jg_addM', jg_negM, jt_in, jt_ix, jt_bi, jt_bl, jt_bv, jt_lt, jg_dT, jg_dF, jt_c, jt_cd, ru_I, ru_L, jg_leI, jg_ltI, jg_eqI, jg_M1, jg_M2, jg_M3, jg_M4, jg_M5, jg_M6, jg_ltT, jg_ltF, jg_leT, jg_leF, jg_eqT, jg_eqF, cond_true, cond_false, ne_eq, not_true_eq_false, not_false_eq_true, decide_true, decide_false, if_true, if_false, and_true, true_and, and_false, false_and, or_true, true_or, or_false, false_or, Nat.reduceEqDiff, reduceIte, Nat.reduceMul, Nat.reduceAdd, Nat.reduceSub, Nat.add_zero, Nat.zero_add, Nat.mul_zero, eq_self_iff_true, jg_not_lt, jg_not_le, h8]
theorem sx_blame {T : Tb} {a : Nat} {m : jm_M} (h : xF T a m) {k : Nat} (hk : 1 ≤ k) (hk2 : k < 10) (d : Nat) : ∃ m', jm_sem false (d + 1) jn_X6_blame [.inr (.inr (.inl (5, 0, 0))), .inl (nI k)] m = some (jm_j, m') ∧ xE (k, a) m' ∧ fr P5x m m' := by
  have h8 := h.2.2.2.1
  have h4 := h.2.2.1.2.2.1
  refine ⟨jm_sI (jm_sI m 5 0 0 8 (nI k)) 5 0 0 9 (nI a), ?_, ⟨hk, hk2, by simp (disch := omega) only [jg_lit, jg_litL, jg_m1, jg_m1L, nI_add, lN_add, pk_mul, jg_sub, jg_subM, jg_addM, jg_addM', jg_negM, jt_in, jt_ix, jt_bi, jt_bl, jt_bv, jt_lt, jg_dT, jg_dF, jt_c, jt_cd, ru_I, ru_L, jg_leI, jg_ltI, jg_eqI, jg_M1, jg_M2, jg_M3, jg_M4, jg_M5, jg_M6, jg_ltT, jg_ltF, jg_leT, jg_leF, jg_eqT, jg_eqF, cond_true, cond_false, ne_eq, not_true_eq_false, not_false_eq_true, decide_true, decide_false, if_true, if_false, and_true, true_and, and_false, false_and, or_true, true_or, or_false, false_or, Nat.reduceEqDiff, reduceIte, Nat.reduceMul, Nat.reduceAdd, Nat.reduceSub, Nat.add_zero, Nat.zero_add, Nat.mul_zero, eq_self_iff_true, jg_not_lt, jg_not_le], by simp (disch := omega) only [jg_lit, jg_litL, jg_m1, jg_m1L, nI_add, lN_add, pk_mul, jg_sub, jg_subM, jg_addM, jg_addM', jg_negM, jt_in, jt_ix, jt_bi, jt_bl, jt_bv, jt_lt, jg_dT, jg_dF, jt_c, jt_cd, ru_I, ru_L, jg_leI, jg_ltI, jg_eqI, jg_M1, jg_M2, jg_M3, jg_M4, jg_M5, jg_M6, jg_ltT, jg_ltF, jg_leT, jg_leF, jg_eqT, jg_eqF, cond_true, cond_false, ne_eq, not_true_eq_false, not_false_eq_true, decide_true, decide_false, if_true, if_false, and_true, true_and, and_false, false_and, or_true, true_or, or_false, false_or, Nat.reduceEqDiff, reduceIte, Nat.reduceMul, Nat.reduceAdd, Nat.reduceSub, Nat.add_zero, Nat.zero_add, Nat.mul_zero, eq_self_iff_true, jg_not_lt, jg_not_le]⟩, fr_sI (fr_sI .rf (by unfold P5x; omega)) (by unfold P5x; omega)⟩
  rw [e_X6_blame]; simp (disch := omega) only [jg_lit, jg_litL, jg_m1, jg_m1L, nI_add, lN_add, pk_mul, jg_sub, jg_subM, jg_addM, jg_addM', jg_negM, jt_in, jt_ix, jt_bi, jt_bl, jt_bv, jt_lt, jg_dT, jg_dF, jt_c, jt_cd, ru_I, ru_L, jg_leI, jg_ltI, jg_eqI, jg_M1, jg_M2, jg_M3, jg_M4, jg_M5, jg_M6, jg_ltT, jg_ltF, jg_leT, jg_leF, jg_eqT, jg_eqF, cond_true, cond_false, ne_eq, not_true_eq_false, not_false_eq_true, decide_true, decide_false, if_true, if_false, and_true, true_and, and_false, false_and, or_true, true_or, or_false, false_or, Nat.reduceEqDiff, reduceIte, Nat.reduceMul, Nat.reduceAdd, Nat.reduceSub, Nat.add_zero, Nat.zero_add, Nat.mul_zero, eq_self_iff_true, jg_not_lt, jg_not_le, h8, h4]
theorem sx_blameE {f : Ft} {m : jm_M} (h : xE f m) (x : Int32) (d : Nat) : jm_sem false (d + 1) jn_X6_blame [.inr (.inr (.inl (5, 0, 0))), .inl x] m = some (jm_j, m) := by
  obtain ⟨h1, h2, h8, h9⟩ := h
  rw [e_X6_blame]; simp (disch := omega) only [jg_lit, jg_litL, jg_m1, jg_m1L, nI_add, lN_add, pk_mul, jg_sub, jg_subM, jg_addM, jg_addM', jg_negM, jt_in, jt_ix, jt_bi, jt_bl, jt_bv, jt_lt, jg_dT, jg_dF, jt_c, jt_cd, ru_I, ru_L, jg_leI, jg_ltI, jg_eqI, jg_M1, jg_M2, jg_M3, jg_M4, jg_M5, jg_M6, jg_ltT, jg_ltF, jg_leT, jg_leF, jg_eqT, jg_eqF, cond_true, cond_false, ne_eq, not_true_eq_false, not_false_eq_true, decide_true, decide_false, if_true, if_false, and_true, true_and, and_false, false_and, or_true, true_or, or_false, false_or, Nat.reduceEqDiff, reduceIte, Nat.reduceMul, Nat.reduceAdd, Nat.reduceSub, Nat.add_zero, Nat.zero_add, Nat.mul_zero, eq_self_iff_true, jg_not_lt, jg_not_le, h8]
theorem sx_blSt {T : Tb} {a : Nat} {m : jm_M} (h : xF T a m) (d : Nat) : ∃ m', jm_sem false (d + 2) jn_X6_blameStanding [.inr (.inr (.inl (5, 0, 0)))] m = some (jm_j, m') ∧ xE (flt T a) m' ∧ fr P5x m m' := by
  have h3 := h.2.2.1.2.1
  have kl := tkK_le T a
  unfold flt
  by_cases c : tkK T a = 4
  · rw [if_pos c]
    obtain ⟨m', e1, e2, e3⟩ := sx_blame h (k := 1) (by decide) (by decide) d
    refine ⟨m', ?_, e2, e3⟩
    rw [c] at h3
    rw [e_X6_blameStanding]; simp (disch := omega) only [jg_lit, jg_litL, jg_m1, jg_m1L, nI_add, lN_add, pk_mul, jg_sub, jg_subM, jg_addM, jg_addM', jg_negM, jt_in, jt_ix, jt_bi, jt_bl, jt_bv, jt_lt, jg_dT, jg_dF, jt_c, jt_cd, ru_I, ru_L, jg_leI, jg_ltI, jg_eqI, jg_M1, jg_M2, jg_M3, jg_M4, jg_M5, jg_M6, jg_ltT, jg_ltF, jg_leT, jg_leF, jg_eqT, jg_eqF, cond_true, cond_false, ne_eq, not_true_eq_false, not_false_eq_true, decide_true, decide_false, if_true, if_false, and_true, true_and, and_false, false_and, or_true, true_or, or_false, false_or, Nat.reduceEqDiff, reduceIte, Nat.reduceMul, Nat.reduceAdd, Nat.reduceSub, Nat.add_zero, Nat.zero_add, Nat.mul_zero, eq_self_iff_true, jg_not_lt, jg_not_le, h3, e1]
  · rw [if_neg c]
    obtain ⟨m', e1, e2, e3⟩ := sx_blame h (k := 2) (by decide) (by decide) d
    refine ⟨m', ?_, e2, e3⟩
    rw [e_X6_blameStanding]; simp (disch := omega) only [jg_lit, jg_litL, jg_m1, jg_m1L, nI_add, lN_add, pk_mul, jg_sub, jg_subM, jg_addM, jg_addM', jg_negM, jt_in, jt_ix, jt_bi, jt_bl, jt_bv, jt_lt, jg_dT, jg_dF, jt_c, jt_cd, ru_I, ru_L, jg_leI, jg_ltI, jg_eqI, jg_M1, jg_M2, jg_M3, jg_M4, jg_M5, jg_M6, jg_ltT, jg_ltF, jg_leT, jg_leF, jg_eqT, jg_eqF, cond_true, cond_false, ne_eq, not_true_eq_false, not_false_eq_true, decide_true, decide_false, if_true, if_false, and_true, true_and, and_false, false_and, or_true, true_or, or_false, false_or, Nat.reduceEqDiff, reduceIte, Nat.reduceMul, Nat.reduceAdd, Nat.reduceSub, Nat.add_zero, Nat.zero_add, Nat.mul_zero, eq_self_iff_true, jg_not_lt, jg_not_le, h3, e1]
theorem sx_blStE {f : Ft} {m : jm_M} (h : xE f m) (d : Nat) : jm_sem false (d + 2) jn_X6_blameStanding [.inr (.inr (.inl (5, 0, 0)))] m = some (jm_j, m) := by
  rw [e_X6_blameStanding, sx_blameE h, sx_blameE h, jt_bv]
  cases jm_dec (m.1 5 0 0 3 ≠ 4) <;> rfl
theorem sx_advF {T : Tb} {a : Nat} {m : jm_M} (h : xF T a m) (d : Nat) : ∃ m', jm_sem false (d + 8) jn_X6_advance [.inr (.inr (.inl (5, 0, 0)))] m = some (jm_j, m') ∧ xF T (tkX T a) m' ∧ fr P5 m m' := by
  obtain ⟨m', e1, e2, e3⟩ := sx_adv h.1 h.2.1 h.2.2.1 d
  exact ⟨m', e1, ⟨tkX_le h.1, xTb_5 h.2.1 e3, e2, by rw [(e3 5 0 0 8 (by unfold P5; omega)).1]; exact h.2.2.2.1, by rw [(e3 5 0 0 9 (by unfold P5; omega)).1]; exact h.2.2.2.2⟩, e3⟩
theorem sx_sign {T : Tb} {a : Nat} {m : jm_M} (h : xF T a m) {c : Nat} (hc : c < 256) (d : Nat) : jm_sem false (d + 1) jn_X6_isSign [.inr (.inr (.inl (5, 0, 0))), .inl (nI c)] m = some (.inl (if isSgn T c a then nI 1 else nI 0), m) := by
  have h3 := h.2.2.1.2.1
  have h6 := h.2.2.1.2.2.2.2.2.2.2
  have kl := tkK_le T a
  have c256 := h.2.1.1.2 a
  have nl : (nI c).toInt64 = lN c := nI_l (by omega)
  rw [e_X6_isSign]
  by_cases k3 : tkK T a = 3
  · have h6 := h6 k3
    rw [k3] at h3
    by_cases e : T.2 a = c
    · have e' : (lN (T.2 a) = lN c) = True := eq_true (by rw [e])
      rw [show isSgn T c a = true from decide_eq_true ⟨k3, e⟩]
      simp (disch := omega) only [jg_lit, jg_litL, jg_m1, jg_m1L, nI_add, lN_add, pk_mul, jg_sub, jg_subM, jg_addM, jg_addM', jg_negM, jt_in, jt_ix, jt_bi, jt_bl, jt_bv, jt_lt, jg_dT, jg_dF, jt_c, jt_cd, ru_I, ru_L, jg_leI, jg_ltI, jg_eqI, jg_M1, jg_M2, jg_M3, jg_M4, jg_M5, jg_M6, jg_ltT, jg_ltF, jg_leT, jg_leF, jg_eqT, jg_eqF, cond_true, cond_false, ne_eq, not_true_eq_false, not_false_eq_true, decide_true, decide_false, if_true, if_false, and_true, true_and, and_false, false_and, or_true, true_or, or_false, false_or, Nat.reduceEqDiff, reduceIte, Nat.reduceMul, Nat.reduceAdd, Nat.reduceSub, Nat.add_zero, Nat.zero_add, Nat.mul_zero, eq_self_iff_true, jg_not_lt, jg_not_le, h3, h6, nl, lc_eq, e']
    · have e' : (lN (T.2 a) = lN c) = False := eq_false (fun z => e ((lN_eq (by omega) (by omega)).mp z))
      rw [show isSgn T c a = false from decide_eq_false (fun z => e z.2)]
      simp (disch := omega) only [jg_lit, jg_litL, jg_m1, jg_m1L, nI_add, lN_add, pk_mul, jg_sub, jg_subM, jg_addM, jg_addM', jg_negM, jt_in, jt_ix, jt_bi, jt_bl, jt_bv, jt_lt, jg_dT, jg_dF, jt_c, jt_cd, ru_I, ru_L, jg_leI, jg_ltI, jg_eqI, jg_M1, jg_M2, jg_M3, jg_M4, jg_M5, jg_M6, jg_ltT, jg_ltF, jg_leT, jg_leF, jg_eqT, jg_eqF, cond_true, cond_false, ne_eq, not_true_eq_false, not_false_eq_true, decide_true, decide_false, if_true, if_false, and_true, true_and, and_false, false_and, or_true, true_or, or_false, false_or, Nat.reduceEqDiff, reduceIte, Nat.reduceMul, Nat.reduceAdd, Nat.reduceSub, Nat.add_zero, Nat.zero_add, Nat.mul_zero, eq_self_iff_true, jg_not_lt, jg_not_le, h3, h6, nl, lc_eq, e', Bool.false_eq_true]
  · rw [show isSgn T c a = false from decide_eq_false (fun z => k3 z.1)]
    simp (disch := omega) only [jg_lit, jg_litL, jg_m1, jg_m1L, nI_add, lN_add, pk_mul, jg_sub, jg_subM, jg_addM, jg_addM', jg_negM, jt_in, jt_ix, jt_bi, jt_bl, jt_bv, jt_lt, jg_dT, jg_dF, jt_c, jt_cd, ru_I, ru_L, jg_leI, jg_ltI, jg_eqI, jg_M1, jg_M2, jg_M3, jg_M4, jg_M5, jg_M6, jg_ltT, jg_ltF, jg_leT, jg_leF, jg_eqT, jg_eqF, cond_true, cond_false, ne_eq, not_true_eq_false, not_false_eq_true, decide_true, decide_false, if_true, if_false, and_true, true_and, and_false, false_and, or_true, true_or, or_false, false_or, Nat.reduceEqDiff, reduceIte, Nat.reduceMul, Nat.reduceAdd, Nat.reduceSub, Nat.add_zero, Nat.zero_add, Nat.mul_zero, eq_self_iff_true, jg_not_lt, jg_not_le, h3, Bool.false_eq_true]
theorem sx_isName {T : Tb} {a : Nat} {m : jm_M} (h : xF T a m) (d : Nat) : jm_sem false (d + 2) jn_X6_isName [.inr (.inr (.inl (5, 0, 0)))] m = some (.inl (if nmB T a then nI 1 else nI 0), m) ∧ jm_sem false (d + 1) jn_X6_isShortWord [.inr (.inr (.inl (5, 0, 0)))] m = some (.inl (if tkK T a = 1 ∧ (tkL T a).length ≤ 8 then nI 1 else nI 0), m) := by
  have h3 := h.2.2.1.2.1
  have h5 := h.2.2.1.2.2.2.1
  have h7 := h.2.2.1.2.2.2.2.1
  have kl := tkK_le T a
  have ln := tkL_len T a
  have te := tkE_le h.1
  have h9 := h.2.1.1.1
  have sw : jm_sem false (d + 1) jn_X6_isShortWord [.inr (.inr (.inl (5, 0, 0)))] m = some (.inl (if tkK T a = 1 ∧ (tkL T a).length ≤ 8 then nI 1 else nI 0), m) := by
    rw [e_X6_isShortWord]
    by_cases k1 : tkK T a = 1
    · by_cases l8 : (tkL T a).length ≤ 8
      · rw [if_pos ⟨k1, l8⟩]
        rw [k1] at h3
        simp (disch := omega) only [jg_lit, jg_litL, jg_m1, jg_m1L, nI_add, lN_add, pk_mul, jg_sub, jg_subM, jg_addM, jg_addM', jg_negM, jt_in, jt_ix, jt_bi, jt_bl, jt_bv, jt_lt, jg_dT, jg_dF, jt_c, jt_cd, ru_I, ru_L, jg_leI, jg_ltI, jg_eqI, jg_M1, jg_M2, jg_M3, jg_M4, jg_M5, jg_M6, jg_ltT, jg_ltF, jg_leT, jg_leF, jg_eqT, jg_eqF, cond_true, cond_false, ne_eq, not_true_eq_false, not_false_eq_true, decide_true, decide_false, if_true, if_false, and_true, true_and, and_false, false_and, or_true, true_or, or_false, false_or, Nat.reduceEqDiff, reduceIte, Nat.reduceMul, Nat.reduceAdd, Nat.reduceSub, Nat.add_zero, Nat.zero_add, Nat.mul_zero, eq_self_iff_true, jg_not_lt, jg_not_le, h3, h5]
      · rw [if_neg (fun z => l8 z.2)]
        rw [k1] at h3
        simp (disch := omega) only [jg_lit, jg_litL, jg_m1, jg_m1L, nI_add, lN_add, pk_mul, jg_sub, jg_subM, jg_addM, jg_addM', jg_negM, jt_in, jt_ix, jt_bi, jt_bl, jt_bv, jt_lt, jg_dT, jg_dF, jt_c, jt_cd, ru_I, ru_L, jg_leI, jg_ltI, jg_eqI, jg_M1, jg_M2, jg_M3, jg_M4, jg_M5, jg_M6, jg_ltT, jg_ltF, jg_leT, jg_leF, jg_eqT, jg_eqF, cond_true, cond_false, ne_eq, not_true_eq_false, not_false_eq_true, decide_true, decide_false, if_true, if_false, and_true, true_and, and_false, false_and, or_true, true_or, or_false, false_or, Nat.reduceEqDiff, reduceIte, Nat.reduceMul, Nat.reduceAdd, Nat.reduceSub, Nat.add_zero, Nat.zero_add, Nat.mul_zero, eq_self_iff_true, jg_not_lt, jg_not_le, h3, h5]
    · rw [if_neg (fun z => k1 z.1)]
      simp (disch := omega) only [jg_lit, jg_litL, jg_m1, jg_m1L, nI_add, lN_add, pk_mul, jg_sub, jg_subM, jg_addM, jg_addM', jg_negM, jt_in, jt_ix, jt_bi, jt_bl, jt_bv, jt_lt, jg_dT, jg_dF, jt_c, jt_cd, ru_I, ru_L, jg_leI, jg_ltI, jg_eqI, jg_M1, jg_M2, jg_M3, jg_M4, jg_M5, jg_M6, jg_ltT, jg_ltF, jg_leT, jg_leF, jg_eqT, jg_eqF, cond_true, cond_false, ne_eq, not_true_eq_false, not_false_eq_true, decide_true, decide_false, if_true, if_false, and_true, true_and, and_false, false_and, or_true, true_or, or_false, false_or, Nat.reduceEqDiff, reduceIte, Nat.reduceMul, Nat.reduceAdd, Nat.reduceSub, Nat.add_zero, Nat.zero_add, Nat.mul_zero, eq_self_iff_true, jg_not_lt, jg_not_le, h3]
  refine ⟨?_, sw⟩
  rw [e_X6_isName]
  unfold nmB
  by_cases c : tkK T a = 1 ∧ (tkL T a).length ≤ 8
  · rw [if_pos c] at sw
    cases hy : tkY T a with
    | none =>
      rw [hy] at h7
      have h7 : m.1 5 0 0 7 = jM := h7
      rw [decide_eq_true ⟨c.1, c.2, rfl⟩]
      simp (disch := omega) only [jg_lit, jg_litL, jg_m1, jg_m1L, nI_add, lN_add, pk_mul, jg_sub, jg_subM, jg_addM, jg_addM', jg_negM, jt_in, jt_ix, jt_bi, jt_bl, jt_bv, jt_lt, jg_dT, jg_dF, jt_c, jt_cd, ru_I, ru_L, jg_leI, jg_ltI, jg_eqI, jg_M1, jg_M2, jg_M3, jg_M4, jg_M5, jg_M6, jg_ltT, jg_ltF, jg_leT, jg_leF, jg_eqT, jg_eqF, cond_true, cond_false, ne_eq, not_true_eq_false, not_false_eq_true, decide_true, decide_false, if_true, if_false, and_true, true_and, and_false, false_and, or_true, true_or, or_false, false_or, Nat.reduceEqDiff, reduceIte, Nat.reduceMul, Nat.reduceAdd, Nat.reduceSub, Nat.add_zero, Nat.zero_add, Nat.mul_zero, eq_self_iff_true, jg_not_lt, jg_not_le, sw, h7]
    | some j =>
      rw [hy] at h7
      have h7 : m.1 5 0 0 7 = nI j := h7
      have j24 : j < 24 := by
        unfold tkY at hy
        rw [if_pos c.1] at hy
        exact (kx_some hy).1
      rw [decide_eq_false (fun z => by cases z.2.2)]
      simp (disch := omega) only [jg_lit, jg_litL, jg_m1, jg_m1L, nI_add, lN_add, pk_mul, jg_sub, jg_subM, jg_addM, jg_addM', jg_negM, jt_in, jt_ix, jt_bi, jt_bl, jt_bv, jt_lt, jg_dT, jg_dF, jt_c, jt_cd, ru_I, ru_L, jg_leI, jg_ltI, jg_eqI, jg_M1, jg_M2, jg_M3, jg_M4, jg_M5, jg_M6, jg_ltT, jg_ltF, jg_leT, jg_leF, jg_eqT, jg_eqF, cond_true, cond_false, ne_eq, not_true_eq_false, not_false_eq_true, decide_true, decide_false, if_true, if_false, and_true, true_and, and_false, false_and, or_true, true_or, or_false, false_or, Nat.reduceEqDiff, reduceIte, Nat.reduceMul, Nat.reduceAdd, Nat.reduceSub, Nat.add_zero, Nat.zero_add, Nat.mul_zero, eq_self_iff_true, jg_not_lt, jg_not_le, sw, h7, Bool.false_eq_true]
  · rw [if_neg c] at sw
    rw [decide_eq_false (fun z => c ⟨z.1, z.2.1⟩)]
    simp (disch := omega) only [jg_lit, jg_litL, jg_m1, jg_m1L, nI_add, lN_add, pk_mul, jg_sub, jg_subM, jg_addM, jg_addM', jg_negM, jt_in, jt_ix, jt_bi, jt_bl, jt_bv, jt_lt, jg_dT, jg_dF, jt_c, jt_cd, ru_I, ru_L, jg_leI, jg_ltI, jg_eqI, jg_M1, jg_M2, jg_M3, jg_M4, jg_M5, jg_M6, jg_ltT, jg_ltF, jg_leT, jg_leF, jg_eqT, jg_eqF, cond_true, cond_false, ne_eq, not_true_eq_false, not_false_eq_true, decide_true, decide_false, if_true, if_false, and_true, true_and, and_false, false_and, or_true, true_or, or_false, false_or, Nat.reduceEqDiff, reduceIte, Nat.reduceMul, Nat.reduceAdd, Nat.reduceSub, Nat.add_zero, Nat.zero_add, Nat.mul_zero, eq_self_iff_true, jg_not_lt, jg_not_le, sw, Bool.false_eq_true]
theorem tkY_lt {T : Tb} {a j : Nat} (h : tkY T a = some j) : j < 24 := by
  unfold tkY at h
  split at h
  · exact (kx_some h).1
  · cases h
theorem sx_passSign {T : Tb} {a : Nat} {m : jm_M} (h : xF T a m) {c : Nat} (hc : c < 256) (d : Nat) : ∃ m', jm_sem false (d + 9) jn_X6_passSign [.inr (.inr (.inl (5, 0, 0))), .inl (nI c)] m = some (jm_j, m') ∧ xR T (if isSgn T c a then .inr (tkX T a) else .inl (flt T a)) m' ∧ fr P5x m m' := by
  have f := sx_fineT h (d + 7)
  have s := sx_sign h hc (d + 7)
  cases hs : isSgn T c a with
  | true =>
    rw [hs, if_pos rfl] at s
    obtain ⟨m', e1, e2, e3⟩ := sx_advF h d
    refine ⟨m', ?_, e2, P5_x e3⟩
    rw [e_X6_passSign]; simp (disch := omega) only [jg_lit, jg_litL, jg_m1, jg_m1L, nI_add, lN_add, pk_mul, jg_sub, jg_subM, jg_addM, jg_addM', jg_negM, jt_in, jt_ix, jt_bi, jt_bl, jt_bv, jt_lt, jg_dT, jg_dF, jt_c, jt_cd, ru_I, ru_L, jg_leI, jg_ltI, jg_eqI, jg_M1, jg_M2, jg_M3, jg_M4, jg_M5, jg_M6, jg_ltT, jg_ltF, jg_leT, jg_leF, jg_eqT, jg_eqF, cond_true, cond_false, ne_eq, not_true_eq_false, not_false_eq_true, decide_true, decide_false, if_true, if_false, and_true, true_and, and_false, false_and, or_true, true_or, or_false, false_or, Nat.reduceEqDiff, reduceIte, Nat.reduceMul, Nat.reduceAdd, Nat.reduceSub, Nat.add_zero, Nat.zero_add, Nat.mul_zero, eq_self_iff_true, jg_not_lt, jg_not_le, f, s, e1]
  | false =>
    rw [hs, if_neg (by decide)] at s
    obtain ⟨m', e1, e2, e3⟩ := sx_blSt h (d + 6)
    refine ⟨m', ?_, e2, e3⟩
    rw [e_X6_passSign]; simp (disch := omega) only [jg_lit, jg_litL, jg_m1, jg_m1L, nI_add, lN_add, pk_mul, jg_sub, jg_subM, jg_addM, jg_addM', jg_negM, jt_in, jt_ix, jt_bi, jt_bl, jt_bv, jt_lt, jg_dT, jg_dF, jt_c, jt_cd, ru_I, ru_L, jg_leI, jg_ltI, jg_eqI, jg_M1, jg_M2, jg_M3, jg_M4, jg_M5, jg_M6, jg_ltT, jg_ltF, jg_leT, jg_leF, jg_eqT, jg_eqF, cond_true, cond_false, ne_eq, not_true_eq_false, not_false_eq_true, decide_true, decide_false, if_true, if_false, and_true, true_and, and_false, false_and, or_true, true_or, or_false, false_or, Nat.reduceEqDiff, reduceIte, Nat.reduceMul, Nat.reduceAdd, Nat.reduceSub, Nat.add_zero, Nat.zero_add, Nat.mul_zero, eq_self_iff_true, jg_not_lt, jg_not_le, f, s, e1]
theorem sx_passSignE {f : Ft} {m : jm_M} (h : xE f m) (x : Int32) (d : Nat) : jm_sem false (d + 3) jn_X6_passSign [.inr (.inr (.inl (5, 0, 0))), .inl x] m = some (jm_j, m) := by
  have f := sx_fineF h (d + 1)
  have s := sx_blStE h d
  rw [e_X6_passSign]; simp (disch := omega) only [jg_lit, jg_litL, jg_m1, jg_m1L, nI_add, lN_add, pk_mul, jg_sub, jg_subM, jg_addM, jg_addM', jg_negM, jt_in, jt_ix, jt_bi, jt_bl, jt_bv, jt_lt, jg_dT, jg_dF, jt_c, jt_cd, ru_I, ru_L, jg_leI, jg_ltI, jg_eqI, jg_M1, jg_M2, jg_M3, jg_M4, jg_M5, jg_M6, jg_ltT, jg_ltF, jg_leT, jg_leF, jg_eqT, jg_eqF, cond_true, cond_false, ne_eq, not_true_eq_false, not_false_eq_true, decide_true, decide_false, if_true, if_false, and_true, true_and, and_false, false_and, or_true, true_or, or_false, false_or, Nat.reduceEqDiff, reduceIte, Nat.reduceMul, Nat.reduceAdd, Nat.reduceSub, Nat.add_zero, Nat.zero_add, Nat.mul_zero, eq_self_iff_true, jg_not_lt, jg_not_le, f, s]
theorem sx_passKey {T : Tb} {a : Nat} {m : jm_M} (h : xF T a m) {j : Nat} (hj : j < 24) (d : Nat) : ∃ m', jm_sem false (d + 9) jn_X6_passKey [.inr (.inr (.inl (5, 0, 0))), .inl (nI j)] m = some (jm_j, m') ∧ xR T (if tkY T a = some j then .inr (tkX T a) else .inl (flt T a)) m' ∧ fr P5x m m' := by
  have f := sx_fineT h (d + 7)
  have h7 := h.2.2.1.2.2.2.2.1
  by_cases hs : tkY T a = some j
  · rw [hs] at h7
    have h7 : m.1 5 0 0 7 = nI j := h7
    rw [if_pos hs]
    obtain ⟨m', e1, e2, e3⟩ := sx_advF h d
    refine ⟨m', ?_, e2, P5_x e3⟩
    rw [e_X6_passKey]; simp (disch := omega) only [jg_lit, jg_litL, jg_m1, jg_m1L, nI_add, lN_add, pk_mul, jg_sub, jg_subM, jg_addM, jg_addM', jg_negM, jt_in, jt_ix, jt_bi, jt_bl, jt_bv, jt_lt, jg_dT, jg_dF, jt_c, jt_cd, ru_I, ru_L, jg_leI, jg_ltI, jg_eqI, jg_M1, jg_M2, jg_M3, jg_M4, jg_M5, jg_M6, jg_ltT, jg_ltF, jg_leT, jg_leF, jg_eqT, jg_eqF, cond_true, cond_false, ne_eq, not_true_eq_false, not_false_eq_true, decide_true, decide_false, if_true, if_false, and_true, true_and, and_false, false_and, or_true, true_or, or_false, false_or, Nat.reduceEqDiff, reduceIte, Nat.reduceMul, Nat.reduceAdd, Nat.reduceSub, Nat.add_zero, Nat.zero_add, Nat.mul_zero, eq_self_iff_true, jg_not_lt, jg_not_le, f, h7, e1]
  · rw [if_neg hs]
    obtain ⟨m', e1, e2, e3⟩ := sx_blSt h (d + 6)
    refine ⟨m', ?_, e2, e3⟩
    have hne : m.1 5 0 0 7 ≠ nI j := by
      rw [h7]
      cases hy : tkY T a with
      | none => exact fun z => jt_m1 (show j < 2 ^ 31 by omega) z.symm
      | some q =>
        have := tkY_lt hy
        exact fun z => hs (by rw [hy, (nI_eq (by omega) (by omega)).mp z])
    rw [e_X6_passKey, f, jt_bi, show decide (nI 1 = 0) = false by decide, cond_false, jt_dt hne, cond_true, e1, jt_bv]
theorem sx_passKeyE {f : Ft} {m : jm_M} (h : xE f m) (x : Int32) (d : Nat) : jm_sem false (d + 3) jn_X6_passKey [.inr (.inr (.inl (5, 0, 0))), .inl x] m = some (jm_j, m) := by
  have f := sx_fineF h (d + 1)
  have s := sx_blStE h d
  rw [e_X6_passKey]; simp (disch := omega) only [jg_lit, jg_litL, jg_m1, jg_m1L, nI_add, lN_add, pk_mul, jg_sub, jg_subM, jg_addM, jg_addM', jg_negM, jt_in, jt_ix, jt_bi, jt_bl, jt_bv, jt_lt, jg_dT, jg_dF, jt_c, jt_cd, ru_I, ru_L, jg_leI, jg_ltI, jg_eqI, jg_M1, jg_M2, jg_M3, jg_M4, jg_M5, jg_M6, jg_ltT, jg_ltF, jg_leT, jg_leF, jg_eqT, jg_eqF, cond_true, cond_false, ne_eq, not_true_eq_false, not_false_eq_true, decide_true, decide_false, if_true, if_false, and_true, true_and, and_false, false_and, or_true, true_or, or_false, false_or, Nat.reduceEqDiff, reduceIte, Nat.reduceMul, Nat.reduceAdd, Nat.reduceSub, Nat.add_zero, Nat.zero_add, Nat.mul_zero, eq_self_iff_true, jg_not_lt, jg_not_le, f, s]
