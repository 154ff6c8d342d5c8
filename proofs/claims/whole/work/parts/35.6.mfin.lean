/-! ===== faults and names (reference) ===== -/
def mFn (T : Tb) (a : Nat) (m : jm_M) : Prop := a ≤ T.1 ∧ mTb T m ∧ mTk T a m ∧ m.1 40 0 0 18 = nI 0 ∧ m.1 40 0 0 17 = jM
def mEr (f : Ft) (m : jm_M) : Prop := 1 ≤ f.1 ∧ f.1 < 10 ∧ m.1 40 0 0 18 = nI f.1 ∧ m.1 40 0 0 17 = nI f.2
def P40x (K _i _j k : Nat) : Prop := K = 40 ∧ 12 ≤ k ∧ k ≤ 18 ∧ k ≠ 16
theorem P40_x {m m' : jm_M} (f : fr P40 m m') : fr P40x m m' := f.wk (fun K i j k z => by unfold P40 at z; unfold P40x; omega)
theorem mFn_fr {T : Tb} {a : Nat} {P : Nat → Nat → Nat → Nat → Prop} {m m' : jm_M} (h : mFn T a m) (f : fr P m m') (h5 : ∀ k, 11 ≤ k → k ≤ 18 → ¬ P 40 0 0 k) (h4 : ∀ k, ¬ P 47 0 0 k) : mFn T a m' := ⟨h.1, mTb_fr h.2.1 f (h5 11 (by omega) (by omega)) h4, mTk_fr h.2.2.1 f (fun k h1 h2 => h5 k (by omega) (by omega)), by rw [(f 40 0 0 18 (h5 18 (by omega) (by omega))).1]; exact h.2.2.2.1, by rw [(f 40 0 0 17 (h5 17 (by omega) (by omega))).1]; exact h.2.2.2.2⟩
theorem kd_4 {k : Nat} (h : k ≤ 4) : kdM k = 1 ↔ k = 4 := by
  unfold kdM
  constructor
  · intro z
    repeat' split at z
    all_goals omega
  · intro z; rw [z]; rfl
def fltK (T : Tb) (k a : Nat) : Ft := (if tkK T a = 4 then 1 else k, a)
theorem fltK_w {T : Tb} {k a : Nat} (h : tkK T a ≠ 4) : fltK T k a = (k, a) := by unfold fltK; rw [if_neg h]
theorem sm_fails {T : Tb} {a : Nat} {m : jm_M} (h : mFn T a m) {k : Nat} (hk : 1 ≤ k) (hk2 : k < 10) (d : Nat) : ∃ m', jm_sem false (d + 1) jn_X12_fails [vM, .inl (nI k)] m = some (.inl (nI 0), m') ∧ mEr (fltK T k a) m' ∧ fr P40x m m' := by
  have h18 := h.2.2.2.1
  have h12 := h.2.2.1.1
  have h13 := h.2.2.1.2.1
  have kl := tkK_le T a
  have kd := kdM_le (tkK T a)
  have k4 := kd_4 kl
  unfold fltK
  by_cases c : tkK T a = 4
  · rw [if_pos c]
    rw [k4.mpr c] at h12
    refine ⟨jm_sI (jm_sI m 40 0 0 18 (nI 1)) 40 0 0 17 (nI a), ?_, ⟨Nat.le_refl 1, (show 1 < 10 by decide), by simp (disch := omega) only [jg_lit, jg_litL, jg_m1, jg_m1L, nI_add, lN_add, pk_mul, jg_sub, jg_subM, jg_addM, jg_addM', jg_negM, jt_in, jt_ix, jt_bi, jt_bl, jt_bv, jt_lt, jg_dT, jg_dF, jt_c, jt_cd, ru_I, ru_L, jg_leI, jg_ltI, jg_eqI, jg_M1, jg_M2, jg_M3, jg_M4, jg_M5, jg_M6, jg_ltT, jg_ltF, jg_leT, jg_leF, jg_eqT, jg_eqF, cond_true, cond_false, ne_eq, not_true_eq_false, not_false_eq_true, decide_true, decide_false, if_true, if_false, and_true, true_and, and_false, false_and, or_true, true_or, or_false, false_or, Nat.reduceEqDiff, reduceIte, Nat.reduceMul, Nat.reduceAdd, Nat.reduceSub, Nat.add_zero, Nat.zero_add, Nat.mul_zero, eq_self_iff_true, jg_not_lt, jg_not_le], by simp (disch := omega) only [jg_lit, jg_litL, jg_m1, jg_m1L, nI_add, lN_add, pk_mul, jg_sub, jg_subM, jg_addM, jg_addM', jg_negM, jt_in, jt_ix, jt_bi, jt_bl, jt_bv, jt_lt, jg_dT, jg_dF, jt_c, jt_cd, ru_I, ru_L, jg_leI, jg_ltI, jg_eqI, jg_M1, jg_M2, jg_M3, jg_M4, jg_M5, jg_M6, jg_ltT, jg_ltF, jg_leT, jg_leF, jg_eqT, jg_eqF, cond_true, cond_false, ne_eq, not_true_eq_false, not_false_eq_true, decide_true, decide_false, if_true, if_false, and_true, true_and, and_false, false_and, or_true, true_or, or_false, false_or, Nat.reduceEqDiff, reduceIte, Nat.reduceMul, Nat.reduceAdd, Nat.reduceSub, Nat.add_zero, Nat.zero_add, Nat.mul_zero, eq_self_iff_true, jg_not_lt, jg_not_le]⟩, fr_sI (fr_sI .rf (by unfold P40x; omega)) (by unfold P40x; omega)⟩
    rw [e_X12_fails]; simp (disch := omega) only [jg_lit, jg_litL, jg_m1, jg_m1L, nI_add, lN_add, pk_mul, jg_sub, jg_subM, jg_addM, jg_addM', jg_negM, jt_in, jt_ix, jt_bi, jt_bl, jt_bv, jt_lt, jg_dT, jg_dF, jt_c, jt_cd, ru_I, ru_L, jg_leI, jg_ltI, jg_eqI, jg_M1, jg_M2, jg_M3, jg_M4, jg_M5, jg_M6, jg_ltT, jg_ltF, jg_leT, jg_leF, jg_eqT, jg_eqF, cond_true, cond_false, ne_eq, not_true_eq_false, not_false_eq_true, decide_true, decide_false, if_true, if_false, and_true, true_and, and_false, false_and, or_true, true_or, or_false, false_or, Nat.reduceEqDiff, reduceIte, Nat.reduceMul, Nat.reduceAdd, Nat.reduceSub, Nat.add_zero, Nat.zero_add, Nat.mul_zero, eq_self_iff_true, jg_not_lt, jg_not_le, h18, h12, h13]
  · rw [if_neg c]
    have hne : kdM (tkK T a) ≠ 1 := fun z => c (k4.mp z)
    refine ⟨jm_sI (jm_sI m 40 0 0 18 (nI k)) 40 0 0 17 (nI a), ?_, ⟨hk, hk2, by simp (disch := omega) only [jg_lit, jg_litL, jg_m1, jg_m1L, nI_add, lN_add, pk_mul, jg_sub, jg_subM, jg_addM, jg_addM', jg_negM, jt_in, jt_ix, jt_bi, jt_bl, jt_bv, jt_lt, jg_dT, jg_dF, jt_c, jt_cd, ru_I, ru_L, jg_leI, jg_ltI, jg_eqI, jg_M1, jg_M2, jg_M3, jg_M4, jg_M5, jg_M6, jg_ltT, jg_ltF, jg_leT, jg_leF, jg_eqT, jg_eqF, cond_true, cond_false, ne_eq, not_true_eq_false, not_false_eq_true, decide_true, decide_false, if_true, if_false, and_true, true_and, and_false, false_and, or_true, true_or, or_false, false_or, Nat.reduceEqDiff, reduceIte, Nat.reduceMul, Nat.reduceAdd, Nat.reduceSub, Nat.add_zero, Nat.zero_add, Nat.mul_zero, eq_self_iff_true, jg_not_lt, jg_not_le], by simp (disch := omega) only [jg_lit, jg_litL, jg_m1, jg_m1L, nI_add, lN_add, pk_mul, jg_sub, jg_subM, jg_addM, jg_addM', jg_negM, jt_in, jt_ix, jt_bi, jt_bl, jt_bv, jt_lt, jg_dT, jg_dF, jt_c, jt_cd, ru_I, ru_L, jg_leI, jg_ltI, jg_eqI, jg_M1, jg_M2, jg_M3, jg_M4, jg_M5, jg_M6, jg_ltT, jg_ltF, jg_leT, jg_leF, jg_eqT, jg_eqF, cond_true, cond_false, ne_eq, not_true_eq_false, not_false_eq_true, decide_true, decide_false, if_true, if_false, and_true, true_and, and_false, false_and, or_true, true_or, or_false, false_or, Nat.reduceEqDiff, reduceIte, Nat.reduceMul, Nat.reduceAdd, Nat.reduceSub, Nat.add_zero, Nat.zero_add, Nat.mul_zero, eq_self_iff_true, jg_not_lt, jg_not_le]⟩, fr_sI (fr_sI .rf (by unfold P40x; omega)) (by unfold P40x; omega)⟩
    rw [e_X12_fails]; simp (disch := omega) only [jg_lit, jg_litL, jg_m1, jg_m1L, nI_add, lN_add, pk_mul, jg_sub, jg_subM, jg_addM, jg_addM', jg_negM, jt_in, jt_ix, jt_bi, jt_bl, jt_bv, jt_lt, jg_dT, jg_dF, jt_c, jt_cd, ru_I, ru_L, jg_leI, jg_ltI, jg_eqI, jg_M1, jg_M2, jg_M3, jg_M4, jg_M5, jg_M6, jg_ltT, jg_ltF, jg_leT, jg_leF, jg_eqT, jg_eqF, cond_true, cond_false, ne_eq, not_true_eq_false, not_false_eq_true, decide_true, decide_false, if_true, if_false, and_true, true_and, and_false, false_and, or_true, true_or, or_false, false_or, Nat.reduceEqDiff, reduceIte, Nat.reduceMul, Nat.reduceAdd, Nat.reduceSub, Nat.add_zero, Nat.zero_add, Nat.mul_zero, eq_self_iff_true, jg_not_lt, jg_not_le, h18, h12, h13]
theorem sm_aheadF {T : Tb} {a : Nat} {m : jm_M} (h : mFn T a m) (d : Nat) : ∃ m', jm_sem false (d + 2) jn_X12_ahead [vM] m = some (jm_j, m') ∧ mFn T (tkX T a) m' ∧ fr P40 m m' := by
  obtain ⟨m', e1, e2, e3⟩ := sm_ahead h.1 h.2.1 h.2.2.1 d
  exact ⟨m', e1, ⟨tkX_le h.1, mTb_40 h.2.1 e3, e2, by rw [(e3 40 0 0 18 (by unfold P40; omega)).1]; exact h.2.2.2.1, by rw [(e3 40 0 0 17 (by unfold P40; omega)).1]; exact h.2.2.2.2⟩, e3⟩
theorem sm_sign {T : Tb} {a : Nat} {m : jm_M} (h : mFn T a m) {c : Nat} (hc : c < 256) (d : Nat) : jm_sem false (d + 1) jn_X12_isSign [vM, .inl (nI c)] m = some (.inl (if isSgn T c a then nI 1 else nI 0), m) := by
  have h12 := h.2.2.1.1
  have h15 := h.2.2.1.2.2.2.2
  have kl := tkK_le T a
  have c256 := h.2.1.1.2 a
  rw [e_X12_isSign]
  by_cases k3 : tkK T a = 3
  · have h15 := h15 k3
    rw [k3] at h12
    have h12 : m.1 40 0 0 12 = nI 4 := h12
    by_cases e : T.2 a = c
    · rw [show isSgn T c a = true from decide_eq_true ⟨k3, e⟩]
      simp (disch := omega) only [jg_lit, jg_litL, jg_m1, jg_m1L, nI_add, lN_add, pk_mul, jg_sub, jg_subM, jg_addM, jg_addM', jg_negM, jt_in, jt_ix, jt_bi, jt_bl, jt_bv, jt_lt, jg_dT, jg_dF, jt_c, jt_cd, ru_I, ru_L, jg_leI, jg_ltI, jg_eqI, jg_M1, jg_M2, jg_M3, jg_M4, jg_M5, jg_M6, jg_ltT, jg_ltF, jg_leT, jg_leF, jg_eqT, jg_eqF, cond_true, cond_false, ne_eq, not_true_eq_false, not_false_eq_true, decide_true, decide_false, if_true, if_false, and_true, true_and, and_false, false_and, or_true, true_or, or_false, false_or, Nat.reduceEqDiff, reduceIte, Nat.reduceMul, Nat.reduceAdd, Nat.reduceSub, Nat.add_zero, Nat.zero_add, Nat.mul_zero, eq_self_iff_true, jg_not_lt, jg_not_le, h12, h15]
    · rw [show isSgn T c a = false from decide_eq_false (fun z => e z.2)]
      simp (disch := omega) only [jg_lit, jg_litL, jg_m1, jg_m1L, nI_add, lN_add, pk_mul, jg_sub, jg_subM, jg_addM, jg_addM', jg_negM, jt_in, jt_ix, jt_bi, jt_bl, jt_bv, jt_lt, jg_dT, jg_dF, jt_c, jt_cd, ru_I, ru_L, jg_leI, jg_ltI, jg_eqI, jg_M1, jg_M2, jg_M3, jg_M4, jg_M5, jg_M6, jg_ltT, jg_ltF, jg_leT, jg_leF, jg_eqT, jg_eqF, cond_true, cond_false, ne_eq, not_true_eq_false, not_false_eq_true, decide_true, decide_false, if_true, if_false, and_true, true_and, and_false, false_and, or_true, true_or, or_false, false_or, Nat.reduceEqDiff, reduceIte, Nat.reduceMul, Nat.reduceAdd, Nat.reduceSub, Nat.add_zero, Nat.zero_add, Nat.mul_zero, eq_self_iff_true, jg_not_lt, jg_not_le, h12, h15, Bool.false_eq_true]
  · rw [show isSgn T c a = false from decide_eq_false (fun z => k3 z.1)]
    have : kdM (tkK T a) ≠ 4 := by
      unfold kdM
      repeat' split
      all_goals omega
    have kd := kdM_le (tkK T a)
    simp (disch := omega) only [jg_lit, jg_litL, jg_m1, jg_m1L, nI_add, lN_add, pk_mul, jg_sub, jg_subM, jg_addM, jg_addM', jg_negM, jt_in, jt_ix, jt_bi, jt_bl, jt_bv, jt_lt, jg_dT, jg_dF, jt_c, jt_cd, ru_I, ru_L, jg_leI, jg_ltI, jg_eqI, jg_M1, jg_M2, jg_M3, jg_M4, jg_M5, jg_M6, jg_ltT, jg_ltF, jg_leT, jg_leF, jg_eqT, jg_eqF, cond_true, cond_false, ne_eq, not_true_eq_false, not_false_eq_true, decide_true, decide_false, if_true, if_false, and_true, true_and, and_false, false_and, or_true, true_or, or_false, false_or, Nat.reduceEqDiff, reduceIte, Nat.reduceMul, Nat.reduceAdd, Nat.reduceSub, Nat.add_zero, Nat.zero_add, Nat.mul_zero, eq_self_iff_true, jg_not_lt, jg_not_le, h12, Bool.false_eq_true]
theorem pmL_lt : ∀ j, j < 24 → pmL.getD j 0 < 24 := by decide +kernel
theorem sm_isName {T : Tb} {a : Nat} {m : jm_M} (h : mFn T a m) (d : Nat) : jm_sem false (d + 7) jn_X12_isName [vM, .inr (.inr (.inl (60, 2, 0)))] m = some (.inl (if nmB T a then nI 1 else nI 0), m) := by
  have h12 := h.2.2.1.1
  have h13 := h.2.2.1.2.1
  have h14 := h.2.2.1.2.2.1
  have kd := kdM_le (tkK T a)
  have ln := tkL_len T a
  have te := tkE_le h.1
  have tg := tkE_ge T a
  have h9 := h.2.1.1.1
  have iw := sm_inWords h.2.1 h.2.2.1 d
  rw [e_X12_isName]
  unfold nmB
  by_cases c1 : tkK T a = 1
  · rw [kd_w.mpr c1] at h12
    by_cases c2 : (tkL T a).length ≤ 8
    · cases hy : tkY T a with
      | none =>
        rw [hy] at iw
        have iw : jm_sem false (d + 6) jn_X12_inWords [vM, .inr (.inr (.inl (60, 2, 0)))] m = some (.inl jM, m) := iw
        rw [decide_eq_true ⟨c1, c2, rfl⟩]
        simp (disch := omega) only [jg_lit, jg_litL, jg_m1, jg_m1L, nI_add, lN_add, pk_mul, jg_sub, jg_subM, jg_addM, jg_addM', jg_negM, jt_in, jt_ix, jt_bi, jt_bl, jt_bv, jt_lt, jg_dT, jg_dF, jt_c, jt_cd, ru_I, ru_L, jg_leI, jg_ltI, jg_eqI, jg_M1, jg_M2, jg_M3, jg_M4, jg_M5, jg_M6, jg_ltT, jg_ltF, jg_leT, jg_leF, jg_eqT, jg_eqF, cond_true, cond_false, ne_eq, not_true_eq_false, not_false_eq_true, decide_true, decide_false, if_true, if_false, and_true, true_and, and_false, false_and, or_true, true_or, or_false, false_or, Nat.reduceEqDiff, reduceIte, Nat.reduceMul, Nat.reduceAdd, Nat.reduceSub, Nat.add_zero, Nat.zero_add, Nat.mul_zero, eq_self_iff_true, jg_not_lt, jg_not_le, h12, h13, h14, iw]
      | some j =>
        have j24 := tkY_lt hy
        have p24 := pmL_lt j j24
        rw [hy] at iw
        have iw : jm_sem false (d + 6) jn_X12_inWords [vM, .inr (.inr (.inl (60, 2, 0)))] m = some (.inl (nI (pmL.getD j 0)), m) := iw
        rw [decide_eq_false (fun z => by cases z.2.2)]
        simp (disch := omega) only [jg_lit, jg_litL, jg_m1, jg_m1L, nI_add, lN_add, pk_mul, jg_sub, jg_subM, jg_addM, jg_addM', jg_negM, jt_in, jt_ix, jt_bi, jt_bl, jt_bv, jt_lt, jg_dT, jg_dF, jt_c, jt_cd, ru_I, ru_L, jg_leI, jg_ltI, jg_eqI, jg_M1, jg_M2, jg_M3, jg_M4, jg_M5, jg_M6, jg_ltT, jg_ltF, jg_leT, jg_leF, jg_eqT, jg_eqF, cond_true, cond_false, ne_eq, not_true_eq_false, not_false_eq_true, decide_true, decide_false, if_true, if_false, and_true, true_and, and_false, false_and, or_true, true_or, or_false, false_or, Nat.reduceEqDiff, reduceIte, Nat.reduceMul, Nat.reduceAdd, Nat.reduceSub, Nat.add_zero, Nat.zero_add, Nat.mul_zero, eq_self_iff_true, jg_not_lt, jg_not_le, h12, h13, h14, iw, Bool.false_eq_true]
    · rw [decide_eq_false (fun z => c2 z.2.1)]
      simp (disch := omega) only [jg_lit, jg_litL, jg_m1, jg_m1L, nI_add, lN_add, pk_mul, jg_sub, jg_subM, jg_addM, jg_addM', jg_negM, jt_in, jt_ix, jt_bi, jt_bl, jt_bv, jt_lt, jg_dT, jg_dF, jt_c, jt_cd, ru_I, ru_L, jg_leI, jg_ltI, jg_eqI, jg_M1, jg_M2, jg_M3, jg_M4, jg_M5, jg_M6, jg_ltT, jg_ltF, jg_leT, jg_leF, jg_eqT, jg_eqF, cond_true, cond_false, ne_eq, not_true_eq_false, not_false_eq_true, decide_true, decide_false, if_true, if_false, and_true, true_and, and_false, false_and, or_true, true_or, or_false, false_or, Nat.reduceEqDiff, reduceIte, Nat.reduceMul, Nat.reduceAdd, Nat.reduceSub, Nat.add_zero, Nat.zero_add, Nat.mul_zero, eq_self_iff_true, jg_not_lt, jg_not_le, h12, h13, h14, Bool.false_eq_true]
  · rw [decide_eq_false (fun z => c1 z.1)]
    have : kdM (tkK T a) ≠ 2 := fun z => c1 (kd_w.mp z)
    simp (disch := omega) only [jg_lit, jg_litL, jg_m1, jg_m1L, nI_add, lN_add, pk_mul, jg_sub, jg_subM, jg_addM, jg_addM', jg_negM, jt_in, jt_ix, jt_bi, jt_bl, jt_bv, jt_lt, jg_dT, jg_dF, jt_c, jt_cd, ru_I, ru_L, jg_leI, jg_ltI, jg_eqI, jg_M1, jg_M2, jg_M3, jg_M4, jg_M5, jg_M6, jg_ltT, jg_ltF, jg_leT, jg_leF, jg_eqT, jg_eqF, cond_true, cond_false, ne_eq, not_true_eq_false, not_false_eq_true, decide_true, decide_false, if_true, if_false, and_true, true_and, and_false, false_and, or_true, true_or, or_false, false_or, Nat.reduceEqDiff, reduceIte, Nat.reduceMul, Nat.reduceAdd, Nat.reduceSub, Nat.add_zero, Nat.zero_add, Nat.mul_zero, eq_self_iff_true, jg_not_lt, jg_not_le, h12, Bool.false_eq_true]
theorem sm_wantSign {T : Tb} {a : Nat} {m : jm_M} (h : mFn T a m) {c : Nat} (hc : c < 256) (d : Nat) : ∃ m', jm_sem false (d + 3) jn_X12_wantSign [vM, .inl (nI c)] m = some (.inl (if isSgn T c a then nI 1 else nI 0), m') ∧ (if isSgn T c a then mFn T (tkX T a) m' else mEr (flt T a) m') ∧ fr P40x m m' := by
  have s := sm_sign h hc (d + 1)
  cases hs : isSgn T c a with
  | true =>
    rw [hs, if_pos rfl] at s
    obtain ⟨m', e1, e2, e3⟩ := sm_aheadF h d
    refine ⟨m', ?_, by rw [if_pos rfl]; exact e2, P40_x e3⟩
    rw [e_X12_wantSign, s, jt_bi, show decide (nI 1 ≠ 0) = true by decide, cond_true, e1, jt_bv]
    rfl
  | false =>
    rw [hs, if_neg (by decide)] at s
    obtain ⟨m', e1, e2, e3⟩ := sm_fails h (k := 2) (by decide) (by decide) (d + 1)
    refine ⟨m', ?_, by rw [if_neg (by decide)]; exact e2, e3⟩
    have e1 : jm_sem false (d + 2) jn_X12_fails [vM, .inl 2] m = some (.inl (nI 0), m') := e1
    rw [e_X12_wantSign, s, jt_bi, show decide (nI 0 ≠ 0) = false by decide, cond_false, e1, jt_bi, and0, cond_true]
    rfl
theorem pm_inj : ∀ j, j < 24 → ∀ i, i < 24 → pmL.getD j 0 = pmL.getD i 0 → j = i := by decide +kernel
theorem sm_wantWord {T : Tb} {a : Nat} {m : jm_M} (h : mFn T a m) {j : Nat} (hj : j < 24) (d : Nat) : ∃ m', jm_sem false (d + 7) jn_X12_wantWord [vM, .inr (.inr (.inl (60, 2, 0))), .inl (nI (pmL.getD j 0))] m = some (.inl (if tkY T a = some j then nI 1 else nI 0), m') ∧ (if tkY T a = some j then mFn T (tkX T a) m' else mEr (flt T a) m') ∧ fr P40x m m' := by
  have iw := sm_inWords h.2.1 h.2.2.1 d
  have pj := pmL_lt j hj
  by_cases hs : tkY T a = some j
  · rw [hs] at iw
    have iw : jm_sem false (d + 6) jn_X12_inWords [vM, .inr (.inr (.inl (60, 2, 0)))] m = some (.inl (nI (pmL.getD j 0)), m) := iw
    obtain ⟨m', e1, e2, e3⟩ := sm_aheadF h (d + 4)
    refine ⟨m', ?_, by rw [if_pos hs]; exact e2, P40_x e3⟩
    rw [if_pos hs, e_X12_wantWord, iw, jt_bi, jt_dt rfl, cond_true, e1, jt_bv]
    rfl
  · obtain ⟨m', e1, e2, e3⟩ := sm_fails h (k := 2) (by decide) (by decide) (d + 5)
    refine ⟨m', ?_, by rw [if_neg hs]; exact e2, e3⟩
    have e1 : jm_sem false (d + 6) jn_X12_fails [vM, .inl 2] m = some (.inl (nI 0), m') := e1
    have hne : ¬ jpl (pmO (tkY T a)) = nI (pmL.getD j 0) := by
      cases hy : tkY T a with
      | none => exact fun z => jt_m1 (show pmL.getD j 0 < 2 ^ 31 by omega) z.symm
      | some q =>
        have q24 := tkY_lt hy
        have pq := pmL_lt q q24
        exact fun z => hs (by rw [hy, pm_inj q q24 j hj ((nI_eq (by omega) (by omega)).mp z)])
    rw [if_neg hs, e_X12_wantWord, iw, jt_bi, jt_df hne, cond_false, e1, jt_bi, and0, cond_true]
/-! ===== names as the reference keeps them ===== -/
def e8r : List Nat → Nat
  | [] => 0
  | c :: t => 256 * e8r t + (c + 96)
def e8 (ls : List Nat) : Nat := e8r ls.reverse
theorem e8r_inj : ∀ (a b : List Nat), (∀ c ∈ a, c ≤ 26) → (∀ c ∈ b, c ≤ 26) → e8r a = e8r b → a = b
  | [], [], _, _, _ => rfl
  | [], c :: t, _, _, h => by have h : 0 = 256 * e8r t + (c + 96) := h; omega
  | c :: t, [], _, _, h => by have h : 256 * e8r t + (c + 96) = 0 := h; omega
  | c :: t, c' :: t', ha, hb, h => by
    have h : 256 * e8r t + (c + 96) = 256 * e8r t' + (c' + 96) := h
    have h1 := ha c List.mem_cons_self
    have h2 := hb c' List.mem_cons_self
    rw [e8r_inj t t' (fun x hx => ha x (List.mem_cons_of_mem _ hx)) (fun x hx => hb x (List.mem_cons_of_mem _ hx)) (by omega), show c = c' by omega]
theorem e8r_lt : ∀ (a : List Nat), (∀ c ∈ a, c ≤ 26) → e8r a < 256 ^ a.length
  | [], _ => Nat.one_pos
  | c :: t, h => by
    have h1 := h c List.mem_cons_self
    have h2 := e8r_lt t (fun x hx => h x (List.mem_cons_of_mem _ hx))
    show 256 * e8r t + (c + 96) < 256 ^ (t.length + 1)
    rw [Nat.pow_succ]
    omega
theorem lN_64 {a b : Nat} (ha : a < 2 ^ 64) (hb : b < 2 ^ 64) : (lN a = lN b) ↔ a = b := by
  constructor
  · intro h
    have := congrArg (fun x => x.toBitVec.toNat) h
    simp only [wb_tb, BitVec.toNat_ofNat] at this
    rw [Nat.mod_eq_of_lt ha, Nat.mod_eq_of_lt hb] at this
    exact this
  · intro h; rw [h]
theorem e8_64 {ls : List Nat} (h : okN ls) : e8 ls < 2 ^ 64 := by
  have h1 := e8r_lt ls.reverse (fun c hc => h.2.2.1 c (List.mem_reverse.mp hc))
  have h2 : 256 ^ ls.reverse.length ≤ 256 ^ 8 := Nat.pow_le_pow_right (by decide) (by rw [List.length_reverse]; exact h.2.1)
  have h3 : 256 ^ 8 = 2 ^ 64 := by decide
  unfold e8
  omega
theorem e8_eq {a b : List Nat} (ha : okN a) (hb : okN b) : (lN (e8 a) = lN (e8 b)) ↔ a = b := by
  rw [lN_64 (e8_64 ha) (e8_64 hb)]
  constructor
  · intro h
    have := e8r_inj a.reverse b.reverse (fun c hc => ha.2.2.1 c (List.mem_reverse.mp hc)) (fun c hc => hb.2.2.1 c (List.mem_reverse.mp hc)) h
    rw [← List.reverse_reverse a, this, List.reverse_reverse]
  · intro h; rw [h]
theorem sh8 : ((8 : Int32).toInt64 &&& 63) = ((nI 8).toInt64 &&& 63) := rfl
theorem sm_name_loop {T : Tb} {a : Nat} (k1 : tkK T a = 1) {m : jm_M} (h : mFn T a m) (d : Nat) : ∀ (r n : Nat), n + r = tkE T a - a → jm_ev false (d + 1) 11 5 jc_X12_nameHere 7 [vM, .inr (.inl (lN (e8r (wlT T a n).reverse))), jm_j, .inl (nI (a + n))] [] m = some (.inr (.inl (lN (e8 (tkL T a)))), m)
  | 0, n, hr => by
    have h14 := h.2.2.1.2.2.1
    have te := tkE_le h.1
    have tg := tkE_ge T a
    have h9 := h.2.1.1.1
    have : n = tkE T a - a := by omega
    subst this
    have e : wlT T a (tkE T a - a) = tkL T a := rfl
    rw [l_X12_nameHere_7, e]
    simp (disch := omega) only [jg_lit, jg_litL, jg_m1, jg_m1L, nI_add, lN_add, pk_mul, jg_sub, jg_subM, jg_addM, jg_addM', jg_negM, jt_in, jt_ix, jt_bi, jt_bl, jt_bv, jt_lt, jg_dT, jg_dF, jt_c, jt_cd, ru_I, ru_L, jg_leI, jg_ltI, jg_eqI, jg_M1, jg_M2, jg_M3, jg_M4, jg_M5, jg_M6, jg_ltT, jg_ltF, jg_leT, jg_leF, jg_eqT, jg_eqF, cond_true, cond_false, ne_eq, not_true_eq_false, not_false_eq_true, decide_true, decide_false, if_true, if_false, and_true, true_and, and_false, false_and, or_true, true_or, or_false, false_or, Nat.reduceEqDiff, reduceIte, Nat.reduceMul, Nat.reduceAdd, Nat.reduceSub, Nat.add_zero, Nat.zero_add, Nat.mul_zero, eq_self_iff_true, jg_not_lt, jg_not_le, h14]
    rfl
  | r + 1, n, hr => by
    have h14 := h.2.2.1.2.2.1
    have te := tkE_le h.1
    have tg := tkE_ge T a
    have h9 := h.2.1.1.1
    have ts := tkL_sm k1 (show n < tkE T a - a by omega)
    have b := sm_byT h.2.1 (show a + n < T.1 by omega) d
    have nl : (nI (T.2 (a + n))).toInt64 = lN (T.2 (a + n)) := nI_l (by omega)
    have ih := sm_name_loop k1 h d r (n + 1) (by omega)
    have ew : e8r (wlT T a (n + 1)).reverse = 256 * e8r (wlT T a n).reverse + T.2 (a + n) := by
      unfold wlT
      rw [List.range_succ, List.map_append, List.map_singleton, List.reverse_append, List.reverse_singleton, List.singleton_append]
      show 256 * e8r _ + (T.2 (a + n) - 96 + 96) = _
      omega
    have ar : (lN (e8r (wlT T a n).reverse) <<< ((8 : Int32).toInt64 &&& 63)) ||| lN (T.2 (a + n)) = lN (e8r (wlT T a (n + 1)).reverse) := by
      rw [ew, sh8, wb_shl _ (by decide), Nat.mul_comm, fb_or_sumL (k := 8) _ (by omega)]
    rw [l_X12_nameHere_7, h14, jt_df (nI_ge (show a + n < tkE T a by omega) (by omega)), cond_false, b, jt_bi, nl, ar, nI_1]
    exact ih
theorem sm_nameHere {T : Tb} {a : Nat} (k1 : tkK T a = 1) {m : jm_M} (h : mFn T a m) (d : Nat) : jm_sem false (d + 2) jn_X12_nameHere [vM] m = some (.inr (.inl (lN (e8 (tkL T a)))), m) := by
  have h13 := h.2.2.1.2.1
  have tg := tkE_ge T a
  rw [e_X12_nameHere, h13]
  exact sm_name_loop k1 h d (tkE T a - a) 0 (by omega)
theorem sm_find_loop {T : Tb} {a : Nat} (hn : nmB T a = true) {L : List (List Nat)} (hL : L.length ≤ 12) (hO : ∀ l ∈ L, okN l) {base : Nat} (hb : base + 12 ≤ 720) {m : jm_M} (h : mFn T a m) (hc : ∀ k, k < L.length → m.2 42 0 0 (base + k) = lN (e8 (gN L k))) (d : Nat) : ∀ (r k : Nat), k + r = L.length → jm_ev false (d + 2) 11 1 jc_X12_findHere 2 [vM, .inl (nI base), .inl (nI L.length), .inl (nI k)] [] m = some (.inl (jpl (ixOf (tkL T a) (L.drop k) k)), m)
  | 0, k, hr => by
    rw [l_X12_findHere_2, List.drop_of_length_le (by omega)]
    simp (disch := omega) only [jg_lit, jg_litL, jg_m1, jg_m1L, nI_add, lN_add, pk_mul, jg_sub, jg_subM, jg_addM, jg_addM', jg_negM, jt_in, jt_ix, jt_bi, jt_bl, jt_bv, jt_lt, jg_dT, jg_dF, jt_c, jt_cd, ru_I, ru_L, jg_leI, jg_ltI, jg_eqI, jg_M1, jg_M2, jg_M3, jg_M4, jg_M5, jg_M6, jg_ltT, jg_ltF, jg_leT, jg_leF, jg_eqT, jg_eqF, cond_true, cond_false, ne_eq, not_true_eq_false, not_false_eq_true, decide_true, decide_false, if_true, if_false, and_true, true_and, and_false, false_and, or_true, true_or, or_false, false_or, Nat.reduceEqDiff, reduceIte, Nat.reduceMul, Nat.reduceAdd, Nat.reduceSub, Nat.add_zero, Nat.zero_add, Nat.mul_zero, eq_self_iff_true, jg_not_lt, jg_not_le]
    rfl
  | r + 1, k, hr => by
    obtain ⟨o, k1, -⟩ := nmB_ok hn
    have nh := sm_nameHere k1 h d
    have ck := hc k (by omega)
    have e := e8_eq (hO _ (gN_mem (show k < L.length by omega))) o
    rw [l_X12_findHere_2, dropN (by omega)]
    unfold ixOf
    by_cases c : gN L k = tkL T a
    · have c' : (lN (e8 (gN L k)) = lN (e8 (tkL T a))) = True := eq_true (e.mpr c)
      rw [if_pos c]
      simp (disch := omega) only [jg_lit, jg_litL, jg_m1, jg_m1L, nI_add, lN_add, pk_mul, jg_sub, jg_subM, jg_addM, jg_addM', jg_negM, jt_in, jt_ix, jt_bi, jt_bl, jt_bv, jt_lt, jg_dT, jg_dF, jt_c, jt_cd, ru_I, ru_L, jg_leI, jg_ltI, jg_eqI, jg_M1, jg_M2, jg_M3, jg_M4, jg_M5, jg_M6, jg_ltT, jg_ltF, jg_leT, jg_leF, jg_eqT, jg_eqF, cond_true, cond_false, ne_eq, not_true_eq_false, not_false_eq_true, decide_true, decide_false, if_true, if_false, and_true, true_and, and_false, false_and, or_true, true_or, or_false, false_or, Nat.reduceEqDiff, reduceIte, Nat.reduceMul, Nat.reduceAdd, Nat.reduceSub, Nat.add_zero, Nat.zero_add, Nat.mul_zero, eq_self_iff_true, jg_not_lt, jg_not_le, nh, ck, lc_eq, c']
      rfl
    · have c' : (lN (e8 (gN L k)) = lN (e8 (tkL T a))) = False := eq_false (fun z => c (e.mp z))
      rw [if_neg c]
      simp (disch := omega) only [jg_lit, jg_litL, jg_m1, jg_m1L, nI_add, lN_add, pk_mul, jg_sub, jg_subM, jg_addM, jg_addM', jg_negM, jt_in, jt_ix, jt_bi, jt_bl, jt_bv, jt_lt, jg_dT, jg_dF, jt_c, jt_cd, ru_I, ru_L, jg_leI, jg_ltI, jg_eqI, jg_M1, jg_M2, jg_M3, jg_M4, jg_M5, jg_M6, jg_ltT, jg_ltF, jg_leT, jg_leF, jg_eqT, jg_eqF, cond_true, cond_false, ne_eq, not_true_eq_false, not_false_eq_true, decide_true, decide_false, if_true, if_false, and_true, true_and, and_false, false_and, or_true, true_or, or_false, false_or, Nat.reduceEqDiff, reduceIte, Nat.reduceMul, Nat.reduceAdd, Nat.reduceSub, Nat.add_zero, Nat.zero_add, Nat.mul_zero, eq_self_iff_true, jg_not_lt, jg_not_le, nh, ck, lc_eq, c']
      exact sm_find_loop hn hL hO hb h hc d r (k + 1) (by omega)
