/-! ===== fewestAt; rows in a TRAY ===== -/
theorem c_fewestAt (x : Int32) : jcall jn_X11_fewestAt jn_X12_fewestAt [.inl x] := by
  intro s μ ho hx hm
  have h5 := ho.2.2.2.1
  have xn : μ.1 22 0 0 1 = nI (aB s).length := hx.2.2.2.2.2.2.1
  have mn : μ.1 40 0 0 37 = nI (aB s).length := hm.2.2.2.2.2.2.1
  rcases in_cases x (show (aB s).length < 2 ^ 31 by omega) with h | ⟨k, hk, rfl⟩
  · refine jcall_no ho hx hm 6 (v := .inl jM) ?_ ?_
    · rw [e_X11_fewestAt]
      by_cases c : x < 0
      · rw [dec_T c]; simp (disch := omega) only [jg_lit, jg_litL, jg_m1, jg_m1L, nI_add, lN_add, pk_mul, jg_sub, jg_subM, jg_addM, jg_addM', jg_negM, jt_in, jt_ix, jt_bi, jt_bl, jt_bv, jt_lt, jg_dT, jg_dF, jt_c, jt_cd, ru_I, ru_L, jg_leI, jg_ltI, jg_eqI, jg_M1, jg_M2, jg_M3, jg_M4, jg_M5, jg_M6, jg_ltT, jg_ltF, jg_leT, jg_leF, jg_eqT, jg_eqF, cond_true, cond_false, ne_eq, not_true_eq_false, not_false_eq_true, decide_true, decide_false, if_true, if_false, and_true, true_and, and_false, false_and, or_true, true_or, or_false, false_or, Nat.reduceEqDiff, reduceIte, Nat.reduceMul, Nat.reduceAdd, Nat.reduceSub, Nat.add_zero, Nat.zero_add, Nat.mul_zero, eq_self_iff_true, jg_not_lt, jg_not_le, sx_fail]
      · rw [dec_F c, xn, jt_df (not_in' h c (by omega))]; simp (disch := omega) only [jg_lit, jg_litL, jg_m1, jg_m1L, nI_add, lN_add, pk_mul, jg_sub, jg_subM, jg_addM, jg_addM', jg_negM, jt_in, jt_ix, jt_bi, jt_bl, jt_bv, jt_lt, jg_dT, jg_dF, jt_c, jt_cd, ru_I, ru_L, jg_leI, jg_ltI, jg_eqI, jg_M1, jg_M2, jg_M3, jg_M4, jg_M5, jg_M6, jg_ltT, jg_ltF, jg_leT, jg_leF, jg_eqT, jg_eqF, cond_true, cond_false, ne_eq, not_true_eq_false, not_false_eq_true, decide_true, decide_false, if_true, if_false, and_true, true_and, and_false, false_and, or_true, true_or, or_false, false_or, Nat.reduceEqDiff, reduceIte, Nat.reduceMul, Nat.reduceAdd, Nat.reduceSub, Nat.add_zero, Nat.zero_add, Nat.mul_zero, eq_self_iff_true, jg_not_lt, jg_not_le, sx_fail]
    · rw [e_X12_fewestAt]
      by_cases c : x < 0
      · rw [dec_T c]; simp (disch := omega) only [jg_lit, jg_litL, jg_m1, jg_m1L, nI_add, lN_add, pk_mul, jg_sub, jg_subM, jg_addM, jg_addM', jg_negM, jt_in, jt_ix, jt_bi, jt_bl, jt_bv, jt_lt, jg_dT, jg_dF, jt_c, jt_cd, ru_I, ru_L, jg_leI, jg_ltI, jg_eqI, jg_M1, jg_M2, jg_M3, jg_M4, jg_M5, jg_M6, jg_ltT, jg_ltF, jg_leT, jg_leF, jg_eqT, jg_eqF, cond_true, cond_false, ne_eq, not_true_eq_false, not_false_eq_true, decide_true, decide_false, if_true, if_false, and_true, true_and, and_false, false_and, or_true, true_or, or_false, false_or, Nat.reduceEqDiff, reduceIte, Nat.reduceMul, Nat.reduceAdd, Nat.reduceSub, Nat.add_zero, Nat.zero_add, Nat.mul_zero, eq_self_iff_true, jg_not_lt, jg_not_le, sm_refuse]
      · rw [dec_F c, mn, jt_df (not_in' h c (by omega))]; simp (disch := omega) only [jg_lit, jg_litL, jg_m1, jg_m1L, nI_add, lN_add, pk_mul, jg_sub, jg_subM, jg_addM, jg_addM', jg_negM, jt_in, jt_ix, jt_bi, jt_bl, jt_bv, jt_lt, jg_dT, jg_dF, jt_c, jt_cd, ru_I, ru_L, jg_leI, jg_ltI, jg_eqI, jg_M1, jg_M2, jg_M3, jg_M4, jg_M5, jg_M6, jg_ltT, jg_ltF, jg_leT, jg_leF, jg_eqT, jg_eqF, cond_true, cond_false, ne_eq, not_true_eq_false, not_false_eq_true, decide_true, decide_false, if_true, if_false, and_true, true_and, and_false, false_and, or_true, true_or, or_false, false_or, Nat.reduceEqDiff, reduceIte, Nat.reduceMul, Nat.reduceAdd, Nat.reduceSub, Nat.add_zero, Nat.zero_add, Nat.mul_zero, eq_self_iff_true, jg_not_lt, jg_not_le, sm_refuse]
  · have xk : μ.1 23 0 0 k = nI ((aB s).getD k 0) := hx.2.2.2.2.2.2.2.1 k hk
    have mk : μ.1 55 0 0 k = nI ((aB s).getD k 0) := hm.2.2.2.2.2.2.2.1 k hk
    refine jcall_no ho hx hm 0 (v := .inl (nI ((aB s).getD k 0))) ?_ ?_
    · rw [e_X11_fewestAt]; simp (disch := omega) only [jg_lit, jg_litL, jg_m1, jg_m1L, nI_add, lN_add, pk_mul, jg_sub, jg_subM, jg_addM, jg_addM', jg_negM, jt_in, jt_ix, jt_bi, jt_bl, jt_bv, jt_lt, jg_dT, jg_dF, jt_c, jt_cd, ru_I, ru_L, jg_leI, jg_ltI, jg_eqI, jg_M1, jg_M2, jg_M3, jg_M4, jg_M5, jg_M6, jg_ltT, jg_ltF, jg_leT, jg_leF, jg_eqT, jg_eqF, cond_true, cond_false, ne_eq, not_true_eq_false, not_false_eq_true, decide_true, decide_false, if_true, if_false, and_true, true_and, and_false, false_and, or_true, true_or, or_false, false_or, Nat.reduceEqDiff, reduceIte, Nat.reduceMul, Nat.reduceAdd, Nat.reduceSub, Nat.add_zero, Nat.zero_add, Nat.mul_zero, eq_self_iff_true, jg_not_lt, jg_not_le, xn, xk, sx_give]
    · rw [e_X12_fewestAt]; simp (disch := omega) only [jg_lit, jg_litL, jg_m1, jg_m1L, nI_add, lN_add, pk_mul, jg_sub, jg_subM, jg_addM, jg_addM', jg_negM, jt_in, jt_ix, jt_bi, jt_bl, jt_bv, jt_lt, jg_dT, jg_dF, jt_c, jt_cd, ru_I, ru_L, jg_leI, jg_ltI, jg_eqI, jg_M1, jg_M2, jg_M3, jg_M4, jg_M5, jg_M6, jg_ltT, jg_ltF, jg_leT, jg_leF, jg_eqT, jg_eqF, cond_true, cond_false, ne_eq, not_true_eq_false, not_false_eq_true, decide_true, decide_false, if_true, if_false, and_true, true_and, and_false, false_and, or_true, true_or, or_false, false_or, Nat.reduceEqDiff, reduceIte, Nat.reduceMul, Nat.reduceAdd, Nat.reduceSub, Nat.add_zero, Nat.zero_add, Nat.mul_zero, eq_self_iff_true, jg_not_lt, jg_not_le, mn, mk, sm_gives]
theorem row_cases (T : Tr) (x y : Int32) {most : Nat} (hm : most < 2 ^ 31) : ((x < 0 ∨ 4 ≤ x) ∨ (y < 1 ∨ nI most < y)) ∨ ∃ t n, t < 4 ∧ 1 ≤ n ∧ n ≤ most ∧ x = nI t ∧ y = nI n ∧ (T t = none ∨ ∃ so sz f, T t = some (so, sz, f) ∧ (sz < n ∨ n ≤ sz)) := by
  rcases in_cases x (show 4 < 2 ^ 31 by decide) with h | ⟨t, ht, rfl⟩
  · exact Or.inl (Or.inl h)
  · rcases in_range y 1 most (by decide) hm with h | ⟨n, h1, h2, rfl⟩
    · exact Or.inl (Or.inr h)
    · refine Or.inr ⟨t, n, ht, h1, h2, rfl, rfl, ?_⟩
      cases hT : T t with
      | none => exact Or.inl rfl
      | some q => exact Or.inr ⟨q.1, q.2.1, q.2.2, rfl, by omega⟩
theorem tr_in {t : Nat} (ht : t < 4) : ¬ (nI t < 0 ∨ 4 ≤ nI t) := fun z => z.elim (nI_nlt (Nat.zero_le t) (by omega)) (fun z => absurd ((nI_leI (a := 4) (b := t) (by omega) (by omega)).mp z) (by omega))
theorem sx_isTrayT {t : Nat} (ht : t < 4) (d : Nat) (m : jm_M) : jm_sem false (d + 1) jn_X11_isTray [.inl (nI t)] m = some (.inl (nI 1), m) := by rw [s_X11_isTray, if_neg (tr_in ht)]; rfl
theorem sm_isTrayT {t : Nat} (ht : t < 4) (d : Nat) (m : jm_M) : jm_sem false (d + 1) jn_X12_isTray [.inl (nI t)] m = some (.inl (nI 1), m) := by rw [s_X12_isTray, if_neg (tr_in ht)]; rfl
theorem sx_isTrayF {x : Int32} (h : x < 0 ∨ 4 ≤ x) (d : Nat) (m : jm_M) : jm_sem false (d + 1) jn_X11_isTray [.inl x] m = some (.inl (nI 0), m) := by rw [s_X11_isTray, if_pos h]; rfl
theorem sm_isTrayF {x : Int32} (h : x < 0 ∨ 4 ≤ x) (d : Nat) (m : jm_M) : jm_sem false (d + 1) jn_X12_isTray [.inl x] m = some (.inl (nI 0), m) := by rw [s_X12_isTray, if_pos h]; rfl
theorem sx_row1 {x y : Int32} {most : Nat} (hm : most < 2 ^ 31) (h : (x < 0 ∨ 4 ≤ x) ∨ (y < 1 ∨ nI most < y)) (d : Nat) (m : jm_M) : jm_sem false (d + 2) jn_X11_wrongRow [vX, .inl x, .inl y, .inl (nI most)] m = some (.inl (nI 1), m) := by
  rw [e_X11_wrongRow]
  rcases in_cases x (show 4 < 2 ^ 31 by decide) with hx | ⟨t, ht, rfl⟩
  · have i := sx_isTrayF hx d m
    simp (disch := omega) only [jg_lit, jg_litL, jg_m1, jg_m1L, nI_add, lN_add, pk_mul, jg_sub, jg_subM, jg_addM, jg_addM', jg_negM, jt_in, jt_ix, jt_bi, jt_bl, jt_bv, jt_lt, jg_dT, jg_dF, jt_c, jt_cd, ru_I, ru_L, jg_leI, jg_ltI, jg_eqI, jg_M1, jg_M2, jg_M3, jg_M4, jg_M5, jg_M6, jg_ltT, jg_ltF, jg_leT, jg_leF, jg_eqT, jg_eqF, cond_true, cond_false, ne_eq, not_true_eq_false, not_false_eq_true, decide_true, decide_false, if_true, if_false, and_true, true_and, and_false, false_and, or_true, true_or, or_false, false_or, Nat.reduceEqDiff, reduceIte, Nat.reduceMul, Nat.reduceAdd, Nat.reduceSub, Nat.add_zero, Nat.zero_add, Nat.mul_zero, eq_self_iff_true, jg_not_lt, jg_not_le, i]
  · have i := sx_isTrayT ht d m
    have hy := h.resolve_left (tr_in ht)
    by_cases c : y < 1
    · rw [jt_dt c]; simp (disch := omega) only [jg_lit, jg_litL, jg_m1, jg_m1L, nI_add, lN_add, pk_mul, jg_sub, jg_subM, jg_addM, jg_addM', jg_negM, jt_in, jt_ix, jt_bi, jt_bl, jt_bv, jt_lt, jg_dT, jg_dF, jt_c, jt_cd, ru_I, ru_L, jg_leI, jg_ltI, jg_eqI, jg_M1, jg_M2, jg_M3, jg_M4, jg_M5, jg_M6, jg_ltT, jg_ltF, jg_leT, jg_leF, jg_eqT, jg_eqF, cond_true, cond_false, ne_eq, not_true_eq_false, not_false_eq_true, decide_true, decide_false, if_true, if_false, and_true, true_and, and_false, false_and, or_true, true_or, or_false, false_or, Nat.reduceEqDiff, reduceIte, Nat.reduceMul, Nat.reduceAdd, Nat.reduceSub, Nat.add_zero, Nat.zero_add, Nat.mul_zero, eq_self_iff_true, jg_not_lt, jg_not_le, i]
    · rw [jt_df c, jt_df (show ¬ y ≤ nI most from Int32.not_le.mpr (hy.resolve_left c))]; simp (disch := omega) only [jg_lit, jg_litL, jg_m1, jg_m1L, nI_add, lN_add, pk_mul, jg_sub, jg_subM, jg_addM, jg_addM', jg_negM, jt_in, jt_ix, jt_bi, jt_bl, jt_bv, jt_lt, jg_dT, jg_dF, jt_c, jt_cd, ru_I, ru_L, jg_leI, jg_ltI, jg_eqI, jg_M1, jg_M2, jg_M3, jg_M4, jg_M5, jg_M6, jg_ltT, jg_ltF, jg_leT, jg_leF, jg_eqT, jg_eqF, cond_true, cond_false, ne_eq, not_true_eq_false, not_false_eq_true, decide_true, decide_false, if_true, if_false, and_true, true_and, and_false, false_and, or_true, true_or, or_false, false_or, Nat.reduceEqDiff, reduceIte, Nat.reduceMul, Nat.reduceAdd, Nat.reduceSub, Nat.add_zero, Nat.zero_add, Nat.mul_zero, eq_self_iff_true, jg_not_lt, jg_not_le, i]
theorem sx_row2 {T : Tr} {m : jm_M} (h : xT T m) {t n most : Nat} (ht : t < 4) (h1 : 1 ≤ n) (h2 : n ≤ most) (hm : most < 2 ^ 31) (hT : T t = none) (d : Nat) : jm_sem false (d + 2) jn_X11_wrongRow [vX, .inl (nI t), .inl (nI n), .inl (nI most)] m = some (.inl (nI 2), m) := by
  have i := sx_isTrayT ht d m
  have q := h t ht
  rw [hT] at q
  have q : m.1 2 t 0 1 = jM := q
  have ms : jm_sem false (d + 1) jn_X7_isMissing [.inr (.inr (.inl (2, t, 0)))] m = some (.inl (nI 1), m) := by
    rw [e_X7_isMissing]
    simp (disch := omega) only [jg_lit, jg_litL, jg_m1, jg_m1L, nI_add, lN_add, pk_mul, jg_sub, jg_subM, jg_addM, jg_addM', jg_negM, jt_in, jt_ix, jt_bi, jt_bl, jt_bv, jt_lt, jg_dT, jg_dF, jt_c, jt_cd, ru_I, ru_L, jg_leI, jg_ltI, jg_eqI, jg_M1, jg_M2, jg_M3, jg_M4, jg_M5, jg_M6, jg_ltT, jg_ltF, jg_leT, jg_leF, jg_eqT, jg_eqF, cond_true, cond_false, ne_eq, not_true_eq_false, not_false_eq_true, decide_true, decide_false, if_true, if_false, and_true, true_and, and_false, false_and, or_true, true_or, or_false, false_or, Nat.reduceEqDiff, reduceIte, Nat.reduceMul, Nat.reduceAdd, Nat.reduceSub, Nat.add_zero, Nat.zero_add, Nat.mul_zero, eq_self_iff_true, jg_not_lt, jg_not_le, q]
  rw [e_X11_wrongRow]
  simp (disch := omega) only [jg_lit, jg_litL, jg_m1, jg_m1L, nI_add, lN_add, pk_mul, jg_sub, jg_subM, jg_addM, jg_addM', jg_negM, jt_in, jt_ix, jt_bi, jt_bl, jt_bv, jt_lt, jg_dT, jg_dF, jt_c, jt_cd, ru_I, ru_L, jg_leI, jg_ltI, jg_eqI, jg_M1, jg_M2, jg_M3, jg_M4, jg_M5, jg_M6, jg_ltT, jg_ltF, jg_leT, jg_leF, jg_eqT, jg_eqF, cond_true, cond_false, ne_eq, not_true_eq_false, not_false_eq_true, decide_true, decide_false, if_true, if_false, and_true, true_and, and_false, false_and, or_true, true_or, or_false, false_or, Nat.reduceEqDiff, reduceIte, Nat.reduceMul, Nat.reduceAdd, Nat.reduceSub, Nat.add_zero, Nat.zero_add, Nat.mul_zero, eq_self_iff_true, jg_not_lt, jg_not_le, i, ms, Bool.and_true]
theorem sx_missF {T : Tr} {m : jm_M} (h : xT T m) {t : Nat} (ht : t < 4) {so sz : Nat} {f : Nat → Int64} (hT : T t = some (so, sz, f)) (d : Nat) : jm_sem false (d + 1) jn_X7_isMissing [.inr (.inr (.inl (2, t, 0)))] m = some (.inl (nI 0), m) := by
  have q := h t ht
  rw [hT] at q
  have q1 := q.1
  have q3 := q.2.2.1
  rw [e_X7_isMissing]
  simp (disch := omega) only [jg_lit, jg_litL, jg_m1, jg_m1L, nI_add, lN_add, pk_mul, jg_sub, jg_subM, jg_addM, jg_addM', jg_negM, jt_in, jt_ix, jt_bi, jt_bl, jt_bv, jt_lt, jg_dT, jg_dF, jt_c, jt_cd, ru_I, ru_L, jg_leI, jg_ltI, jg_eqI, jg_M1, jg_M2, jg_M3, jg_M4, jg_M5, jg_M6, jg_ltT, jg_ltF, jg_leT, jg_leF, jg_eqT, jg_eqF, cond_true, cond_false, ne_eq, not_true_eq_false, not_false_eq_true, decide_true, decide_false, if_true, if_false, and_true, true_and, and_false, false_and, or_true, true_or, or_false, false_or, Nat.reduceEqDiff, reduceIte, Nat.reduceMul, Nat.reduceAdd, Nat.reduceSub, Nat.add_zero, Nat.zero_add, Nat.mul_zero, eq_self_iff_true, jg_not_lt, jg_not_le, q3]
theorem sx_row3 {T : Tr} {m : jm_M} (h : xT T m) {t n most : Nat} (ht : t < 4) (h1 : 1 ≤ n) (h2 : n ≤ most) (hm : most < 2 ^ 31) {so sz : Nat} {f : Nat → Int64} (hT : T t = some (so, sz, f)) (hs : sz < n) (d : Nat) : jm_sem false (d + 2) jn_X11_wrongRow [vX, .inl (nI t), .inl (nI n), .inl (nI most)] m = some (.inl (nI 3), m) := by
  have i := sx_isTrayT ht d m
  have ms := sx_missF h ht hT d
  have q := h t ht
  rw [hT] at q
  have q2 := q.2.1
  have q4 := q.2.2.2.1
  have hr : jm_sem false (d + 1) jn_X7_hasRun [.inr (.inr (.inl (2, t, 0))), .inl (nI 0), .inl (nI n)] m = some (.inl (nI 0), m) := by
    rw [e_X7_hasRun]
    simp (disch := omega) only [jg_lit, jg_litL, jg_m1, jg_m1L, nI_add, lN_add, pk_mul, jg_sub, jg_subM, jg_addM, jg_addM', jg_negM, jt_in, jt_ix, jt_bi, jt_bl, jt_bv, jt_lt, jg_dT, jg_dF, jt_c, jt_cd, ru_I, ru_L, jg_leI, jg_ltI, jg_eqI, jg_M1, jg_M2, jg_M3, jg_M4, jg_M5, jg_M6, jg_ltT, jg_ltF, jg_leT, jg_leF, jg_eqT, jg_eqF, cond_true, cond_false, ne_eq, not_true_eq_false, not_false_eq_true, decide_true, decide_false, if_true, if_false, and_true, true_and, and_false, false_and, or_true, true_or, or_false, false_or, Nat.reduceEqDiff, reduceIte, Nat.reduceMul, Nat.reduceAdd, Nat.reduceSub, Nat.add_zero, Nat.zero_add, Nat.mul_zero, eq_self_iff_true, jg_not_lt, jg_not_le, q4]
  rw [e_X11_wrongRow]
  simp (disch := omega) only [jg_lit, jg_litL, jg_m1, jg_m1L, nI_add, lN_add, pk_mul, jg_sub, jg_subM, jg_addM, jg_addM', jg_negM, jt_in, jt_ix, jt_bi, jt_bl, jt_bv, jt_lt, jg_dT, jg_dF, jt_c, jt_cd, ru_I, ru_L, jg_leI, jg_ltI, jg_eqI, jg_M1, jg_M2, jg_M3, jg_M4, jg_M5, jg_M6, jg_ltT, jg_ltF, jg_leT, jg_leF, jg_eqT, jg_eqF, cond_true, cond_false, ne_eq, not_true_eq_false, not_false_eq_true, decide_true, decide_false, if_true, if_false, and_true, true_and, and_false, false_and, or_true, true_or, or_false, false_or, Nat.reduceEqDiff, reduceIte, Nat.reduceMul, Nat.reduceAdd, Nat.reduceSub, Nat.add_zero, Nat.zero_add, Nat.mul_zero, eq_self_iff_true, jg_not_lt, jg_not_le, i, ms, hr, Bool.and_true]
theorem sx_row0 {T : Tr} {m : jm_M} (h : xT T m) {t n most : Nat} (ht : t < 4) (h1 : 1 ≤ n) (h2 : n ≤ most) (hm : most < 2 ^ 31) {so sz : Nat} {f : Nat → Int64} (hT : T t = some (so, sz, f)) (hs : n ≤ sz) (d : Nat) : jm_sem false (d + 2) jn_X11_wrongRow [vX, .inl (nI t), .inl (nI n), .inl (nI most)] m = some (.inl (nI 0), m) := by
  have i := sx_isTrayT ht d m
  have ms := sx_missF h ht hT d
  have q := h t ht
  rw [hT] at q
  have q2 := q.2.1
  have q4 := q.2.2.2.1
  have hr : jm_sem false (d + 1) jn_X7_hasRun [.inr (.inr (.inl (2, t, 0))), .inl (nI 0), .inl (nI n)] m = some (.inl (nI 1), m) := by
    rw [e_X7_hasRun]
    simp (disch := omega) only [jg_lit, jg_litL, jg_m1, jg_m1L, nI_add, lN_add, pk_mul, jg_sub, jg_subM, jg_addM, jg_addM', jg_negM, jt_in, jt_ix, jt_bi, jt_bl, jt_bv, jt_lt, jg_dT, jg_dF, jt_c, jt_cd, ru_I, ru_L, jg_leI, jg_ltI, jg_eqI, jg_M1, jg_M2, jg_M3, jg_M4, jg_M5, jg_M6, jg_ltT, jg_ltF, jg_leT, jg_leF, jg_eqT, jg_eqF, cond_true, cond_false, ne_eq, not_true_eq_false, not_false_eq_true, decide_true, decide_false, if_true, if_false, and_true, true_and, and_false, false_and, or_true, true_or, or_false, false_or, Nat.reduceEqDiff, reduceIte, Nat.reduceMul, Nat.reduceAdd, Nat.reduceSub, Nat.add_zero, Nat.zero_add, Nat.mul_zero, eq_self_iff_true, jg_not_lt, jg_not_le, q4]
  rw [e_X11_wrongRow]
  simp (disch := omega) only [jg_lit, jg_litL, jg_m1, jg_m1L, nI_add, lN_add, pk_mul, jg_sub, jg_subM, jg_addM, jg_addM', jg_negM, jt_in, jt_ix, jt_bi, jt_bl, jt_bv, jt_lt, jg_dT, jg_dF, jt_c, jt_cd, ru_I, ru_L, jg_leI, jg_ltI, jg_eqI, jg_M1, jg_M2, jg_M3, jg_M4, jg_M5, jg_M6, jg_ltT, jg_ltF, jg_leT, jg_leF, jg_eqT, jg_eqF, cond_true, cond_false, ne_eq, not_true_eq_false, not_false_eq_true, decide_true, decide_false, if_true, if_false, and_true, true_and, and_false, false_and, or_true, true_or, or_false, false_or, Nat.reduceEqDiff, reduceIte, Nat.reduceMul, Nat.reduceAdd, Nat.reduceSub, Nat.add_zero, Nat.zero_add, Nat.mul_zero, eq_self_iff_true, jg_not_lt, jg_not_le, i, ms, hr, Bool.and_true]
theorem sx_at {T : Tr} {m : jm_M} (h : xT T m) {t : Nat} (ht : t < 4) {so sz : Nat} {f : Nat → Int64} (hT : T t = some (so, sz, f)) {k : Nat} (hk : k < sz) (d : Nat) : jm_sem false (d + 2) jn_X7_at [.inr (.inr (.inl (2, t, 0))), .inl (nI k)] m = some (.inr (.inl (f k)), m) := by
  have q := h t ht
  rw [hT] at q
  have q2 := q.2.1
  have q4 := q.2.2.2.1
  have q5 := q.2.2.2.2 k hk
  have hr : jm_sem false (d + 1) jn_X7_hasRun [.inr (.inr (.inl (2, t, 0))), .inl (nI k), .inl (nI 1)] m = some (.inl (nI 1), m) := by
    rw [e_X7_hasRun]
    simp (disch := omega) only [jg_lit, jg_litL, jg_m1, jg_m1L, nI_add, lN_add, pk_mul, jg_sub, jg_subM, jg_addM, jg_addM', jg_negM, jt_in, jt_ix, jt_bi, jt_bl, jt_bv, jt_lt, jg_dT, jg_dF, jt_c, jt_cd, ru_I, ru_L, jg_leI, jg_ltI, jg_eqI, jg_M1, jg_M2, jg_M3, jg_M4, jg_M5, jg_M6, jg_ltT, jg_ltF, jg_leT, jg_leF, jg_eqT, jg_eqF, cond_true, cond_false, ne_eq, not_true_eq_false, not_false_eq_true, decide_true, decide_false, if_true, if_false, and_true, true_and, and_false, false_and, or_true, true_or, or_false, false_or, Nat.reduceEqDiff, reduceIte, Nat.reduceMul, Nat.reduceAdd, Nat.reduceSub, Nat.add_zero, Nat.zero_add, Nat.mul_zero, eq_self_iff_true, jg_not_lt, jg_not_le, q4]
  rw [e_X7_at]
  simp (disch := omega) only [jg_lit, jg_litL, jg_m1, jg_m1L, nI_add, lN_add, pk_mul, jg_sub, jg_subM, jg_addM, jg_addM', jg_negM, jt_in, jt_ix, jt_bi, jt_bl, jt_bv, jt_lt, jg_dT, jg_dF, jt_c, jt_cd, ru_I, ru_L, jg_leI, jg_ltI, jg_eqI, jg_M1, jg_M2, jg_M3, jg_M4, jg_M5, jg_M6, jg_ltT, jg_ltF, jg_leT, jg_leF, jg_eqT, jg_eqF, cond_true, cond_false, ne_eq, not_true_eq_false, not_false_eq_true, decide_true, decide_false, if_true, if_false, and_true, true_and, and_false, false_and, or_true, true_or, or_false, false_or, Nat.reduceEqDiff, reduceIte, Nat.reduceMul, Nat.reduceAdd, Nat.reduceSub, Nat.add_zero, Nat.zero_add, Nat.mul_zero, eq_self_iff_true, jg_not_lt, jg_not_le, hr, q5]
/-- numbers of a TRAY that are MEANINGS -/
def gsB (f : Nat → Int64) (mean : Nat) (gs : List Nat) : Prop := ∀ k, k < gs.length → gs.getD k 0 < mean ∧ f k = lN (gs.getD k 0)
theorem gs_cases (f : Nat → Int64) {mean : Nat} (hm : mean ≤ 12) : ∀ n, (∃ gs : List Nat, gs.length = n ∧ gsB f mean gs) ∨ ∃ gs : List Nat, gs.length < n ∧ gsB f mean gs ∧ (f gs.length < 0 ∨ lN mean ≤ f gs.length)
  | 0 => Or.inl ⟨[], rfl, fun k hk => absurd hk (Nat.not_lt_zero k)⟩
  | n + 1 => by
    rcases gs_cases f hm n with ⟨gs, h1, h2⟩ | ⟨gs, h1, h2, h3⟩
    · by_cases c : f n < 0 ∨ lN mean ≤ f n
      · exact Or.inr ⟨gs, by omega, h2, by rw [h1]; exact c⟩
      · have c1 : ¬ f n < 0 := fun z => c (Or.inl z)
        have c2 : ¬ lN mean ≤ f n := fun z => c (Or.inr z)
        rw [Int64.lt_iff_toInt_lt] at c1
        rw [Int64.le_iff_toInt_le, lN_toInt (by omega)] at c2
        have c1 : ¬ (f n).toInt < 0 := c1
        refine Or.inl ⟨gs ++ [(f n).toInt.toNat], by rw [List.length_append, List.length_singleton, h1], fun k hk => ?_⟩
        rw [List.length_append, List.length_singleton] at hk
        by_cases e : k = gs.length
        · have g : (gs ++ [(f n).toInt.toNat]).getD k 0 = (f n).toInt.toNat := by
            simp only [List.getD]
            rw [List.getElem?_append_right (by omega), e, Nat.sub_self]
            rfl
          rw [g]
          refine ⟨by omega, ?_⟩
          rw [e, h1]
          apply Int64.toInt_inj.mp
          rw [lN_toInt (by omega)]
          omega
        · have g : (gs ++ [(f n).toInt.toNat]).getD k 0 = gs.getD k 0 := by
            simp only [List.getD]
            rw [List.getElem?_append_left (by omega)]
          rw [g]
          exact h2 k (by omega)
    · exact Or.inr ⟨gs, by omega, h2, h3⟩
