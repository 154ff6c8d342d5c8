/-! ===== common ===== -/
def lcR (b : List Nat) (c : Nat) (prev : Nat → Nat) : Nat → Nat
  | 0 => 0
  | k + 1 => if c = b.getD k 0 then prev k + 1 else max (prev (k + 1)) (lcR b c prev k)
def lcT (a b : List Nat) : Nat → Nat → Nat
  | 0 => fun _ => 0
  | i + 1 => lcR b (a.getD i 0) (lcT a b i)
theorem lcT_le (a b : List Nat) : ∀ i k, lcT a b i k ≤ i
  | 0, _ => Nat.le_refl _
  | i + 1, k => by
    induction k with
    | zero => exact Nat.zero_le _
    | succ k ih =>
      have h1 := lcT_le a b i k
      have h2 := lcT_le a b i (k + 1)
      show (if a.getD i 0 = b.getD k 0 then lcT a b i k + 1 else max (lcT a b i (k + 1)) (lcT a b (i + 1) k)) ≤ i + 1
      split
      · omega
      · omega
theorem lcT_0 (a b : List Nat) (i : Nat) : lcT a b i 0 = 0 := by cases i <;> rfl
theorem lcT_eq {a b : List Nat} {i k : Nat} (h : a.getD i 0 = b.getD k 0) : lcT a b (i + 1) (k + 1) = lcT a b i k + 1 := if_pos h
theorem lcT_ne {a b : List Nat} {i k : Nat} (h : a.getD i 0 ≠ b.getD k 0) : lcT a b (i + 1) (k + 1) = max (lcT a b i (k + 1)) (lcT a b (i + 1) k) := if_neg h
def P20 (K i _j _k : Nat) : Prop := K = 20 ∧ i = 0
theorem sx_common_in {wa wb : Wd} {ja jb : Nat} (oa : okW2 wa) (ob : okW2 wb) {i : Nat} (hi : i < (wL wa).length) (d : Nat) : ∀ (r j : Nat) (z6 z7 : jm_V) (m : jm_M), j + r = (wL wb).length → xW wa 0 ja m → xW wb 0 jb m → (∀ q, q ≤ j → m.1 20 0 0 q = nI (lcT (wL wa) (wL wb) (i + 1) q)) → (∀ q, j < q → q ≤ (wL wb).length → m.1 20 0 0 q = nI (lcT (wL wa) (wL wb) i q)) → ∃ m' z4' z5' z6' z7', jm_ev false (d + 1) 7 1 jc_X8_commonOf 43 [.inr (.inr (.inl (10, 0, 0))), .inr (.inr (.inl (12, 0, ja))), .inr (.inr (.inl (12, 0, jb))), .inl (nI i), .inl (nI (lcT (wL wa) (wL wb) i j)), .inl (nI j), z6, z7] [] m = jm_ev false (d + 1) 7 1 jc_X8_commonOf 23 [.inr (.inr (.inl (10, 0, 0))), .inr (.inr (.inl (12, 0, ja))), .inr (.inr (.inl (12, 0, jb))), .inl (nI (i + 1)), z4', z5', z6', z7'] [] m' ∧ (∀ q, q ≤ (wL wb).length → m'.1 20 0 0 q = nI (lcT (wL wa) (wL wb) (i + 1) q)) ∧ fr P20 m m'
  | 0, j, z6, z7, m, hr, ha, hb, h1, h2 => by
    have b8 := okW_8 ob.1
    have a8 := okW_8 oa.1
    have y1 := hb.2.1
    refine ⟨m, .inl (nI (lcT (wL wa) (wL wb) i j)), .inl (nI j), z6, z7, ?_, fun q hq => h1 q (by omega), .rf⟩
    rw [l_X8_commonOf_43]
    simp (disch := omega) only [jg_lit, jg_litL, jg_m1, jg_m1L, nI_add, lN_add, pk_mul, jg_sub, jg_subM, jg_addM, jg_addM', jg_negM, jt_in, jt_ix, jt_bi, jt_bl, jt_bv, jt_lt, jg_dT, jg_dF, jt_c, jt_cd, ru_I, ru_L, jg_leI, jg_ltI, jg_eqI, jg_M1, jg_M2, jg_M3, jg_M4, jg_M5, jg_M6, jg_ltT, jg_ltF, jg_leT, jg_leF, jg_eqT, jg_eqF, cond_true, cond_false, ne_eq, not_true_eq_false, not_false_eq_true, decide_true, decide_false, if_true, if_false, and_true, true_and, and_false, false_and, or_true, true_or, or_false, false_or, Nat.reduceEqDiff, reduceIte, Nat.reduceMul, Nat.reduceAdd, Nat.reduceSub, Nat.add_zero, Nat.zero_add, Nat.mul_zero, eq_self_iff_true, jg_not_lt, jg_not_le, y1]
  | r + 1, j, z6, z7, m, hr, ha, hb, h1, h2 => by
    have b8 := okW_8 ob.1
    have a8 := okW_8 oa.1
    have y1 := hb.2.1
    have l1 := sx_letter ha oa.1.1 a8 (show i < 2 ^ 31 by omega) d
    have l2 := sx_letter hb ob.1.1 b8 (show j < 2 ^ 31 by omega) d
    have g1 := okL_31 oa.1.1 i
    have g2 := okL_31 ob.1.1 j
    have ab := h2 (j + 1) (by omega) (by omega)
    have le := h1 j (Nat.le_refl _)
    have t1 := lcT_le (wL wa) (wL wb) i (j + 1)
    have t2 := lcT_le (wL wa) (wL wb) (i + 1) j
    have ih := fun z7 => sx_common_in (ja := ja) (jb := jb) oa ob hi d r (j + 1) (.inl (nI (lcT (wL wa) (wL wb) i (j + 1)))) z7 (jm_sI m 20 0 0 (j + 1) (nI (lcT (wL wa) (wL wb) (i + 1) (j + 1)))) (by omega) (xW_k ha (fun k => by rw [rd_II, if_neg (by omega)]) (fun k => rfl)) (xW_k hb (fun k => by rw [rd_II, if_neg (by omega)]) (fun k => rfl)) (fun q hq => by
      rw [rd_II]
      by_cases e : q = j + 1
      · rw [if_pos ⟨rfl, rfl, rfl, e⟩, e]
      · rw [if_neg (by omega)]; exact h1 q (by omega)) (fun q hq hq2 => by
      rw [rd_II, if_neg (by omega)]; exact h2 q (by omega) hq2)
    have fin : fr P20 m (jm_sI m 20 0 0 (j + 1) (nI (lcT (wL wa) (wL wb) (i + 1) (j + 1)))) := fr_I ⟨rfl, rfl⟩
    by_cases c : (wL wa).getD i 0 = (wL wb).getD j 0
    · obtain ⟨m', z4', z5', z6', z7', e1, e2, e3⟩ := ih (.inl (nI (lcT (wL wa) (wL wb) i j + 1)))
      refine ⟨m', z4', z5', z6', z7', ?_, e2, fin.tr e3⟩
      rw [← e1, l_X8_commonOf_43, lcT_eq c]
      simp (disch := omega) only [jg_lit, jg_litL, jg_m1, jg_m1L, nI_add, lN_add, pk_mul, jg_sub, jg_subM, jg_addM, jg_addM', jg_negM, jt_in, jt_ix, jt_bi, jt_bl, jt_bv, jt_lt, jg_dT, jg_dF, jt_c, jt_cd, ru_I, ru_L, jg_leI, jg_ltI, jg_eqI, jg_M1, jg_M2, jg_M3, jg_M4, jg_M5, jg_M6, jg_ltT, jg_ltF, jg_leT, jg_leF, jg_eqT, jg_eqF, cond_true, cond_false, ne_eq, not_true_eq_false, not_false_eq_true, decide_true, decide_false, if_true, if_false, and_true, true_and, and_false, false_and, or_true, true_or, or_false, false_or, Nat.reduceEqDiff, reduceIte, Nat.reduceMul, Nat.reduceAdd, Nat.reduceSub, Nat.add_zero, Nat.zero_add, Nat.mul_zero, eq_self_iff_true, jg_not_lt, jg_not_le, y1, l1, l2, ab]
    · obtain ⟨m', z4', z5', z6', z7', e1, e2, e3⟩ := ih (.inl (nI (max (lcT (wL wa) (wL wb) i (j + 1)) (lcT (wL wa) (wL wb) (i + 1) j))))
      refine ⟨m', z4', z5', z6', z7', ?_, e2, fin.tr e3⟩
      have mx := nI_max (a := lcT (wL wa) (wL wb) i (j + 1)) (b := lcT (wL wa) (wL wb) (i + 1) j) (by omega) (by omega)
      rw [← e1, l_X8_commonOf_43, lcT_ne c, ← mx]
      simp (disch := omega) only [jg_lit, jg_litL, jg_m1, jg_m1L, nI_add, lN_add, pk_mul, jg_sub, jg_subM, jg_addM, jg_addM', jg_negM, jt_in, jt_ix, jt_bi, jt_bl, jt_bv, jt_lt, jg_dT, jg_dF, jt_c, jt_cd, ru_I, ru_L, jg_leI, jg_ltI, jg_eqI, jg_M1, jg_M2, jg_M3, jg_M4, jg_M5, jg_M6, jg_ltT, jg_ltF, jg_leT, jg_leF, jg_eqT, jg_eqF, cond_true, cond_false, ne_eq, not_true_eq_false, not_false_eq_true, decide_true, decide_false, if_true, if_false, and_true, true_and, and_false, false_and, or_true, true_or, or_false, false_or, Nat.reduceEqDiff, reduceIte, Nat.reduceMul, Nat.reduceAdd, Nat.reduceSub, Nat.add_zero, Nat.zero_add, Nat.mul_zero, eq_self_iff_true, jg_not_lt, jg_not_le, y1, l1, l2, ab, le]
theorem sx_common_out {wa wb : Wd} {ja jb : Nat} (oa : okW2 wa) (ob : okW2 wb) (d : Nat) : ∀ (r i : Nat) (z4 z5 z6 z7 : jm_V) (m : jm_M), i + r = (wL wa).length → xW wa 0 ja m → xW wb 0 jb m → (∀ q, q ≤ (wL wb).length → m.1 20 0 0 q = nI (lcT (wL wa) (wL wb) i q)) → ∃ m', jm_ev false (d + 1) 7 1 jc_X8_commonOf 23 [.inr (.inr (.inl (10, 0, 0))), .inr (.inr (.inl (12, 0, ja))), .inr (.inr (.inl (12, 0, jb))), .inl (nI i), z4, z5, z6, z7] [] m = some (.inl (nI (lcT (wL wa) (wL wb) (wL wa).length (wL wb).length)), m') ∧ fr P20 m m'
  | 0, i, z4, z5, z6, z7, m, hr, ha, hb, h1 => by
    have b8 := okW_8 ob.1
    have a8 := okW_8 oa.1
    have y1 := hb.2.1
    have x1 := ha.2.1
    have e : i = (wL wa).length := by omega
    have l := h1 _ (Nat.le_refl _)
    rw [e] at l
    refine ⟨m, ?_, .rf⟩
    rw [l_X8_commonOf_23]
    simp (disch := omega) only [jg_lit, jg_litL, jg_m1, jg_m1L, nI_add, lN_add, pk_mul, jg_sub, jg_subM, jg_addM, jg_addM', jg_negM, jt_in, jt_ix, jt_bi, jt_bl, jt_bv, jt_lt, jg_dT, jg_dF, jt_c, jt_cd, ru_I, ru_L, jg_leI, jg_ltI, jg_eqI, jg_M1, jg_M2, jg_M3, jg_M4, jg_M5, jg_M6, jg_ltT, jg_ltF, jg_leT, jg_leF, jg_eqT, jg_eqF, cond_true, cond_false, ne_eq, not_true_eq_false, not_false_eq_true, decide_true, decide_false, if_true, if_false, and_true, true_and, and_false, false_and, or_true, true_or, or_false, false_or, Nat.reduceEqDiff, reduceIte, Nat.reduceMul, Nat.reduceAdd, Nat.reduceSub, Nat.add_zero, Nat.zero_add, Nat.mul_zero, eq_self_iff_true, jg_not_lt, jg_not_le, y1, x1, l]
  | r + 1, i, z4, z5, z6, z7, m, hr, ha, hb, h1 => by
    have b8 := okW_8 ob.1
    have a8 := okW_8 oa.1
    have y1 := hb.2.1
    have x1 := ha.2.1
    obtain ⟨m1, z4', z5', z6', z7', e1, e2, e3⟩ := sx_common_in (ja := ja) (jb := jb) oa ob (show i < (wL wa).length by omega) d (wL wb).length 0 z6 z7 m (by omega) ha hb (fun q hq => by
      have : q = 0 := by omega
      subst this
      rw [h1 0 (by omega), lcT_0, lcT_0]) (fun q _ hq => h1 q hq)
    obtain ⟨m', f1, f2⟩ := sx_common_out (ja := ja) (jb := jb) oa ob d r (i + 1) z4' z5' z6' z7' m1 (by omega) (xW_fr ha e3 (fun k z => by unfold P20 at z; omega)) (xW_fr hb e3 (fun k z => by unfold P20 at z; omega)) e2
    refine ⟨m', ?_, e3.tr f2⟩
    rw [lcT_0] at e1
    rw [← f1, ← e1, l_X8_commonOf_23]
    simp (disch := omega) only [jg_lit, jg_litL, jg_m1, jg_m1L, nI_add, lN_add, pk_mul, jg_sub, jg_subM, jg_addM, jg_addM', jg_negM, jt_in, jt_ix, jt_bi, jt_bl, jt_bv, jt_lt, jg_dT, jg_dF, jt_c, jt_cd, ru_I, ru_L, jg_leI, jg_ltI, jg_eqI, jg_M1, jg_M2, jg_M3, jg_M4, jg_M5, jg_M6, jg_ltT, jg_ltF, jg_leT, jg_leF, jg_eqT, jg_eqF, cond_true, cond_false, ne_eq, not_true_eq_false, not_false_eq_true, decide_true, decide_false, if_true, if_false, and_true, true_and, and_false, false_and, or_true, true_or, or_false, false_or, Nat.reduceEqDiff, reduceIte, Nat.reduceMul, Nat.reduceAdd, Nat.reduceSub, Nat.add_zero, Nat.zero_add, Nat.mul_zero, eq_self_iff_true, jg_not_lt, jg_not_le, x1]
theorem sx_common_0 {ja jb : Nat} (z4 z5 z6 z7 : jm_V) (d : Nat) : ∀ (r k : Nat) (m : jm_M), k + r = 9 → (∀ q, q < k → m.1 20 0 0 q = 0) → ∃ m', jm_ev false (d + 1) 7 1 jc_X8_commonOf 2 [.inr (.inr (.inl (10, 0, 0))), .inr (.inr (.inl (12, 0, ja))), .inr (.inr (.inl (12, 0, jb))), .inl (nI k), z4, z5, z6, z7] [] m = jm_ev false (d + 1) 7 1 jc_X8_commonOf 23 [.inr (.inr (.inl (10, 0, 0))), .inr (.inr (.inl (12, 0, ja))), .inr (.inr (.inl (12, 0, jb))), .inl (nI 0), z4, z5, z6, z7] [] m' ∧ (∀ q, q ≤ 8 → m'.1 20 0 0 q = 0) ∧ fr P20 m m'
  | 0, k, m, hr, h1 => by
    refine ⟨m, ?_, fun q hq => h1 q (by omega), .rf⟩
    rw [l_X8_commonOf_2]
    simp (disch := omega) only [jg_lit, jg_litL, jg_m1, jg_m1L, nI_add, lN_add, pk_mul, jg_sub, jg_subM, jg_addM, jg_addM', jg_negM, jt_in, jt_ix, jt_bi, jt_bl, jt_bv, jt_lt, jg_dT, jg_dF, jt_c, jt_cd, ru_I, ru_L, jg_leI, jg_ltI, jg_eqI, jg_M1, jg_M2, jg_M3, jg_M4, jg_M5, jg_M6, jg_ltT, jg_ltF, jg_leT, jg_leF, jg_eqT, jg_eqF, cond_true, cond_false, ne_eq, not_true_eq_false, not_false_eq_true, decide_true, decide_false, if_true, if_false, and_true, true_and, and_false, false_and, or_true, true_or, or_false, false_or, Nat.reduceEqDiff, reduceIte, Nat.reduceMul, Nat.reduceAdd, Nat.reduceSub, Nat.add_zero, Nat.zero_add, Nat.mul_zero, eq_self_iff_true, jg_not_lt, jg_not_le]
  | r + 1, k, m, hr, h1 => by
    obtain ⟨m', e1, e2, e3⟩ := sx_common_0 (ja := ja) (jb := jb) z4 z5 z6 z7 d r (k + 1) (jm_sI m 20 0 0 k 0) (by omega) (fun q hq => by
      rw [rd_II]
      by_cases e : q = k
      · rw [if_pos ⟨rfl, rfl, rfl, e⟩]
      · rw [if_neg (by omega)]; exact h1 q (by omega))
    refine ⟨m', ?_, e2, (fr_I (⟨rfl, rfl⟩ : P20 20 0 0 k)).tr e3⟩
    rw [← e1, l_X8_commonOf_2]
    simp (disch := omega) only [jg_lit, jg_litL, jg_m1, jg_m1L, nI_add, lN_add, pk_mul, jg_sub, jg_subM, jg_addM, jg_addM', jg_negM, jt_in, jt_ix, jt_bi, jt_bl, jt_bv, jt_lt, jg_dT, jg_dF, jt_c, jt_cd, ru_I, ru_L, jg_leI, jg_ltI, jg_eqI, jg_M1, jg_M2, jg_M3, jg_M4, jg_M5, jg_M6, jg_ltT, jg_ltF, jg_leT, jg_leF, jg_eqT, jg_eqF, cond_true, cond_false, ne_eq, not_true_eq_false, not_false_eq_true, decide_true, decide_false, if_true, if_false, and_true, true_and, and_false, false_and, or_true, true_or, or_false, false_or, Nat.reduceEqDiff, reduceIte, Nat.reduceMul, Nat.reduceAdd, Nat.reduceSub, Nat.add_zero, Nat.zero_add, Nat.mul_zero, eq_self_iff_true, jg_not_lt, jg_not_le]
theorem sx_commonOf {wa wb : Wd} {ja jb : Nat} (oa : okW2 wa) (ob : okW2 wb) {m : jm_M} (ha : xW wa 0 ja m) (hb : xW wb 0 jb m) (d : Nat) : ∃ m', jm_sem false (d + 2) jn_X8_commonOf [.inr (.inr (.inl (10, 0, 0))), .inr (.inr (.inl (12, 0, ja))), .inr (.inr (.inl (12, 0, jb)))] m = some (.inl (nI (lcT (wL wa) (wL wb) (wL wa).length (wL wb).length)), m') ∧ fr P20 m m' := by
  have b8 := okW_8 ob.1
  obtain ⟨m1, e1, e2, e3⟩ := sx_common_0 (ja := ja) (jb := jb) jm_j jm_j jm_j jm_j d 9 0 m (by omega) (fun q hq => by omega)
  obtain ⟨m', f1, f2⟩ := sx_common_out (ja := ja) (jb := jb) oa ob d (wL wa).length 0 jm_j jm_j jm_j jm_j m1 (by omega) (xW_fr ha e3 (fun k z => by unfold P20 at z; omega)) (xW_fr hb e3 (fun k z => by unfold P20 at z; omega)) (fun q hq => e2 q (by omega))
  refine ⟨m', ?_, e3.tr f2⟩
  rw [← f1, ← e1, e_X8_commonOf]
  rfl
