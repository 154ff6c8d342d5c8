/-! ===== a VILLAGE read (class): all of it ===== -/
theorem sx_harden {i : Nat} (d : Nat) : ∀ (r k : Nat) (m : jm_M), k + r = 32 → (∀ c, c < k → m.1 19 i 0 c = nI (32 + c)) → ∃ m', jm_ev false d 7 0 jc_X8_hardenAll 2 [.inr (.inr (.inl (10, i, 0))), .inl (nI k)] [] m = some (jm_j, m') ∧ (∀ c, c < 32 → m'.1 19 i 0 c = nI (32 + c)) ∧ fr (fun K i' _ _ => K = 19 ∧ i' = i) m m'
  | 0, k, m, hr, h => by
    refine ⟨m, ?_, fun c hc => h c (by omega), .rf⟩
    rw [l_X8_hardenAll_2]
    simp (disch := omega) only [jg_lit, jg_litL, jg_m1, jg_m1L, nI_add, lN_add, pk_mul, jg_sub, jg_subM, jg_addM, jg_addM', jg_negM, jt_in, jt_ix, jt_bi, jt_bl, jt_bv, jt_lt, jg_dT, jg_dF, jt_c, jt_cd, ru_I, ru_L, jg_leI, jg_ltI, jg_eqI, jg_M1, jg_M2, jg_M3, jg_M4, jg_M5, jg_M6, jg_ltT, jg_ltF, jg_leT, jg_leF, jg_eqT, jg_eqF, cond_true, cond_false, ne_eq, not_true_eq_false, not_false_eq_true, decide_true, decide_false, if_true, if_false, and_true, true_and, and_false, false_and, or_true, true_or, or_false, false_or, Nat.reduceEqDiff, reduceIte, Nat.reduceMul, Nat.reduceAdd, Nat.reduceSub, Nat.add_zero, Nat.zero_add, Nat.mul_zero, eq_self_iff_true, jg_not_lt, jg_not_le]
  | r + 1, k, m, hr, h => by
    obtain ⟨m', e1, e2, e3⟩ := sx_harden d r (k + 1) (jm_sI m 19 i 0 k (nI (32 + k))) (by omega) (fun c hc => by
      rw [rd_II]
      by_cases e : c = k
      · rw [if_pos ⟨rfl, rfl, rfl, e⟩, e]
      · rw [if_neg (by omega)]; exact h c (by omega))
    refine ⟨m', ?_, e2, (fr_I ⟨rfl, rfl⟩).tr e3⟩
    rw [← e1, l_X8_hardenAll_2]
    simp (disch := omega) only [jg_lit, jg_litL, jg_m1, jg_m1L, nI_add, lN_add, pk_mul, jg_sub, jg_subM, jg_addM, jg_addM', jg_negM, jt_in, jt_ix, jt_bi, jt_bl, jt_bv, jt_lt, jg_dT, jg_dF, jt_c, jt_cd, ru_I, ru_L, jg_leI, jg_ltI, jg_eqI, jg_M1, jg_M2, jg_M3, jg_M4, jg_M5, jg_M6, jg_ltT, jg_ltF, jg_leT, jg_leF, jg_eqT, jg_eqF, cond_true, cond_false, ne_eq, not_true_eq_false, not_false_eq_true, decide_true, decide_false, if_true, if_false, and_true, true_and, and_false, false_and, or_true, true_or, or_false, false_or, Nat.reduceEqDiff, reduceIte, Nat.reduceMul, Nat.reduceAdd, Nat.reduceSub, Nat.add_zero, Nat.zero_add, Nat.mul_zero, eq_self_iff_true, jg_not_lt, jg_not_le]
def pv0 : Pv := ([], [], [], none)
theorem okPv0 : okPv pv0 := ⟨Nat.zero_le _, Nat.zero_le _, Nat.zero_le _, fun _ h => absurd h List.not_mem_nil, fun _ h => absurd h List.not_mem_nil, fun _ h => absurd h List.not_mem_nil, List.nodup_nil, fun l h => by cases h⟩
def PVc (K i _j k : Nat) : Prop := (K = 6 ∧ k = 3) ∨ (i = 1 ∧ (K = 10 ∨ (12 ≤ K ∧ K ≤ 19)))
theorem sx_clear0 (d : Nat) (m : jm_M) : ∃ m', jm_sem false (d + 2) jn_X8_clear [.inr (.inr (.inl (10, 1, 0)))] m = some (jm_j, m') ∧ xPv pv0 (jm_sI m' 6 0 0 3 0) ∧ fr PVc m (jm_sI m' 6 0 0 3 0) := by
  obtain ⟨m', e1, e2, e3⟩ := sx_harden (i := 1) d 32 0 (jm_sI (jm_sI (jm_sI (jm_sI (jm_sI (jm_sI (jm_sI m 10 1 0 3 (nI 0)) 10 1 0 4 (nI 0)) 10 1 0 5 (nI 0)) 10 1 0 6 (nI 0)) 13 1 0 4 (nI 0)) 13 1 0 5 (nI 0)) 13 1 0 6 (nI 0)) rfl (fun c hc => by omega)
  have q : ∀ K k, K ≠ 19 → m'.1 K 1 0 k = (jm_sI (jm_sI (jm_sI (jm_sI (jm_sI (jm_sI (jm_sI m 10 1 0 3 (nI 0)) 10 1 0 4 (nI 0)) 10 1 0 5 (nI 0)) 10 1 0 6 (nI 0)) 13 1 0 4 (nI 0)) 13 1 0 5 (nI 0)) 13 1 0 6 (nI 0)).1 K 1 0 k := fun K k hK => (e3 K 1 0 k (by omega)).1
  have ne : ∀ K i j k, K ≠ 6 → (jm_sI m' 6 0 0 3 0).1 K i j k = m'.1 K i j k := fun K i j k z => by rw [rd_II, if_neg (by omega)]
  refine ⟨m', ?_, ⟨?_, ?_, ?_, ?_, ⟨?_, ?_, ?_, fun k hk => absurd hk (Nat.not_lt_zero k), fun r hr => absurd hr (Nat.not_lt_zero r)⟩, fun c c1 c2 => ?_, fun j hj => absurd hj (Nat.not_lt_zero j), fun k hk => absurd hk (Nat.not_lt_zero k), fun k hk => absurd hk (Nat.not_lt_zero k), ?_⟩, ?_⟩
  · have hh : jm_sem false (d + 1) jn_X8_hardenAll [.inr (.inr (.inl (10, 1, 0)))] (jm_sI (jm_sI (jm_sI (jm_sI (jm_sI (jm_sI (jm_sI m 10 1 0 3 (nI 0)) 10 1 0 4 (nI 0)) 10 1 0 5 (nI 0)) 10 1 0 6 (nI 0)) 13 1 0 4 (nI 0)) 13 1 0 5 (nI 0)) 13 1 0 6 (nI 0)) = some (jm_j, m') := by
      rw [e_X8_hardenAll]; exact e1
    rw [e_X8_clear, e_X2_clear, jt_bv]
    have hh : jm_sem false (d + 1) jn_X8_hardenAll [.inr (.inr (.inl (10, 1, 0)))] (jm_sI (jm_sI (jm_sI (jm_sI (jm_sI (jm_sI (jm_sI m 10 1 0 3 0) 10 1 0 4 0) 10 1 0 5 0) 10 1 0 6 0) 13 1 0 4 0) 13 1 0 5 0) 13 1 0 6 0) = some (jm_j, m') := hh
    rw [hh, jt_bv]
  · rw [ne _ _ _ _ (by decide), q 10 3 (by decide)]; simp (disch := omega) only [jg_lit, jg_litL, jg_m1, jg_m1L, nI_add, lN_add, pk_mul, jg_sub, jg_subM, jg_addM, jg_addM', jg_negM, jt_in, jt_ix, jt_bi, jt_bl, jt_bv, jt_lt, jg_dT, jg_dF, jt_c, jt_cd, ru_I, ru_L, jg_leI, jg_ltI, jg_eqI, jg_M1, jg_M2, jg_M3, jg_M4, jg_M5, jg_M6, jg_ltT, jg_ltF, jg_leT, jg_leF, jg_eqT, jg_eqF, cond_true, cond_false, ne_eq, not_true_eq_false, not_false_eq_true, decide_true, decide_false, if_true, if_false, and_true, true_and, and_false, false_and, or_true, true_or, or_false, false_or, Nat.reduceEqDiff, reduceIte, Nat.reduceMul, Nat.reduceAdd, Nat.reduceSub, Nat.add_zero, Nat.zero_add, Nat.mul_zero, eq_self_iff_true, jg_not_lt, jg_not_le]; rfl
  · rw [ne _ _ _ _ (by decide), q 10 4 (by decide)]; simp (disch := omega) only [jg_lit, jg_litL, jg_m1, jg_m1L, nI_add, lN_add, pk_mul, jg_sub, jg_subM, jg_addM, jg_addM', jg_negM, jt_in, jt_ix, jt_bi, jt_bl, jt_bv, jt_lt, jg_dT, jg_dF, jt_c, jt_cd, ru_I, ru_L, jg_leI, jg_ltI, jg_eqI, jg_M1, jg_M2, jg_M3, jg_M4, jg_M5, jg_M6, jg_ltT, jg_ltF, jg_leT, jg_leF, jg_eqT, jg_eqF, cond_true, cond_false, ne_eq, not_true_eq_false, not_false_eq_true, decide_true, decide_false, if_true, if_false, and_true, true_and, and_false, false_and, or_true, true_or, or_false, false_or, Nat.reduceEqDiff, reduceIte, Nat.reduceMul, Nat.reduceAdd, Nat.reduceSub, Nat.add_zero, Nat.zero_add, Nat.mul_zero, eq_self_iff_true, jg_not_lt, jg_not_le]; rfl
  · rw [ne _ _ _ _ (by decide), q 10 5 (by decide)]; simp (disch := omega) only [jg_lit, jg_litL, jg_m1, jg_m1L, nI_add, lN_add, pk_mul, jg_sub, jg_subM, jg_addM, jg_addM', jg_negM, jt_in, jt_ix, jt_bi, jt_bl, jt_bv, jt_lt, jg_dT, jg_dF, jt_c, jt_cd, ru_I, ru_L, jg_leI, jg_ltI, jg_eqI, jg_M1, jg_M2, jg_M3, jg_M4, jg_M5, jg_M6, jg_ltT, jg_ltF, jg_leT, jg_leF, jg_eqT, jg_eqF, cond_true, cond_false, ne_eq, not_true_eq_false, not_false_eq_true, decide_true, decide_false, if_true, if_false, and_true, true_and, and_false, false_and, or_true, true_or, or_false, false_or, Nat.reduceEqDiff, reduceIte, Nat.reduceMul, Nat.reduceAdd, Nat.reduceSub, Nat.add_zero, Nat.zero_add, Nat.mul_zero, eq_self_iff_true, jg_not_lt, jg_not_le]; rfl
  · rw [ne _ _ _ _ (by decide), q 10 6 (by decide)]; simp (disch := omega) only [jg_lit, jg_litL, jg_m1, jg_m1L, nI_add, lN_add, pk_mul, jg_sub, jg_subM, jg_addM, jg_addM', jg_negM, jt_in, jt_ix, jt_bi, jt_bl, jt_bv, jt_lt, jg_dT, jg_dF, jt_c, jt_cd, ru_I, ru_L, jg_leI, jg_ltI, jg_eqI, jg_M1, jg_M2, jg_M3, jg_M4, jg_M5, jg_M6, jg_ltT, jg_ltF, jg_leT, jg_leF, jg_eqT, jg_eqF, cond_true, cond_false, ne_eq, not_true_eq_false, not_false_eq_true, decide_true, decide_false, if_true, if_false, and_true, true_and, and_false, false_and, or_true, true_or, or_false, false_or, Nat.reduceEqDiff, reduceIte, Nat.reduceMul, Nat.reduceAdd, Nat.reduceSub, Nat.add_zero, Nat.zero_add, Nat.mul_zero, eq_self_iff_true, jg_not_lt, jg_not_le]
  · rw [ne _ _ _ _ (by decide), q 13 4 (by decide)]; simp (disch := omega) only [jg_lit, jg_litL, jg_m1, jg_m1L, nI_add, lN_add, pk_mul, jg_sub, jg_subM, jg_addM, jg_addM', jg_negM, jt_in, jt_ix, jt_bi, jt_bl, jt_bv, jt_lt, jg_dT, jg_dF, jt_c, jt_cd, ru_I, ru_L, jg_leI, jg_ltI, jg_eqI, jg_M1, jg_M2, jg_M3, jg_M4, jg_M5, jg_M6, jg_ltT, jg_ltF, jg_leT, jg_leF, jg_eqT, jg_eqF, cond_true, cond_false, ne_eq, not_true_eq_false, not_false_eq_true, decide_true, decide_false, if_true, if_false, and_true, true_and, and_false, false_and, or_true, true_or, or_false, false_or, Nat.reduceEqDiff, reduceIte, Nat.reduceMul, Nat.reduceAdd, Nat.reduceSub, Nat.add_zero, Nat.zero_add, Nat.mul_zero, eq_self_iff_true, jg_not_lt, jg_not_le]; rfl
  · rw [ne _ _ _ _ (by decide), q 13 5 (by decide)]; simp (disch := omega) only [jg_lit, jg_litL, jg_m1, jg_m1L, nI_add, lN_add, pk_mul, jg_sub, jg_subM, jg_addM, jg_addM', jg_negM, jt_in, jt_ix, jt_bi, jt_bl, jt_bv, jt_lt, jg_dT, jg_dF, jt_c, jt_cd, ru_I, ru_L, jg_leI, jg_ltI, jg_eqI, jg_M1, jg_M2, jg_M3, jg_M4, jg_M5, jg_M6, jg_ltT, jg_ltF, jg_leT, jg_leF, jg_eqT, jg_eqF, cond_true, cond_false, ne_eq, not_true_eq_false, not_false_eq_true, decide_true, decide_false, if_true, if_false, and_true, true_and, and_false, false_and, or_true, true_or, or_false, false_or, Nat.reduceEqDiff, reduceIte, Nat.reduceMul, Nat.reduceAdd, Nat.reduceSub, Nat.add_zero, Nat.zero_add, Nat.mul_zero, eq_self_iff_true, jg_not_lt, jg_not_le]; rfl
  · rw [ne _ _ _ _ (by decide), q 13 6 (by decide)]; simp (disch := omega) only [jg_lit, jg_litL, jg_m1, jg_m1L, nI_add, lN_add, pk_mul, jg_sub, jg_subM, jg_addM, jg_addM', jg_negM, jt_in, jt_ix, jt_bi, jt_bl, jt_bv, jt_lt, jg_dT, jg_dF, jt_c, jt_cd, ru_I, ru_L, jg_leI, jg_ltI, jg_eqI, jg_M1, jg_M2, jg_M3, jg_M4, jg_M5, jg_M6, jg_ltT, jg_ltF, jg_leT, jg_leF, jg_eqT, jg_eqF, cond_true, cond_false, ne_eq, not_true_eq_false, not_false_eq_true, decide_true, decide_false, if_true, if_false, and_true, true_and, and_false, false_and, or_true, true_or, or_false, false_or, Nat.reduceEqDiff, reduceIte, Nat.reduceMul, Nat.reduceAdd, Nat.reduceSub, Nat.add_zero, Nat.zero_add, Nat.mul_zero, eq_self_iff_true, jg_not_lt, jg_not_le]; rfl
  · rw [ne _ _ _ _ (by decide)]; exact e2 c (by omega)
  · rw [rd_II, if_pos ⟨rfl, rfl, rfl, rfl⟩]; rfl
  · refine fr_sI ((fr_sI (fr_sI (fr_sI (fr_sI (fr_sI (fr_sI (fr_sI .rf ?_) ?_) ?_) ?_) ?_) ?_) ?_).tr (e3.wk (fun K i j k z => by unfold PVc; omega))) ?_ <;> (unfold PVc; omega)
theorem sx_teachW {n L P : Nat} (hn : n < L) (hL : L ≤ 12) (hP : P ≤ 4) (v : Int64) (d : Nat) : ∀ (r s : Nat) (m : jm_M), s + r = P → m.1 10 1 0 5 = nI P → m.1 10 1 0 4 = nI L → m.2 12 1 n 0 = v → (∀ q, q < s → m.2 18 1 0 (q * 12 + n) = v) → ∃ m', jm_ev false (d + 2) 7 0 jc_X8_teachWord 2 [.inr (.inr (.inl (10, 1, 0))), .inl (nI n), .inl (nI s)] [] m = some (jm_j, m') ∧ (∀ q, q < P → m'.2 18 1 0 (q * 12 + n) = v) ∧ fr (fun K i _ k => K = 18 ∧ i = 1 ∧ k % 12 = n) m m'
  | 0, s, m, hr, h5, h4, hv, hq => by
    refine ⟨m, ?_, fun q hq' => hq q (by omega), .rf⟩
    rw [l_X8_teachWord_2]
    simp (disch := omega) only [jg_lit, jg_litL, jg_m1, jg_m1L, nI_add, lN_add, pk_mul, jg_sub, jg_subM, jg_addM, jg_addM', jg_negM, jt_in, jt_ix, jt_bi, jt_bl, jt_bv, jt_lt, jg_dT, jg_dF, jt_c, jt_cd, ru_I, ru_L, jg_leI, jg_ltI, jg_eqI, jg_M1, jg_M2, jg_M3, jg_M4, jg_M5, jg_M6, jg_ltT, jg_ltF, jg_leT, jg_leF, jg_eqT, jg_eqF, cond_true, cond_false, ne_eq, not_true_eq_false, not_false_eq_true, decide_true, decide_false, if_true, if_false, and_true, true_and, and_false, false_and, or_true, true_or, or_false, false_or, Nat.reduceEqDiff, reduceIte, Nat.reduceMul, Nat.reduceAdd, Nat.reduceSub, Nat.add_zero, Nat.zero_add, Nat.mul_zero, eq_self_iff_true, jg_not_lt, jg_not_le, h5]
  | r + 1, s, m, hr, h5, h4, hv, hq => by
    obtain ⟨m', e1, e2, e3⟩ := sx_teachW hn hL hP v d r (s + 1) (jm_sL m 18 1 0 (s * 12 + n) v) (by omega) h5 h4 (by rw [rd_LL, if_neg (by omega)]; exact hv) (fun q hq' => by
      rw [rd_LL]
      by_cases e : q = s
      · rw [if_pos ⟨rfl, rfl, rfl, by rw [e]⟩]
      · rw [if_neg (by omega)]; exact hq q (by omega))
    refine ⟨m', ?_, e2, (fr_L ⟨rfl, rfl, by omega⟩).tr e3⟩
    have sp : jm_sem false (d + 1) jn_X8_isSpeaker [.inr (.inr (.inl (10, 1, 0))), .inl (nI s)] m = some (.inl (nI 1), m) := by
      rw [e_X8_isSpeaker]; simp (disch := omega) only [jg_lit, jg_litL, jg_m1, jg_m1L, nI_add, lN_add, pk_mul, jg_sub, jg_subM, jg_addM, jg_addM', jg_negM, jt_in, jt_ix, jt_bi, jt_bl, jt_bv, jt_lt, jg_dT, jg_dF, jt_c, jt_cd, ru_I, ru_L, jg_leI, jg_ltI, jg_eqI, jg_M1, jg_M2, jg_M3, jg_M4, jg_M5, jg_M6, jg_ltT, jg_ltF, jg_leT, jg_leF, jg_eqT, jg_eqF, cond_true, cond_false, ne_eq, not_true_eq_false, not_false_eq_true, decide_true, decide_false, if_true, if_false, and_true, true_and, and_false, false_and, or_true, true_or, or_false, false_or, Nat.reduceEqDiff, reduceIte, Nat.reduceMul, Nat.reduceAdd, Nat.reduceSub, Nat.add_zero, Nat.zero_add, Nat.mul_zero, eq_self_iff_true, jg_not_lt, jg_not_le, h5]
    have wo : jm_sem false (d + 1) jn_X8_isWord [.inr (.inr (.inl (10, 1, 0))), .inl (nI n)] m = some (.inl (nI 1), m) := by
      rw [e_X8_isWord]; simp (disch := omega) only [jg_lit, jg_litL, jg_m1, jg_m1L, nI_add, lN_add, pk_mul, jg_sub, jg_subM, jg_addM, jg_addM', jg_negM, jt_in, jt_ix, jt_bi, jt_bl, jt_bv, jt_lt, jg_dT, jg_dF, jt_c, jt_cd, ru_I, ru_L, jg_leI, jg_ltI, jg_eqI, jg_M1, jg_M2, jg_M3, jg_M4, jg_M5, jg_M6, jg_ltT, jg_ltF, jg_leT, jg_leF, jg_eqT, jg_eqF, cond_true, cond_false, ne_eq, not_true_eq_false, not_false_eq_true, decide_true, decide_false, if_true, if_false, and_true, true_and, and_false, false_and, or_true, true_or, or_false, false_or, Nat.reduceEqDiff, reduceIte, Nat.reduceMul, Nat.reduceAdd, Nat.reduceSub, Nat.add_zero, Nat.zero_add, Nat.mul_zero, eq_self_iff_true, jg_not_lt, jg_not_le, h4]
    have le : jm_sem false (d + 2) jn_X8_learn [.inr (.inr (.inl (10, 1, 0))), .inl (nI s), .inl (nI n), .inr (.inl v)] m = some (jm_j, jm_sL m 18 1 0 (s * 12 + n) v) := by
      rw [e_X8_learn]; simp (disch := omega) only [jg_lit, jg_litL, jg_m1, jg_m1L, nI_add, lN_add, pk_mul, jg_sub, jg_subM, jg_addM, jg_addM', jg_negM, jt_in, jt_ix, jt_bi, jt_bl, jt_bv, jt_lt, jg_dT, jg_dF, jt_c, jt_cd, ru_I, ru_L, jg_leI, jg_ltI, jg_eqI, jg_M1, jg_M2, jg_M3, jg_M4, jg_M5, jg_M6, jg_ltT, jg_ltF, jg_leT, jg_leF, jg_eqT, jg_eqF, cond_true, cond_false, ne_eq, not_true_eq_false, not_false_eq_true, decide_true, decide_false, if_true, if_false, and_true, true_and, and_false, false_and, or_true, true_or, or_false, false_or, Nat.reduceEqDiff, reduceIte, Nat.reduceMul, Nat.reduceAdd, Nat.reduceSub, Nat.add_zero, Nat.zero_add, Nat.mul_zero, eq_self_iff_true, jg_not_lt, jg_not_le, sp, wo]
    rw [← e1, l_X8_teachWord_2]
    simp (disch := omega) only [jg_lit, jg_litL, jg_m1, jg_m1L, nI_add, lN_add, pk_mul, jg_sub, jg_subM, jg_addM, jg_addM', jg_negM, jt_in, jt_ix, jt_bi, jt_bl, jt_bv, jt_lt, jg_dT, jg_dF, jt_c, jt_cd, ru_I, ru_L, jg_leI, jg_ltI, jg_eqI, jg_M1, jg_M2, jg_M3, jg_M4, jg_M5, jg_M6, jg_ltT, jg_ltF, jg_leT, jg_leF, jg_eqT, jg_eqF, cond_true, cond_false, ne_eq, not_true_eq_false, not_false_eq_true, decide_true, decide_false, if_true, if_false, and_true, true_and, and_false, false_and, or_true, true_or, or_false, false_or, Nat.reduceEqDiff, reduceIte, Nat.reduceMul, Nat.reduceAdd, Nat.reduceSub, Nat.add_zero, Nat.zero_add, Nat.mul_zero, eq_self_iff_true, jg_not_lt, jg_not_le, h5, hv, le, Bool.and_true]
theorem sx_teachAll {L P : Nat} (hL : L ≤ 12) (hP : P ≤ 4) (d : Nat) : ∀ (r n : Nat) (m : jm_M), n + r = L → m.1 10 1 0 5 = nI P → m.1 10 1 0 4 = nI L → (∀ j q, j < n → q < P → m.2 18 1 0 (q * 12 + j) = m.2 12 1 j 0) → ∃ m', jm_ev false (d + 3) 7 0 jc_X8_teachAllWords 2 [.inr (.inr (.inl (10, 1, 0))), .inl (nI n)] [] m = some (jm_j, m') ∧ (∀ j q, j < L → q < P → m'.2 18 1 0 (q * 12 + j) = m'.2 12 1 j 0) ∧ fr (fun K i _ _ => K = 18 ∧ i = 1) m m'
  | 0, n, m, hr, h5, h4, hq => by
    refine ⟨m, ?_, fun j q hj hq' => hq j q (by omega) hq', .rf⟩
    rw [l_X8_teachAllWords_2]
    simp (disch := omega) only [jg_lit, jg_litL, jg_m1, jg_m1L, nI_add, lN_add, pk_mul, jg_sub, jg_subM, jg_addM, jg_addM', jg_negM, jt_in, jt_ix, jt_bi, jt_bl, jt_bv, jt_lt, jg_dT, jg_dF, jt_c, jt_cd, ru_I, ru_L, jg_leI, jg_ltI, jg_eqI, jg_M1, jg_M2, jg_M3, jg_M4, jg_M5, jg_M6, jg_ltT, jg_ltF, jg_leT, jg_leF, jg_eqT, jg_eqF, cond_true, cond_false, ne_eq, not_true_eq_false, not_false_eq_true, decide_true, decide_false, if_true, if_false, and_true, true_and, and_false, false_and, or_true, true_or, or_false, false_or, Nat.reduceEqDiff, reduceIte, Nat.reduceMul, Nat.reduceAdd, Nat.reduceSub, Nat.add_zero, Nat.zero_add, Nat.mul_zero, eq_self_iff_true, jg_not_lt, jg_not_le, h4]
  | r + 1, n, m, hr, h5, h4, hq => by
    obtain ⟨m1, a1, a2, a3⟩ := sx_teachW (n := n) (L := L) (by omega) hL hP (m.2 12 1 n 0) d P 0 m (by omega) h5 h4 rfl (fun q hq' => by omega)
    have k12 : ∀ j, m1.2 12 1 j 0 = m.2 12 1 j 0 := fun j => (a3 12 1 j 0 (by omega)).2
    obtain ⟨m', e1, e2, e3⟩ := sx_teachAll hL hP d r (n + 1) m1 (by omega) (by rw [(a3 10 1 0 5 (by omega)).1]; exact h5) (by rw [(a3 10 1 0 4 (by omega)).1]; exact h4) (fun j q hj hq' => by
      rw [k12]
      by_cases e : j = n
      · rw [e]; exact a2 q hq'
      · rw [(a3 18 1 0 (q * 12 + j) (by omega)).2]; exact hq j q (by omega) hq')
    refine ⟨m', ?_, e2, (a3.wk (fun K i j k z => ⟨z.1, z.2.1⟩)).tr e3⟩
    have tw : jm_sem false (d + 3) jn_X8_teachWord [.inr (.inr (.inl (10, 1, 0))), .inl (nI n)] m = some (jm_j, m1) := by
      rw [e_X8_teachWord]; exact a1
    rw [← e1, l_X8_teachAllWords_2]
    simp (disch := omega) only [jg_lit, jg_litL, jg_m1, jg_m1L, nI_add, lN_add, pk_mul, jg_sub, jg_subM, jg_addM, jg_addM', jg_negM, jt_in, jt_ix, jt_bi, jt_bl, jt_bv, jt_lt, jg_dT, jg_dF, jt_c, jt_cd, ru_I, ru_L, jg_leI, jg_ltI, jg_eqI, jg_M1, jg_M2, jg_M3, jg_M4, jg_M5, jg_M6, jg_ltT, jg_ltF, jg_leT, jg_leF, jg_eqT, jg_eqF, cond_true, cond_false, ne_eq, not_true_eq_false, not_false_eq_true, decide_true, decide_false, if_true, if_false, and_true, true_and, and_false, false_and, or_true, true_or, or_false, false_or, Nat.reduceEqDiff, reduceIte, Nat.reduceMul, Nat.reduceAdd, Nat.reduceSub, Nat.add_zero, Nat.zero_add, Nat.mul_zero, eq_self_iff_true, jg_not_lt, jg_not_le, h4, tw]
def vOf (s : Pv) : Vl := ((pM s).length, (pP s).length, 0, wsOf s, fun _ w => wL (gw (wsOf s) w), sfO (pS s), [])
/-- behind the last TOKEN, or the first fault -/
def xRe (T : Tb) (r : Ft ⊕ Pv) (m : jm_M) : Prop := match r with
  | .inl f => xE f m
  | .inr s => (∃ b, xF T b m) ∧ okPv s ∧ xV (vOf s) 1 m
def reI (r : Ft ⊕ Pv) : Int32 := match r with
  | .inl _ => nI 0
  | .inr _ => nI 1
theorem sx_teach {s : Pv} (ho : okPv s) {m : jm_M} (h : xN s m) (d : Nat) : ∃ m', jm_sem false (d + 4) jn_X8_teachAllWords [.inr (.inr (.inl (10, 1, 0)))] m = some (jm_j, m') ∧ (∀ j q, j < (pW s).length → q < (pP s).length → m'.2 18 1 0 (q * 12 + j) = m'.2 12 1 j 0) ∧ fr (fun K i _ _ => K = 18 ∧ i = 1) m m' := by
  obtain ⟨m', e1, e2, e3⟩ := sx_teachAll ho.2.2.1 ho.2.1 d (pW s).length 0 m (by omega) h.2 h.1 (fun j q hj => by omega)
  refine ⟨m', ?_, e2, e3⟩
  rw [e_X8_teachAllWords]; exact e1
theorem sx_endOk {T : Tb} {s : Pv} {a : Nat} {m : jm_M} (h : xF T a m) (hp : xPv s m) (ho : okPv s) (d : Nat) : ∃ m', jm_bv (jm_sem false (d + 4) jn_X8_teachAllWords [.inr (.inr (.inl (10, 1, 0)))] m) (fun m59 => jm_bi (jm_sem false (d + 4) jn_X6_isFine [.inr (.inr (.inl (5, 0, 0)))] m59) (fun r66 m66 => cond (decide (r66 &&& 1 = r66)) (some (.inl r66, m66)) none)) = some (.inl (nI 1), m') ∧ xRe T (.inr s) m' ∧ fr PVt m m' := by
  obtain ⟨m', e1, e2, e3⟩ := sx_teach ho (m := m) ⟨hp.2.1, hp.2.2.1⟩ d
  have h' := xF_PV h e3 (fun K i j k z => by omega)
  have fi := sx_fineT h' (d + 3)
  refine ⟨m', ?_, ⟨⟨a, h'⟩, ho, ?_⟩, e3.wk (fun K i j k z => by unfold PVt; omega)⟩
  · rw [e1, jt_bv, fi, jt_bi, and1, cond_true]
  · have lw : (wsOf s).length = (pW s).length := by unfold wsOf; rw [List.length_map]
    obtain ⟨h1, h2, h3, h4, h5, h6, h7, h8, h9, h10⟩ := hp
    have k := fun K i j k (hK : K ≠ 18) => (e3 K i j k (by omega)).1
    have kL := fun K i j k (hK : K ≠ 18) => (e3 K i j k (by omega)).2
    have w7 : ∀ j, j < (pW s).length → xW (gw (wsOf s) j) 1 j m' := fun j hj => xW_k (h7 j hj) (fun q => k _ _ _ _ (by decide)) (fun q => kL _ _ _ _ (by decide))
    refine ⟨⟨by rw [k _ _ _ _ (by decide)]; exact h1, ?_, by rw [k _ _ _ _ (by decide)]; exact h3, by rw [k _ _ _ _ (by decide)]; exact h4, xL0 h5 (k _ _ _ _ (by decide)) (k _ _ _ _ (by decide)) (k _ _ _ _ (by decide)), fun c c1 c2 => by rw [k _ _ _ _ (by decide)]; exact h6 c c1 c2, fun q w hq hw => ?_⟩, fun j hj => ?_⟩
    · show _ = nI (wsOf s).length
      rw [lw, k _ _ _ _ (by decide)]; exact h2
    · have hw : w < (wsOf s).length := hw
      rw [lw] at hw
      rw [e2 w q hw hq]
      exact (w7 w hw).1
    · have hj : j < (wsOf s).length := hj
      exact w7 j (by omega)
theorem sx_endE {T : Tb} {s : Pv} {f : Ft} {m : jm_M} (h : xE f m) (hn : xN s m) (ho : okPv s) (d : Nat) : ∃ m', jm_bv (jm_sem false (d + 4) jn_X8_teachAllWords [.inr (.inr (.inl (10, 1, 0)))] m) (fun m59 => jm_bi (jm_sem false (d + 4) jn_X6_isFine [.inr (.inr (.inl (5, 0, 0)))] m59) (fun r66 m66 => cond (decide (r66 &&& 1 = r66)) (some (.inl r66, m66)) none)) = some (.inl (nI 0), m') ∧ xRe T (.inl f) m' ∧ fr PVt m m' := by
  obtain ⟨m', e1, e2, e3⟩ := sx_teach ho hn d
  have h' := xE_fr h e3 (fun k z => by omega)
  have fi := sx_fineF h' (d + 3)
  refine ⟨m', ?_, h', e3.wk (fun K i j k z => by unfold PVt; omega)⟩
  rw [e1, jt_bv, fi, jt_bi, and0, cond_true]
theorem sx_all {T : Tb} (d : Nat) : ∀ (r p a : Nat) (s : Pv) (m : jm_M), T.1 < a + r → p ≤ a → xF T a m → xPv s m → okPv s → ∃ m', jm_ev false (d + 11) 8 2 jc_X9_readAll 11 [.inr (.inr (.inl (6, 0, 0))), .inr (.inr (.inl (10, 1, 0))), .inl (nI p)] [] m = some (.inl (reI (vAll T r s a)), m') ∧ xRe T (vAll T r s a) m' ∧ fr PVt m m'
  | 0, p, a, s, m, hr, hpa, h, hp, ho => by
    have := h.1
    omega
  | r + 1, p, a, s, m, hr, hpa, h, hp, ho => by
    have ha := h.1
    have h9 := h.2.1.1.1
    have h3 := h.2.2.1.2.1
    have kl := tkK_le T a
    have fi := sx_fineT h (d + 10)
    have st := l_X9_readAll_11 (d + 11) 1 (nI p) m
    unfold vAll
    by_cases c0 : tkK T a = 0
    · rw [if_pos c0]
      obtain ⟨m', e1, e2, e3⟩ := sx_endOk h hp ho (d + 7)
      refine ⟨m', ?_, e2, e3⟩
      rw [st]
      by_cases c9 : 900 ≤ p
      · rw [jt_dt (show (900 : Int32) ≤ nI p from nI_le (a := 900) c9 (by omega)), cond_true]
        exact e1
      · rw [jt_df (show ¬ (900 : Int32) ≤ nI p from nI_ge (b := 900) (by omega) (by omega)), cond_false, fi, jt_bi, show decide (nI 1 = 0) = false by decide, cond_false, h3, c0, show decide (nI 0 = 0) = true by decide, cond_true]
        exact e1
    · rw [if_neg c0]
      have alt := tk_lt1 c0
      obtain ⟨m1, a1, a2, a3⟩ := sx_readPart h hp ho d
      rw [jt_df (show ¬ (900 : Int32) ≤ nI p from nI_ge (b := 900) (by omega) (by omega)), cond_false, fi, jt_bi, show decide (nI 1 = 0) = false by decide, cond_false, h3, show decide (nI (tkK T a) = 0) = false from dec_ne (b := 0) (by omega) (by decide) c0, cond_false, a1, jt_bv] at st
      cases hv : vPart T s a with
      | inl f =>
        rw [hv] at a2
        obtain ⟨a2, a4⟩ := a2
        have ps := sx_passSignE a2 59 (d + 8)
        rw [ps, jt_bv] at st
        obtain ⟨m', e1, e2, e3⟩ := sx_endE (T := T) a2 a4 ho (d + 7)
        have ve : vEnd T (.inl f) = .inl f := rfl
        rw [ve]
        refine ⟨m', ?_, e2, a3.tr e3⟩
        rw [st, l_X9_readAll_11]
        have fe := sx_fineF a2 (d + 10)
        cases jm_dec ((900 : Int32) ≤ nI p + 1) with
        | true => rw [cond_true]; exact e1
        | false =>
          rw [cond_false, fe, jt_bi, show decide (nI 0 = 0) = true by decide, cond_true]
          exact e1
      | inr q =>
        rw [hv] at a2
        obtain ⟨a2, a4⟩ := a2
        obtain ⟨o1, o2, o3⟩ := vPart_ok alt ho hv
        obtain ⟨m2, b1, b2, b3⟩ := sx_passSign a2 (c := 59) (by decide) (d + 2)
        have b1 : jm_sem false (d + 11) jn_X6_passSign [.inr (.inr (.inl (5, 0, 0))), .inl 59] m1 = some (jm_j, m2) := b1
        rw [b1, jt_bv] at st
        have p2 := xPv_5 a4 b3
        have f2 : fr PVt m m2 := a3.tr (P5x_t b3)
        cases hs : isSgn T 59 q.2 with
        | true =>
          rw [hs, if_pos rfl] at b2
          have b2 : xF T (tkX T q.2) m2 := b2
          have ve : vEnd T (.inr q) = .inr (q.1, tkX T q.2) := by
            show (if isSgn T 59 q.2 = true then _ else _) = _
            rw [if_pos hs]
          rw [ve]
          have k3 := (of_decide_eq_true hs).1
          have lt := tkX_gt (tk_lt1 (by omega : tkK T q.2 ≠ 0))
          obtain ⟨m', e1, e2, e3⟩ := sx_all d r (p + 1) (tkX T q.2) q.1 m2 (by omega) (by omega) b2 p2 o1
          refine ⟨m', ?_, e2, f2.tr e3⟩
          rw [st, nI_1]
          exact e1
        | false =>
          rw [hs, if_neg (by decide)] at b2
          have b2 : xE (flt T q.2) m2 := b2
          have ve : vEnd T (.inr q) = .inl (flt T q.2) := by
            show (if isSgn T 59 q.2 = true then _ else _) = _
            rw [if_neg (by rw [hs]; decide)]
          rw [ve]
          obtain ⟨m', e1, e2, e3⟩ := sx_endE (T := T) b2 (⟨p2.2.1, p2.2.2.1⟩ : xN q.1 m2) o1 (d + 7)
          refine ⟨m', ?_, e2, f2.tr e3⟩
          rw [st, l_X9_readAll_11]
          have fe := sx_fineF b2 (d + 10)
          cases jm_dec ((900 : Int32) ≤ nI p + 1) with
          | true => rw [cond_true]; exact e1
          | false =>
            rw [cond_false, fe, jt_bi, show decide (nI 0 = 0) = true by decide, cond_true]
            exact e1
theorem sx_readAll {T : Tb} {m : jm_M} {a : Nat} (h : xF T a m) (d : Nat) : ∃ m', jm_sem false (d + 12) jn_X9_readAll [.inr (.inr (.inl (6, 0, 0))), .inr (.inr (.inl (10, 1, 0)))] m = some (.inl (reI (vAll T (T.1 + 1) pv0 a)), m') ∧ xRe T (vAll T (T.1 + 1) pv0 a) m' ∧ fr PVt m m' := by
  obtain ⟨m1, a1, a2, a3⟩ := sx_clear0 (d + 9) m
  have h1 : xF T a (jm_sI m1 6 0 0 3 0) := xF_fr h a3 (fun k z => by unfold PVc at z; omega) (fun k z => by unfold PVc at z; omega)
  obtain ⟨m', e1, e2, e3⟩ := sx_all d (T.1 + 1) 0 a pv0 (jm_sI m1 6 0 0 3 0) (by omega) (Nat.zero_le _) h1 a2 okPv0
  refine ⟨m', ?_, e2, (a3.wk (fun K i j k z => by unfold PVc at z; unfold PVt; omega)).tr e3⟩
  rw [e_X9_readAll, a1, jt_bv]
  exact e1
