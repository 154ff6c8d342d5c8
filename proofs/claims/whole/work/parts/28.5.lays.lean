/-! ===== copies of a VILLAGE ===== -/
/-- 490 cells of the long row -/
def PLy (t K _i _j k : Nat) : Prop := K = 41 ∧ t ≤ k ∧ k < t + 490
theorem sm_lays_loop {a b : Nat} (ha : a + 490 ≤ 8600) (hb : b + 490 ≤ 8600) (hab : a + 490 ≤ b ∨ b + 490 ≤ a) (d : Nat) : ∀ (r k : Nat) (m : jm_M), k + r = 490 → ∃ m', jm_ev false d 11 0 jc_X12_lays 2 [vM, .inl (nI a), .inl (nI b), .inl (nI k)] [] m = some (jm_j, m') ∧ (∀ q, k ≤ q → q < 490 → m'.1 41 0 0 (b + q) = m.1 41 0 0 (a + q)) ∧ fr (PA (b + k) (490 - k)) m m'
  | 0, k, m, hk => by
    refine ⟨m, ?_, fun q h1 h2 => by omega, .rf⟩
    rw [l_X12_lays_2]
    simp (disch := omega) only [jg_lit, jg_litL, jg_m1, jg_m1L, nI_add, lN_add, pk_mul, jg_sub, jg_subM, jg_addM, jg_addM', jg_negM, jt_in, jt_ix, jt_bi, jt_bl, jt_bv, jt_lt, jg_dT, jg_dF, jt_c, jt_cd, ru_I, ru_L, jg_leI, jg_ltI, jg_eqI, jg_M1, jg_M2, jg_M3, jg_M4, jg_M5, jg_M6, jg_ltT, jg_ltF, jg_leT, jg_leF, jg_eqT, jg_eqF, cond_true, cond_false, ne_eq, not_true_eq_false, not_false_eq_true, decide_true, decide_false, if_true, if_false, and_true, true_and, and_false, false_and, or_true, true_or, or_false, false_or, Nat.reduceEqDiff, reduceIte, Nat.reduceMul, Nat.reduceAdd, Nat.reduceSub, Nat.add_zero, Nat.zero_add, Nat.mul_zero, eq_self_iff_true, jg_not_lt, jg_not_le]
  | r + 1, k, m, hk => by
    obtain ⟨m', e1, e2, e3⟩ := sm_lays_loop ha hb hab d r (k + 1) (jm_sI m 41 0 0 (b + k) (m.1 41 0 0 (a + k))) (by omega)
    refine ⟨m', ?_, fun q h1 h2 => ?_, (fr_I (by unfold PA; omega)).tr (e3.wk (fun K i j q z => by unfold PA at z ⊢; omega))⟩
    · rw [l_X12_lays_2]
      simp (disch := omega) only [jg_lit, jg_litL, jg_m1, jg_m1L, nI_add, lN_add, pk_mul, jg_sub, jg_subM, jg_addM, jg_addM', jg_negM, jt_in, jt_ix, jt_bi, jt_bl, jt_bv, jt_lt, jg_dT, jg_dF, jt_c, jt_cd, ru_I, ru_L, jg_leI, jg_ltI, jg_eqI, jg_M1, jg_M2, jg_M3, jg_M4, jg_M5, jg_M6, jg_ltT, jg_ltF, jg_leT, jg_leF, jg_eqT, jg_eqF, cond_true, cond_false, ne_eq, not_true_eq_false, not_false_eq_true, decide_true, decide_false, if_true, if_false, and_true, true_and, and_false, false_and, or_true, true_or, or_false, false_or, Nat.reduceEqDiff, reduceIte, Nat.reduceMul, Nat.reduceAdd, Nat.reduceSub, Nat.add_zero, Nat.zero_add, Nat.mul_zero, eq_self_iff_true, jg_not_lt, jg_not_le]
      exact e1
    · by_cases e : q = k
      · subst e
        rw [(e3 41 0 0 (b + q) (fun z => by unfold PA at z; omega)).1]
        simp (disch := omega) only [jg_lit, jg_litL, jg_m1, jg_m1L, nI_add, lN_add, pk_mul, jg_sub, jg_subM, jg_addM, jg_addM', jg_negM, jt_in, jt_ix, jt_bi, jt_bl, jt_bv, jt_lt, jg_dT, jg_dF, jt_c, jt_cd, ru_I, ru_L, jg_leI, jg_ltI, jg_eqI, jg_M1, jg_M2, jg_M3, jg_M4, jg_M5, jg_M6, jg_ltT, jg_ltF, jg_leT, jg_leF, jg_eqT, jg_eqF, cond_true, cond_false, ne_eq, not_true_eq_false, not_false_eq_true, decide_true, decide_false, if_true, if_false, and_true, true_and, and_false, false_and, or_true, true_or, or_false, false_or, Nat.reduceEqDiff, reduceIte, Nat.reduceMul, Nat.reduceAdd, Nat.reduceSub, Nat.add_zero, Nat.zero_add, Nat.mul_zero, eq_self_iff_true, jg_not_lt, jg_not_le]
      · rw [e2 q (by omega) h2]
        simp (disch := omega) only [jg_lit, jg_litL, jg_m1, jg_m1L, nI_add, lN_add, pk_mul, jg_sub, jg_subM, jg_addM, jg_addM', jg_negM, jt_in, jt_ix, jt_bi, jt_bl, jt_bv, jt_lt, jg_dT, jg_dF, jt_c, jt_cd, ru_I, ru_L, jg_leI, jg_ltI, jg_eqI, jg_M1, jg_M2, jg_M3, jg_M4, jg_M5, jg_M6, jg_ltT, jg_ltF, jg_leT, jg_leF, jg_eqT, jg_eqF, cond_true, cond_false, ne_eq, not_true_eq_false, not_false_eq_true, decide_true, decide_false, if_true, if_false, and_true, true_and, and_false, false_and, or_true, true_or, or_false, false_or, Nat.reduceEqDiff, reduceIte, Nat.reduceMul, Nat.reduceAdd, Nat.reduceSub, Nat.add_zero, Nat.zero_add, Nat.mul_zero, eq_self_iff_true, jg_not_lt, jg_not_le]
theorem sm_lays {a b : Nat} (ha : a + 490 ≤ 8600) (hb : b + 490 ≤ 8600) (hab : a + 490 ≤ b ∨ b + 490 ≤ a) (d : Nat) (m : jm_M) : ∃ m', jm_sem false (d + 1) jn_X12_lays [vM, .inl (nI a), .inl (nI b)] m = some (jm_j, m') ∧ (∀ q, q < 490 → m'.1 41 0 0 (b + q) = m.1 41 0 0 (a + q)) ∧ fr (PA b 490) m m' := by
  obtain ⟨m', e1, e2, e3⟩ := sm_lays_loop ha hb hab d 490 0 m (by omega)
  refine ⟨m', ?_, fun q hq => e2 q (by omega) hq, e3⟩
  rw [e_X12_lays]
  exact e1
theorem sm_laysV {V : Vl} {a b : Nat} {m : jm_M} (h : mV V a m) (ho : okWs (vlW V)) (ha : a + 490 ≤ 8600) (hb : b + 490 ≤ 8600) (hab : a + 490 ≤ b ∨ b + 490 ≤ a) (d : Nat) : ∃ m', jm_sem false (d + 1) jn_X12_lays [vM, .inl (nI a), .inl (nI b)] m = some (jm_j, m') ∧ mV V b m' ∧ m'.1 41 0 0 (b + 3) = m.1 41 0 0 (a + 3) ∧ fr (PA b 490) m m' := by
  obtain ⟨m', e1, e2, e3⟩ := sm_lays ha hb hab d m
  exact ⟨m', e1, mV_cp h ho e2, e2 3 (by omega), e3⟩
/-! ===== the class: one VILLAGE from another one ===== -/
theorem rc_I (f : jm_MI) (K i j K1 i1 j1 sp dp n K' i' j' k' : Nat) : jm_cI f (K1, i1, j1) (K, i, j) sp dp n K' i' j' k' = if K' = K ∧ i' = i ∧ j' = j ∧ dp ≤ k' ∧ k' < dp + n then f K1 i1 j1 (sp + (k' - dp)) else f K' i' j' k' := by
  unfold jm_cI va_cpy
  by_cases h : K' = K
  · subst h
    rw [if_pos rfl]
    by_cases h2 : i' = i ∧ j' = j
    · obtain ⟨rfl, rfl⟩ := h2
      dsimp only
      rw [if_pos ⟨rfl, rfl⟩]
      by_cases h3 : dp ≤ k' ∧ k' < dp + n
      · rw [if_pos h3, if_pos ⟨rfl, rfl, rfl, h3⟩]
      · rw [if_neg h3, if_neg (fun z => h3 z.2.2.2)]
    · dsimp only
      rw [if_neg h2, if_neg (fun z => h2 ⟨z.2.1, z.2.2.1⟩)]
  · rw [if_neg h, if_neg (fun z => h z.1)]
theorem rc_L (f : jm_ML) (K i j K1 i1 j1 sp dp n K' i' j' k' : Nat) : jm_cL f (K1, i1, j1) (K, i, j) sp dp n K' i' j' k' = if K' = K ∧ i' = i ∧ j' = j ∧ dp ≤ k' ∧ k' < dp + n then f K1 i1 j1 (sp + (k' - dp)) else f K' i' j' k' := by
  unfold jm_cL va_cpy
  by_cases h : K' = K
  · subst h
    rw [if_pos rfl]
    by_cases h2 : i' = i ∧ j' = j
    · obtain ⟨rfl, rfl⟩ := h2
      dsimp only
      rw [if_pos ⟨rfl, rfl⟩]
      by_cases h3 : dp ≤ k' ∧ k' < dp + n
      · rw [if_pos h3, if_pos ⟨rfl, rfl, rfl, h3⟩]
      · rw [if_neg h3, if_neg (fun z => h3 z.2.2.2)]
    · dsimp only
      rw [if_neg h2, if_neg (fun z => h2 ⟨z.2.1, z.2.2.1⟩)]
  · rw [if_neg h, if_neg (fun z => h z.1)]
theorem jt_ac {a b n N M : Nat} (h1 : a + n ≤ N) (h2 : b + n ≤ M) (hN : N < 2 ^ 31) (hM : M < 2 ^ 31) : jm_dec (0 ≤ nI a ∧ 0 ≤ nI b ∧ 0 ≤ nI n ∧ jm_ix (nI a) + jm_ix (nI n) ≤ N ∧ jm_ix (nI b) + jm_ix (nI n) ≤ M) = true := by
  refine jt_dt ⟨?_, ?_, ?_, ?_, ?_⟩
  · exact nI_le (a := 0) (by omega) (by omega)
  · exact nI_le (a := 0) (by omega) (by omega)
  · exact nI_le (a := 0) (by omega) (by omega)
  · rw [jt_ix (by omega), jt_ix (by omega)]; exact h1
  · rw [jt_ix (by omega), jt_ix (by omega)]; exact h2
theorem jt_ac0 {n N : Nat} (h1 : n ≤ N) (hN : N < 2 ^ 31) : jm_dec (0 ≤ (0 : Int32) ∧ 0 ≤ (0 : Int32) ∧ 0 ≤ nI n ∧ jm_ix 0 + jm_ix (nI n) ≤ N ∧ jm_ix 0 + jm_ix (nI n) ≤ N) = true := jt_ac (a := 0) (b := 0) (by omega) (by omega) hN hN
theorem jt_ac1 {n N : Nat} (h1 : n ≤ N) (hN : N < 2 ^ 31) : jm_dec (0 ≤ (0 : Int32) ∧ 0 ≤ (0 : Int32) ∧ 0 ≤ nI n ∧ n ≤ N ∧ n ≤ N) = true := jt_dt ⟨by decide, by decide, nI_le (a := 0) (by omega) (by omega), h1, h1⟩
theorem ix0 : jm_ix 0 = 0 := by decide
/-- cells of a village's law -/
def PLw (i K i' _j _k : Nat) : Prop := i' = i ∧ 13 ≤ K ∧ K ≤ 17
theorem fr_cI' {P : Nat → Nat → Nat → Nat → Prop} {μ : jm_M} {f : jm_MI} {l : jm_ML} {K i j : Nat} {a : jm_Rf} {sp dp n : Nat} (h0 : fr P μ (f, l)) (h : ∀ k, P K i j k) : fr P μ (jm_cI f a (K, i, j) sp dp n, l) := fun K' i' j' k' hn => by
  refine ⟨?_, (h0 K' i' j' k' hn).2⟩
  show jm_cI f (a.1, a.2.1, a.2.2) (K, i, j) sp dp n K' i' j' k' = _
  rw [rc_I, if_neg]
  · exact (h0 K' i' j' k' hn).1
  · rintro ⟨rfl, rfl, rfl, -, -⟩
    exact hn (h k')
theorem fr_cL' {P : Nat → Nat → Nat → Nat → Prop} {μ : jm_M} {f : jm_MI} {l : jm_ML} {K i j : Nat} {a : jm_Rf} {sp dp n : Nat} (h0 : fr P μ (f, l)) (h : ∀ k, P K i j k) : fr P μ (f, jm_cL l a (K, i, j) sp dp n) := fun K' i' j' k' hn => by
  refine ⟨(h0 K' i' j' k' hn).1, ?_⟩
  show jm_cL l (a.1, a.2.1, a.2.2) (K, i, j) sp dp n K' i' j' k' = _
  rw [rc_L, if_neg]
  · exact (h0 K' i' j' k' hn).2
  · rintro ⟨rfl, rfl, rfl, -, -⟩
    exact hn (h k')
theorem sx_lawCopy {R : List Rl} {i i1 : Nat} {m : jm_M} (h : xL R i1 m) (hR : okR R) (hi : i1 ≠ i) (d : Nat) : ∃ m', jm_sem false (d + 1) jn_X2_copyFrom [.inr (.inr (.inl (13, i, 0))), .inr (.inr (.inl (13, i1, 0)))] m = some (jm_j, m') ∧ xL R i m' ∧ fr (PLw i) m m' := by
  obtain ⟨h4, h5, h6, hC, hE⟩ := h
  have h12 := hR.1
  have h150 := hR.2.1
  have e := e_X2_copyFrom d i i1 m
  have hj1 : jb (R.any (fun r => r.2 == 6)) &&& 1 = jb (R.any (fun r => r.2 == 6)) := jb_1 _
  simp (disch := omega) only [jt_lt, rc_I, rc_L, ru_I, ru_L, h4, h5, h6, hj1, ix0, jt_ix, jt_ac1, cond_true, Nat.reduceEqDiff, jg_eqF, false_and, and_false, if_false, reduceIte, Nat.zero_add, Nat.sub_zero, decide_true, true_and, ite_self] at e
  refine ⟨_, e, ⟨?_, ?_, ?_, fun k hk => ⟨?_, ?_⟩, fun r hr => ⟨?_, ?_⟩⟩, ?_⟩
  · simp (disch := omega) only [jg_lit, jg_litL, jg_m1, jg_m1L, nI_add, lN_add, pk_mul, jg_sub, jg_subM, jg_addM, jg_addM', jg_negM, jt_in, jt_ix, jt_bi, jt_bl, jt_bv, jt_lt, jg_dT, jg_dF, jt_c, jt_cd, ru_I, ru_L, jg_leI, jg_ltI, jg_eqI, jg_M1, jg_M2, jg_M3, jg_M4, jg_M5, jg_M6, jg_ltT, jg_ltF, jg_leT, jg_leF, jg_eqT, jg_eqF, cond_true, cond_false, ne_eq, not_true_eq_false, not_false_eq_true, decide_true, decide_false, if_true, if_false, and_true, true_and, and_false, false_and, or_true, true_or, or_false, false_or, Nat.reduceEqDiff, reduceIte, Nat.reduceMul, Nat.reduceAdd, Nat.reduceSub, Nat.add_zero, Nat.zero_add, Nat.mul_zero, eq_self_iff_true, jg_not_lt, jg_not_le, rc_I]
  · simp (disch := omega) only [jg_lit, jg_litL, jg_m1, jg_m1L, nI_add, lN_add, pk_mul, jg_sub, jg_subM, jg_addM, jg_addM', jg_negM, jt_in, jt_ix, jt_bi, jt_bl, jt_bv, jt_lt, jg_dT, jg_dF, jt_c, jt_cd, ru_I, ru_L, jg_leI, jg_ltI, jg_eqI, jg_M1, jg_M2, jg_M3, jg_M4, jg_M5, jg_M6, jg_ltT, jg_ltF, jg_leT, jg_leF, jg_eqT, jg_eqF, cond_true, cond_false, ne_eq, not_true_eq_false, not_false_eq_true, decide_true, decide_false, if_true, if_false, and_true, true_and, and_false, false_and, or_true, true_or, or_false, false_or, Nat.reduceEqDiff, reduceIte, Nat.reduceMul, Nat.reduceAdd, Nat.reduceSub, Nat.add_zero, Nat.zero_add, Nat.mul_zero, eq_self_iff_true, jg_not_lt, jg_not_le, rc_I]
  · simp (disch := omega) only [jg_lit, jg_litL, jg_m1, jg_m1L, nI_add, lN_add, pk_mul, jg_sub, jg_subM, jg_addM, jg_addM', jg_negM, jt_in, jt_ix, jt_bi, jt_bl, jt_bv, jt_lt, jg_dT, jg_dF, jt_c, jt_cd, ru_I, ru_L, jg_leI, jg_ltI, jg_eqI, jg_M1, jg_M2, jg_M3, jg_M4, jg_M5, jg_M6, jg_ltT, jg_ltF, jg_leT, jg_leF, jg_eqT, jg_eqF, cond_true, cond_false, ne_eq, not_true_eq_false, not_false_eq_true, decide_true, decide_false, if_true, if_false, and_true, true_and, and_false, false_and, or_true, true_or, or_false, false_or, Nat.reduceEqDiff, reduceIte, Nat.reduceMul, Nat.reduceAdd, Nat.reduceSub, Nat.add_zero, Nat.zero_add, Nat.mul_zero, eq_self_iff_true, jg_not_lt, jg_not_le, rc_I]
  · simp (disch := omega) only [jg_lit, jg_litL, jg_m1, jg_m1L, nI_add, lN_add, pk_mul, jg_sub, jg_subM, jg_addM, jg_addM', jg_negM, jt_in, jt_ix, jt_bi, jt_bl, jt_bv, jt_lt, jg_dT, jg_dF, jt_c, jt_cd, ru_I, ru_L, jg_leI, jg_ltI, jg_eqI, jg_M1, jg_M2, jg_M3, jg_M4, jg_M5, jg_M6, jg_ltT, jg_ltF, jg_leT, jg_leF, jg_eqT, jg_eqF, cond_true, cond_false, ne_eq, not_true_eq_false, not_false_eq_true, decide_true, decide_false, if_true, if_false, and_true, true_and, and_false, false_and, or_true, true_or, or_false, false_or, Nat.reduceEqDiff, reduceIte, Nat.reduceMul, Nat.reduceAdd, Nat.reduceSub, Nat.add_zero, Nat.zero_add, Nat.mul_zero, eq_self_iff_true, jg_not_lt, jg_not_le, rc_I, Nat.sub_zero]; exact (hC k hk).1
  · simp (disch := omega) only [jg_lit, jg_litL, jg_m1, jg_m1L, nI_add, lN_add, pk_mul, jg_sub, jg_subM, jg_addM, jg_addM', jg_negM, jt_in, jt_ix, jt_bi, jt_bl, jt_bv, jt_lt, jg_dT, jg_dF, jt_c, jt_cd, ru_I, ru_L, jg_leI, jg_ltI, jg_eqI, jg_M1, jg_M2, jg_M3, jg_M4, jg_M5, jg_M6, jg_ltT, jg_ltF, jg_leT, jg_leF, jg_eqT, jg_eqF, cond_true, cond_false, ne_eq, not_true_eq_false, not_false_eq_true, decide_true, decide_false, if_true, if_false, and_true, true_and, and_false, false_and, or_true, true_or, or_false, false_or, Nat.reduceEqDiff, reduceIte, Nat.reduceMul, Nat.reduceAdd, Nat.reduceSub, Nat.add_zero, Nat.zero_add, Nat.mul_zero, eq_self_iff_true, jg_not_lt, jg_not_le, rc_I, Nat.sub_zero]; exact (hC k hk).2
  · simp (disch := omega) only [jg_lit, jg_litL, jg_m1, jg_m1L, nI_add, lN_add, pk_mul, jg_sub, jg_subM, jg_addM, jg_addM', jg_negM, jt_in, jt_ix, jt_bi, jt_bl, jt_bv, jt_lt, jg_dT, jg_dF, jt_c, jt_cd, ru_I, ru_L, jg_leI, jg_ltI, jg_eqI, jg_M1, jg_M2, jg_M3, jg_M4, jg_M5, jg_M6, jg_ltT, jg_ltF, jg_leT, jg_leF, jg_eqT, jg_eqF, cond_true, cond_false, ne_eq, not_true_eq_false, not_false_eq_true, decide_true, decide_false, if_true, if_false, and_true, true_and, and_false, false_and, or_true, true_or, or_false, false_or, Nat.reduceEqDiff, reduceIte, Nat.reduceMul, Nat.reduceAdd, Nat.reduceSub, Nat.add_zero, Nat.zero_add, Nat.mul_zero, eq_self_iff_true, jg_not_lt, jg_not_le, rc_I, Nat.sub_zero]; exact (hE r hr).1
  · simp (disch := omega) only [jg_lit, jg_litL, jg_m1, jg_m1L, nI_add, lN_add, pk_mul, jg_sub, jg_subM, jg_addM, jg_addM', jg_negM, jt_in, jt_ix, jt_bi, jt_bl, jt_bv, jt_lt, jg_dT, jg_dF, jt_c, jt_cd, ru_I, ru_L, jg_leI, jg_ltI, jg_eqI, jg_M1, jg_M2, jg_M3, jg_M4, jg_M5, jg_M6, jg_ltT, jg_ltF, jg_leT, jg_leF, jg_eqT, jg_eqF, cond_true, cond_false, ne_eq, not_true_eq_false, not_false_eq_true, decide_true, decide_false, if_true, if_false, and_true, true_and, and_false, false_and, or_true, true_or, or_false, false_or, Nat.reduceEqDiff, reduceIte, Nat.reduceMul, Nat.reduceAdd, Nat.reduceSub, Nat.add_zero, Nat.zero_add, Nat.mul_zero, eq_self_iff_true, jg_not_lt, jg_not_le, rc_I, Nat.sub_zero]; exact (hE r hr).2
  · refine fr_sI (fr_sI (fr_sI (fr_cI' (fr_cI' (fr_cI' (fr_cI' .rf (fun k => ?_)) (fun k => ?_)) (fun k => ?_)) (fun k => ?_)) ?_) ?_) ?_ <;> exact ⟨rfl, by decide, by decide⟩
/-- all cells of a village -/
def PV (i K i' _j _k : Nat) : Prop := i' = i ∧ (K = 10 ∨ (12 ≤ K ∧ K ≤ 19))
theorem xV_fr {V : Vl} {i : Nat} {P : Nat → Nat → Nat → Nat → Prop} {μ μ' : jm_M} (h : xV V i μ) (hl : (vlW V).length ≤ 12) (hf : fr P μ μ') (hp : ∀ K j k, (K = 10 ∨ (12 ≤ K ∧ K ≤ 19)) → j < 12 → ¬ P K i j k) : xV V i μ' := ⟨xH_fr h.1 hf (fun K k hK => hp K 0 k (by omega) (by omega)), fun j hj => xW_fr (h.2 j hj) hf (fun k => hp 12 j k (by omega) (by omega))⟩
theorem sx_copy_loop {V : Vl} {i i1 : Nat} (hi : i1 ≠ i) (ho : okWs (vlW V)) (d : Nat) : ∀ (r k : Nat) (m : jm_M), k + r = (vlW V).length → xV V i1 m → (∀ j, j < k → xW (gw (vlW V) j) i j m) → ∃ m', jm_ev false (d + 1) 7 0 jc_X8_copyFrom 2 [.inr (.inr (.inl (10, i, 0))), .inr (.inr (.inl (10, i1, 0))), .inl (nI k)] [] m = jm_ev false (d + 1) 7 0 jc_X8_copyFrom 37 [.inr (.inr (.inl (10, i, 0))), .inr (.inr (.inl (10, i1, 0))), .inl (nI (vlW V).length)] [] m' ∧ xV V i1 m' ∧ (∀ j, j < (vlW V).length → xW (gw (vlW V) j) i j m') ∧ fr (PW i) m m'
  | 0, k, m, hk, h, hj => by
    have h12 := ho.1
    have h4 := h.1.2.1
    have : k = (vlW V).length := by omega
    subst this
    refine ⟨m, ?_, h, hj, .rf⟩
    rw [l_X8_copyFrom_2]
    simp (disch := omega) only [jg_lit, jg_litL, jg_m1, jg_m1L, nI_add, lN_add, pk_mul, jg_sub, jg_subM, jg_addM, jg_addM', jg_negM, jt_in, jt_ix, jt_bi, jt_bl, jt_bv, jt_lt, jg_dT, jg_dF, jt_c, jt_cd, ru_I, ru_L, jg_leI, jg_ltI, jg_eqI, jg_M1, jg_M2, jg_M3, jg_M4, jg_M5, jg_M6, jg_ltT, jg_ltF, jg_leT, jg_leF, jg_eqT, jg_eqF, cond_true, cond_false, ne_eq, not_true_eq_false, not_false_eq_true, decide_true, decide_false, if_true, if_false, and_true, true_and, and_false, false_and, or_true, true_or, or_false, false_or, Nat.reduceEqDiff, reduceIte, Nat.reduceMul, Nat.reduceAdd, Nat.reduceSub, Nat.add_zero, Nat.zero_add, Nat.mul_zero, eq_self_iff_true, jg_not_lt, jg_not_le, h4]
  | r + 1, k, m, hk, h, hj => by
    have h12 := ho.1
    have h4 := h.1.2.1
    have hkl : k < (vlW V).length := by omega
    obtain ⟨m1, c1, c2, c3⟩ := sx_copyW (i := i) (j := k) (h.2 k hkl) d
    have f1 := fr_jcW (show k < 12 by omega) c3
    obtain ⟨m', e1, e2, e3, e4⟩ := sx_copy_loop hi ho d r (k + 1) m1 (by omega) (xV_fr h h12 f1 (fun K j q _ _ z => hi z.2.1)) (fun j hj' => by
      by_cases e : j = k
      · rw [e]; exact c2
      · exact xW_jc (hj j (by omega)) c3 (Or.inr e))
    refine ⟨m', ?_, e2, e3, f1.tr e4⟩
    rw [l_X8_copyFrom_2]
    simp (disch := omega) only [jg_lit, jg_litL, jg_m1, jg_m1L, nI_add, lN_add, pk_mul, jg_sub, jg_subM, jg_addM, jg_addM', jg_negM, jt_in, jt_ix, jt_bi, jt_bl, jt_bv, jt_lt, jg_dT, jg_dF, jt_c, jt_cd, ru_I, ru_L, jg_leI, jg_ltI, jg_eqI, jg_M1, jg_M2, jg_M3, jg_M4, jg_M5, jg_M6, jg_ltT, jg_ltF, jg_leT, jg_leF, jg_eqT, jg_eqF, cond_true, cond_false, ne_eq, not_true_eq_false, not_false_eq_true, decide_true, decide_false, if_true, if_false, and_true, true_and, and_false, false_and, or_true, true_or, or_false, false_or, Nat.reduceEqDiff, reduceIte, Nat.reduceMul, Nat.reduceAdd, Nat.reduceSub, Nat.add_zero, Nat.zero_add, Nat.mul_zero, eq_self_iff_true, jg_not_lt, jg_not_le, h4, Bool.and_true, c1]
    exact e1
theorem sx_copyV {V : Vl} {i i1 : Nat} {m : jm_M} (h : xV V i1 m) (ho : okV V) (hi : i1 ≠ i) (d : Nat) : ∃ m', jm_sem false (d + 2) jn_X8_copyFrom [.inr (.inr (.inl (10, i, 0))), .inr (.inr (.inl (10, i1, 0)))] m = some (jm_j, m') ∧ xV V i m' ∧ fr (PV i) m m' := by
  have h12 := ho.2.2.2.1.1
  have hp4 := ho.2.1
  obtain ⟨m1, e1, v1, w1, f1⟩ := sx_copy_loop hi ho.2.2.2.1 d (vlW V).length 0 m (by omega) h (fun j hj => absurd hj (Nat.not_lt_zero j))
  obtain ⟨m2, l1, l2, l3⟩ := sx_lawCopy (i := i) v1.1.2.2.2.2.1 ho.2.2.2.2.2.2 hi d
  have v2 : xV V i1 m2 := xV_fr v1 h12 l3 (fun K j k _ _ z => hi z.1)
  have w2 : ∀ j, j < (vlW V).length → xW (gw (vlW V) j) i j m2 := fun j hj => xW_fr (w1 j hj) l3 (fun k z => by have := z.2.1; omega)
  obtain ⟨⟨q3, q4, q5, q6, qL, qS, qK⟩, -⟩ := v2
  have e := l_X8_copyFrom_37 (d + 1) i i1 (.inl (nI (vlW V).length)) m2
  have e2 := l_X8_copyFrom_37 (d + 1) i i1 (.inl (nI (vlW V).length)) m1
  rw [l1, jt_bv, show (48 : Int32) = nI 48 from rfl, show (32 : Int32) = nI 32 from rfl] at e2
  simp (disch := omega) only [jt_lt, rc_I, rc_L, ru_I, ru_L, q3, q4, q5, q6, ix0, jt_ix, jt_ac1, cond_true, Nat.reduceEqDiff, jg_eqF, false_and, and_false, if_false, reduceIte, Nat.zero_add, Nat.sub_zero, true_and, ite_self] at e2
  rw [e2] at e1
  have hfr : fr (PV i) m2 _ := fr_cI' (i := i) (j := 0) (K := 19) (a := (19, i1, 0)) (sp := 0) (dp := 0) (n := 32) (fr_cL' (i := i) (j := 0) (K := 18) (a := (18, i1, 0)) (sp := 0) (dp := 0) (n := 48) (fr_sI (fr_sI (fr_sI (fr_sI .rf (i := i) (K := 10) (j := 0) (k := 3) (x := nI (vlM V)) ⟨rfl, Or.inl rfl⟩) (i := i) (K := 10) (j := 0) (k := 4) (x := nI (vlW V).length) ⟨rfl, Or.inl rfl⟩) (i := i) (K := 10) (j := 0) (k := 5) (x := nI (vlP V)) ⟨rfl, Or.inl rfl⟩) (i := i) (K := 10) (j := 0) (k := 6) (x := nI (vlD V)) ⟨rfl, Or.inl rfl⟩) (fun k => ⟨rfl, Or.inr ⟨by decide, by decide⟩⟩)) (fun k => ⟨rfl, Or.inr ⟨by decide, by decide⟩⟩)
  refine ⟨_, by rw [e_X8_copyFrom]; exact e1, ⟨⟨?_, ?_, ?_, ?_, ?_, fun c h1 h2 => ?_, fun s w hs hw => ?_⟩, fun j hj => ?_⟩, ((f1.wk (fun K i' j k z => ⟨z.2.1, Or.inr ⟨by have := z.1; omega, by have := z.1; omega⟩⟩)).tr (l3.wk (fun K i' j k z => ⟨z.1, Or.inr ⟨by have := z.2; omega, by have := z.2; omega⟩⟩))).tr hfr⟩
  · simp (disch := omega) only [jg_lit, jg_litL, jg_m1, jg_m1L, nI_add, lN_add, pk_mul, jg_sub, jg_subM, jg_addM, jg_addM', jg_negM, jt_in, jt_ix, jt_bi, jt_bl, jt_bv, jt_lt, jg_dT, jg_dF, jt_c, jt_cd, ru_I, ru_L, jg_leI, jg_ltI, jg_eqI, jg_M1, jg_M2, jg_M3, jg_M4, jg_M5, jg_M6, jg_ltT, jg_ltF, jg_leT, jg_leF, jg_eqT, jg_eqF, cond_true, cond_false, ne_eq, not_true_eq_false, not_false_eq_true, decide_true, decide_false, if_true, if_false, and_true, true_and, and_false, false_and, or_true, true_or, or_false, false_or, Nat.reduceEqDiff, reduceIte, Nat.reduceMul, Nat.reduceAdd, Nat.reduceSub, Nat.add_zero, Nat.zero_add, Nat.mul_zero, eq_self_iff_true, jg_not_lt, jg_not_le, rc_I]
  · simp (disch := omega) only [jg_lit, jg_litL, jg_m1, jg_m1L, nI_add, lN_add, pk_mul, jg_sub, jg_subM, jg_addM, jg_addM', jg_negM, jt_in, jt_ix, jt_bi, jt_bl, jt_bv, jt_lt, jg_dT, jg_dF, jt_c, jt_cd, ru_I, ru_L, jg_leI, jg_ltI, jg_eqI, jg_M1, jg_M2, jg_M3, jg_M4, jg_M5, jg_M6, jg_ltT, jg_ltF, jg_leT, jg_leF, jg_eqT, jg_eqF, cond_true, cond_false, ne_eq, not_true_eq_false, not_false_eq_true, decide_true, decide_false, if_true, if_false, and_true, true_and, and_false, false_and, or_true, true_or, or_false, false_or, Nat.reduceEqDiff, reduceIte, Nat.reduceMul, Nat.reduceAdd, Nat.reduceSub, Nat.add_zero, Nat.zero_add, Nat.mul_zero, eq_self_iff_true, jg_not_lt, jg_not_le, rc_I]
  · simp (disch := omega) only [jg_lit, jg_litL, jg_m1, jg_m1L, nI_add, lN_add, pk_mul, jg_sub, jg_subM, jg_addM, jg_addM', jg_negM, jt_in, jt_ix, jt_bi, jt_bl, jt_bv, jt_lt, jg_dT, jg_dF, jt_c, jt_cd, ru_I, ru_L, jg_leI, jg_ltI, jg_eqI, jg_M1, jg_M2, jg_M3, jg_M4, jg_M5, jg_M6, jg_ltT, jg_ltF, jg_leT, jg_leF, jg_eqT, jg_eqF, cond_true, cond_false, ne_eq, not_true_eq_false, not_false_eq_true, decide_true, decide_false, if_true, if_false, and_true, true_and, and_false, false_and, or_true, true_or, or_false, false_or, Nat.reduceEqDiff, reduceIte, Nat.reduceMul, Nat.reduceAdd, Nat.reduceSub, Nat.add_zero, Nat.zero_add, Nat.mul_zero, eq_self_iff_true, jg_not_lt, jg_not_le, rc_I]
  · simp (disch := omega) only [jg_lit, jg_litL, jg_m1, jg_m1L, nI_add, lN_add, pk_mul, jg_sub, jg_subM, jg_addM, jg_addM', jg_negM, jt_in, jt_ix, jt_bi, jt_bl, jt_bv, jt_lt, jg_dT, jg_dF, jt_c, jt_cd, ru_I, ru_L, jg_leI, jg_ltI, jg_eqI, jg_M1, jg_M2, jg_M3, jg_M4, jg_M5, jg_M6, jg_ltT, jg_ltF, jg_leT, jg_leF, jg_eqT, jg_eqF, cond_true, cond_false, ne_eq, not_true_eq_false, not_false_eq_true, decide_true, decide_false, if_true, if_false, and_true, true_and, and_false, false_and, or_true, true_or, or_false, false_or, Nat.reduceEqDiff, reduceIte, Nat.reduceMul, Nat.reduceAdd, Nat.reduceSub, Nat.add_zero, Nat.zero_add, Nat.mul_zero, eq_self_iff_true, jg_not_lt, jg_not_le, rc_I]
  · unfold xL xC at l2 ⊢
    simp only [rc_I, ru_I, Nat.reduceEqDiff, false_and, reduceIte]
    exact l2
  · simp (disch := omega) only [jg_lit, jg_litL, jg_m1, jg_m1L, nI_add, lN_add, pk_mul, jg_sub, jg_subM, jg_addM, jg_addM', jg_negM, jt_in, jt_ix, jt_bi, jt_bl, jt_bv, jt_lt, jg_dT, jg_dF, jt_c, jt_cd, ru_I, ru_L, jg_leI, jg_ltI, jg_eqI, jg_M1, jg_M2, jg_M3, jg_M4, jg_M5, jg_M6, jg_ltT, jg_ltF, jg_leT, jg_leF, jg_eqT, jg_eqF, cond_true, cond_false, ne_eq, not_true_eq_false, not_false_eq_true, decide_true, decide_false, if_true, if_false, and_true, true_and, and_false, false_and, or_true, true_or, or_false, false_or, Nat.reduceEqDiff, reduceIte, Nat.reduceMul, Nat.reduceAdd, Nat.reduceSub, Nat.add_zero, Nat.zero_add, Nat.mul_zero, eq_self_iff_true, jg_not_lt, jg_not_le, rc_I, Nat.sub_zero]
    exact qS c h1 h2
  · simp (disch := omega) only [jg_lit, jg_litL, jg_m1, jg_m1L, nI_add, lN_add, pk_mul, jg_sub, jg_subM, jg_addM, jg_addM', jg_negM, jt_in, jt_ix, jt_bi, jt_bl, jt_bv, jt_lt, jg_dT, jg_dF, jt_c, jt_cd, ru_I, ru_L, jg_leI, jg_ltI, jg_eqI, jg_M1, jg_M2, jg_M3, jg_M4, jg_M5, jg_M6, jg_ltT, jg_ltF, jg_leT, jg_leF, jg_eqT, jg_eqF, cond_true, cond_false, ne_eq, not_true_eq_false, not_false_eq_true, decide_true, decide_false, if_true, if_false, and_true, true_and, and_false, false_and, or_true, true_or, or_false, false_or, Nat.reduceEqDiff, reduceIte, Nat.reduceMul, Nat.reduceAdd, Nat.reduceSub, Nat.add_zero, Nat.zero_add, Nat.mul_zero, eq_self_iff_true, jg_not_lt, jg_not_le, rc_L, Nat.sub_zero]
    exact qK s w hs hw
  · refine xW_k (w2 j hj) (fun k => ?_) (fun k => ?_)
    · simp only [rc_I, ru_I, Nat.reduceEqDiff, false_and, reduceIte]
    · simp only [rc_L, ru_L, Nat.reduceEqDiff, false_and, reduceIte]
