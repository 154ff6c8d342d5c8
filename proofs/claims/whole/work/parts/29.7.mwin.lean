/-! ===== WINTER (reference) ===== -/
theorem ins_len {ls : List Nat} {p : Nat} (hp : p ≤ ls.length) (c : Nat) : (ls.take p ++ [c] ++ ls.drop p).length = ls.length + 1 := by
  simp only [List.length_append, List.length_take, List.length_drop, List.length_cons, List.length_nil]
  omega
theorem ins_get {ls : List Nat} {p : Nat} (hp : p ≤ ls.length) (c q : Nat) : (ls.take p ++ [c] ++ ls.drop p).getD q 0 = if q < p then ls.getD q 0 else if q = p then c else ls.getD (q - 1) 0 := by
  simp only [List.getD]
  by_cases h1 : q < p
  · rw [if_pos h1, List.append_assoc, List.getElem?_append_left (by rw [List.length_take]; omega), List.getElem?_take, if_pos h1]
  · rw [if_neg h1, List.append_assoc, List.getElem?_append_right (by rw [List.length_take]; omega), List.length_take, Nat.min_eq_left hp]
    by_cases h2 : q = p
    · rw [if_pos h2, h2, Nat.sub_self]; rfl
    · rw [if_neg h2, List.getElem?_append_right (by simp only [List.length_cons, List.length_nil]; omega), List.getElem?_drop]
      congr 2
      simp only [List.length_cons, List.length_nil]
      omega
theorem sm_up_loop {ls : List Nat} {b p : Nat} (hb : b + 40 ≤ 8600) (hl : ls.length ≤ 7) (s : Nat) (x2 x3 x5 : Int32) (z8 : jm_V) (d : Nat) : ∀ (r k : Nat) (m : jm_M), k = p + r → k ≤ ls.length → (∀ q, q < k → m.1 41 0 0 (b + 1 + q) = nI (ls.getD q 0)) → (∀ q, k < q → q ≤ ls.length → m.1 41 0 0 (b + 1 + q) = nI (ls.getD (q - 1) 0)) → ∃ m', jm_ev false d 11 1 jc_X12_winters 105 [vM, .inl (nI s), .inl x2, .inl x3, .inl (nI b), .inl x5, .inl (nI p), .inl (nI k), z8] [] m = jm_ev false d 11 1 jc_X12_winters 105 [vM, .inl (nI s), .inl x2, .inl x3, .inl (nI b), .inl x5, .inl (nI p), .inl (nI p), z8] [] m' ∧ (∀ q, q < p → m'.1 41 0 0 (b + 1 + q) = nI (ls.getD q 0)) ∧ (∀ q, p < q → q ≤ ls.length → m'.1 41 0 0 (b + 1 + q) = nI (ls.getD (q - 1) 0)) ∧ fr (PA (b + 1) 8) m m'
  | 0, k, m, hk, hkl, h1, h2 => by
    subst hk
    exact ⟨m, rfl, h1, h2, .rf⟩
  | r + 1, k, m, hk, hkl, h1, h2 => by
    have hc := h1 (k - 1) (by omega)
    have e0 : b + 1 + (k - 1) = b + k := by omega
    rw [e0] at hc
    obtain ⟨m', e1, e2, e3, e4⟩ := sm_up_loop (p := p) hb hl s x2 x3 x5 z8 d r (k - 1) (jm_sI m 41 0 0 (b + 1 + k) (nI (ls.getD (k - 1) 0))) (by omega) (by omega) (fun q hq => by rw [rd_II, if_neg (by omega)]; exact h1 q (by omega)) (fun q hq1 hq2 => by
      rw [rd_II]
      by_cases e : q = k
      · rw [if_pos ⟨rfl, rfl, rfl, by rw [e]⟩, e]
      · rw [if_neg (by omega)]; exact h2 q (by omega) hq2)
    refine ⟨m', ?_, e2, e3, (fr_I (by unfold PA; omega)).tr e4⟩
    rw [← e1, l_X12_winters_105]
    have e5 : b + 1 + k - 1 = b + k := by omega
    simp (disch := omega) only [jg_lit, jg_litL, jg_m1, jg_m1L, nI_add, lN_add, pk_mul, jg_sub, jg_subM, jg_addM, jg_addM', jg_negM, jt_in, jt_ix, jt_bi, jt_bl, jt_bv, jt_lt, jg_dT, jg_dF, jt_c, jt_cd, ru_I, ru_L, jg_leI, jg_ltI, jg_eqI, jg_M1, jg_M2, jg_M3, jg_M4, jg_M5, jg_M6, jg_ltT, jg_ltF, jg_leT, jg_leF, jg_eqT, jg_eqF, cond_true, cond_false, ne_eq, not_true_eq_false, not_false_eq_true, decide_true, decide_false, if_true, if_false, and_true, true_and, and_false, false_and, or_true, true_or, or_false, false_or, Nat.reduceEqDiff, reduceIte, Nat.reduceMul, Nat.reduceAdd, Nat.reduceSub, Nat.add_zero, Nat.zero_add, Nat.mul_zero, eq_self_iff_true, jg_not_lt, jg_not_le, e5, hc]
theorem sm_alk_loop {ws : List Wd} (hw : okWs ws) {s j : Nat} (hs : s + 490 ≤ 8600) (hj : j < ws.length) {ls : List Nat} (hl : okL ls) (hn : ls ≠ []) {m : jm_M} (hlen : m.1 41 0 0 (s + 1) = nI ws.length) (hr0 : mR ls (s + 10 + 40 * j) m) (hro : ∀ o, o < ws.length → o ≠ j → mR (wL (gw ws o)) (s + 10 + 40 * o) m) (x2 : Int32) (z5 : jm_V) (x6 : Int32) (d : Nat) : ∀ (r o : Nat) (a : Bool), o + r = ws.length → jm_ev false (d + 1) 11 1 jc_X12_winters 180 [vM, .inl (nI s), .inl x2, .inl (nI j), .inl (nI (s + 10 + 40 * j)), z5, .inl x6, .inl (bI a), .inl (nI o)] [] m = jm_ev false (d + 1) 11 1 jc_X12_winters 180 [vM, .inl (nI s), .inl x2, .inl (nI j), .inl (nI (s + 10 + 40 * j)), z5, .inl x6, .inl (bI (a || (alk ws ls (some j) r o).isSome)), .inl (nI ws.length)] [] m
  | 0, o, a, ho => by
    rw [show o = ws.length by omega]
    unfold alk
    simp
  | r + 1, o, a, ho => by
    have h12 := hw.1
    have ho' : o < ws.length := by omega
    have ih := fun a => sm_alk_loop hw hs hj hl hn hlen hr0 hro x2 z5 x6 d r (o + 1) a (by omega)
    conv => lhs; rw [l_X12_winters_180]
    cases a with
    | true =>
      rw [bI_T]
      have := ih true
      rw [bI_T, Bool.true_or] at this
      rw [Bool.true_or]
      simp (disch := omega) only [jg_lit, jg_litL, jg_m1, jg_m1L, nI_add, lN_add, pk_mul, jg_sub, jg_subM, jg_addM, jg_addM', jg_negM, jt_in, jt_ix, jt_bi, jt_bl, jt_bv, jt_lt, jg_dT, jg_dF, jt_c, jt_cd, ru_I, ru_L, jg_leI, jg_ltI, jg_eqI, jg_M1, jg_M2, jg_M3, jg_M4, jg_M5, jg_M6, jg_ltT, jg_ltF, jg_leT, jg_leF, jg_eqT, jg_eqF, cond_true, cond_false, ne_eq, not_true_eq_false, not_false_eq_true, decide_true, decide_false, if_true, if_false, and_true, true_and, and_false, false_and, or_true, true_or, or_false, false_or, Nat.reduceEqDiff, reduceIte, Nat.reduceMul, Nat.reduceAdd, Nat.reduceSub, Nat.add_zero, Nat.zero_add, Nat.mul_zero, eq_self_iff_true, jg_not_lt, jg_not_le, hlen]
      exact this
    | false =>
      rw [bI_F, Bool.false_or]
      have iF := ih false
      rw [bI_F, Bool.false_or] at iF
      unfold alk
      by_cases c1 : o = j
      · rw [if_neg (fun z => z.1 (by rw [c1]))]
        simp (disch := omega) only [jg_lit, jg_litL, jg_m1, jg_m1L, nI_add, lN_add, pk_mul, jg_sub, jg_subM, jg_addM, jg_addM', jg_negM, jt_in, jt_ix, jt_bi, jt_bl, jt_bv, jt_lt, jg_dT, jg_dF, jt_c, jt_cd, ru_I, ru_L, jg_leI, jg_ltI, jg_eqI, jg_M1, jg_M2, jg_M3, jg_M4, jg_M5, jg_M6, jg_ltT, jg_ltF, jg_leT, jg_leF, jg_eqT, jg_eqF, cond_true, cond_false, ne_eq, not_true_eq_false, not_false_eq_true, decide_true, decide_false, if_true, if_false, and_true, true_and, and_false, false_and, or_true, true_or, or_false, false_or, Nat.reduceEqDiff, reduceIte, Nat.reduceMul, Nat.reduceAdd, Nat.reduceSub, Nat.add_zero, Nat.zero_add, Nat.mul_zero, eq_self_iff_true, jg_not_lt, jg_not_le, hlen]
        exact iF
      · have lk := sm_areLike (hw.2.1 o ho').1.1 hl (b1 := s + 10 + 40 * o) (b2 := s + 10 + 40 * j) (by omega) (by omega) (hro o ho' c1) hr0 d
        have ro := fun m => sm_rowOf d s o m
        by_cases c2 : wL (gw ws o) = ls
        · rw [if_pos ⟨fun z => c1 (Option.some.inj z), by rw [c2]; exact hn, c2⟩]
          rw [if_pos c2] at lk
          have iT := ih true
          rw [bI_T, Bool.true_or] at iT
          have lk' : jm_sem false (d + 1) jn_X12_areLike [vM, .inl (nI (s + 10 + 40 * o)), .inl (nI (s + 10 + 40 * j))] m = some (.inl (nI 1), m) := lk
          rw [Option.isSome_some]
          simp (disch := omega) only [jg_lit, jg_litL, jg_m1, jg_m1L, nI_add, lN_add, pk_mul, jg_sub, jg_subM, jg_addM, jg_addM', jg_negM, jt_in, jt_ix, jt_bi, jt_bl, jt_bv, jt_lt, jg_dT, jg_dF, jt_c, jt_cd, ru_I, ru_L, jg_leI, jg_ltI, jg_eqI, jg_M1, jg_M2, jg_M3, jg_M4, jg_M5, jg_M6, jg_ltT, jg_ltF, jg_leT, jg_leF, jg_eqT, jg_eqF, cond_true, cond_false, ne_eq, not_true_eq_false, not_false_eq_true, decide_true, decide_false, if_true, if_false, and_true, true_and, and_false, false_and, or_true, true_or, or_false, false_or, Nat.reduceEqDiff, reduceIte, Nat.reduceMul, Nat.reduceAdd, Nat.reduceSub, Nat.add_zero, Nat.zero_add, Nat.mul_zero, eq_self_iff_true, jg_not_lt, jg_not_le, hlen, ro, lk']
          exact iT
        · rw [if_neg (fun z => c2 z.2.2)]
          rw [if_neg c2] at lk
          have lk' : jm_sem false (d + 1) jn_X12_areLike [vM, .inl (nI (s + 10 + 40 * o)), .inl (nI (s + 10 + 40 * j))] m = some (.inl (nI 0), m) := lk
          simp (disch := omega) only [jg_lit, jg_litL, jg_m1, jg_m1L, nI_add, lN_add, pk_mul, jg_sub, jg_subM, jg_addM, jg_addM', jg_negM, jt_in, jt_ix, jt_bi, jt_bl, jt_bv, jt_lt, jg_dT, jg_dF, jt_c, jt_cd, ru_I, ru_L, jg_leI, jg_ltI, jg_eqI, jg_M1, jg_M2, jg_M3, jg_M4, jg_M5, jg_M6, jg_ltT, jg_ltF, jg_leT, jg_leF, jg_eqT, jg_eqF, cond_true, cond_false, ne_eq, not_true_eq_false, not_false_eq_true, decide_true, decide_false, if_true, if_false, and_true, true_and, and_false, false_and, or_true, true_or, or_false, false_or, Nat.reduceEqDiff, reduceIte, Nat.reduceMul, Nat.reduceAdd, Nat.reduceSub, Nat.add_zero, Nat.zero_add, Nat.mul_zero, eq_self_iff_true, jg_not_lt, jg_not_le, hlen, ro, lk']
          exact iF
theorem sm_down_loop {ls : List Nat} {b p : Nat} (hb : b + 40 ≤ 8600) (hl : ls.length ≤ 7) (s : Nat) (x2 x3 : Int32) (z5 z6 z7 : jm_V) (d : Nat) : ∀ (r k : Nat) (m : jm_M), k + r = ls.length → m.1 41 0 0 b = nI ls.length → (∀ q, q < k → m.1 41 0 0 (b + 1 + q) = nI (ls.getD q 0)) → (∀ q, k ≤ q → q < ls.length → m.1 41 0 0 (b + 1 + (q + 1)) = nI (ls.getD q 0)) → ∃ m', jm_ev false d 11 1 jc_X12_winters 252 [vM, .inl (nI s), .inl x2, .inl x3, .inl (nI b), z5, z6, z7, .inl (nI k)] [] m = jm_ev false d 11 1 jc_X12_winters 4 [vM, .inl (nI s), .inl x2, .inl (x3 + 1), .inl (nI b), z5, z6, z7, .inl (nI ls.length)] [] m' ∧ mR ls b m' ∧ fr (PA (b + 1) 8) m m'
  | 0, k, m, hk, h0, h1, h2 => by
    have : k = ls.length := by omega
    subst this
    refine ⟨m, ?_, ⟨by omega, h0, h1⟩, .rf⟩
    rw [l_X12_winters_252]
    simp (disch := omega) only [jg_lit, jg_litL, jg_m1, jg_m1L, nI_add, lN_add, pk_mul, jg_sub, jg_subM, jg_addM, jg_addM', jg_negM, jt_in, jt_ix, jt_bi, jt_bl, jt_bv, jt_lt, jg_dT, jg_dF, jt_c, jt_cd, ru_I, ru_L, jg_leI, jg_ltI, jg_eqI, jg_M1, jg_M2, jg_M3, jg_M4, jg_M5, jg_M6, jg_ltT, jg_ltF, jg_leT, jg_leF, jg_eqT, jg_eqF, cond_true, cond_false, ne_eq, not_true_eq_false, not_false_eq_true, decide_true, decide_false, if_true, if_false, and_true, true_and, and_false, false_and, or_true, true_or, or_false, false_or, Nat.reduceEqDiff, reduceIte, Nat.reduceMul, Nat.reduceAdd, Nat.reduceSub, Nat.add_zero, Nat.zero_add, Nat.mul_zero, eq_self_iff_true, jg_not_lt, jg_not_le, h0]
  | r + 1, k, m, hk, h0, h1, h2 => by
    have hc := h2 k (Nat.le_refl _) (by omega)
    obtain ⟨m', e1, e2, e3⟩ := sm_down_loop (p := p) hb hl s x2 x3 z5 z6 z7 d r (k + 1) (jm_sI m 41 0 0 (b + 1 + k) (nI (ls.getD k 0))) (by omega) (by rw [rd_II, if_neg (by omega)]; exact h0) (fun q hq => by
      rw [rd_II]
      by_cases e : q = k
      · rw [if_pos ⟨rfl, rfl, rfl, by rw [e]⟩, e]
      · rw [if_neg (by omega)]; exact h1 q (by omega)) (fun q hq1 hq2 => by rw [rd_II, if_neg (by omega)]; exact h2 q (by omega) hq2)
    refine ⟨m', ?_, e2, (fr_I (by unfold PA; omega)).tr e3⟩
    rw [← e1, l_X12_winters_252]
    have hc' : m.1 41 0 0 (b + 1 + k + 1) = nI (ls.getD k 0) := hc
    simp (disch := omega) only [jg_lit, jg_litL, jg_m1, jg_m1L, nI_add, lN_add, pk_mul, jg_sub, jg_subM, jg_addM, jg_addM', jg_negM, jt_in, jt_ix, jt_bi, jt_bl, jt_bv, jt_lt, jg_dT, jg_dF, jt_c, jt_cd, ru_I, ru_L, jg_leI, jg_ltI, jg_eqI, jg_M1, jg_M2, jg_M3, jg_M4, jg_M5, jg_M6, jg_ltT, jg_ltF, jg_leT, jg_leF, jg_eqT, jg_eqF, cond_true, cond_false, ne_eq, not_true_eq_false, not_false_eq_true, decide_true, decide_false, if_true, if_false, and_true, true_and, and_false, false_and, or_true, true_or, or_false, false_or, Nat.reduceEqDiff, reduceIte, Nat.reduceMul, Nat.reduceAdd, Nat.reduceSub, Nat.add_zero, Nat.zero_add, Nat.mul_zero, eq_self_iff_true, jg_not_lt, jg_not_le, h0, hc']
theorem mV_mk {V : Vl} {s : Nat} {ws : List Wd} {m m' : jm_M} (h : mV V s m) (hl : ws.length = (vlW V).length) (hc : ∀ c, c < s + 10 → m'.1 41 0 0 c = m.1 41 0 0 c) (hw : ∀ q, q < ws.length → mW (gw ws q) (s + 10 + 40 * q) m') : mV (vlSet V ws) s m' := ⟨by rw [hc _ (by omega)]; exact h.1, by show _ = nI ws.length; rw [hc _ (by omega), hl]; exact h.2.1, by rw [hc _ (by omega)]; exact h.2.2.1, by rw [hc _ (by omega)]; exact h.2.2.2.1, hw⟩
theorem mW_pop {w : Wd} {b : Nat} {m : jm_M} {q : Nat × Nat} {t : List (Nat × Nat)} {ls : List Nat} (h : mW (ls, wM w, wS w, wT w, wC w, q :: t, wF w) b m) (ht : t.length < 8) : mW (ls, wM w, wS w, wT w, wC w, t, wF w) b (jm_sI m 41 0 0 (b + 13) (nI t.length)) := by
  obtain ⟨h1, h2, h3, h4, h5, h6, h7, h8⟩ := h
  refine ⟨mR_cp h1 (fun k hk => ?_), ?_, ?_, ?_, ?_, ?_, fun k hk => ?_, mR_cp h8 (fun k hk => ?_)⟩
  · simp (disch := omega) only [jg_lit, jg_litL, jg_m1, jg_m1L, nI_add, lN_add, pk_mul, jg_sub, jg_subM, jg_addM, jg_addM', jg_negM, jt_in, jt_ix, jt_bi, jt_bl, jt_bv, jt_lt, jg_dT, jg_dF, jt_c, jt_cd, ru_I, ru_L, jg_leI, jg_ltI, jg_eqI, jg_M1, jg_M2, jg_M3, jg_M4, jg_M5, jg_M6, jg_ltT, jg_ltF, jg_leT, jg_leF, jg_eqT, jg_eqF, cond_true, cond_false, ne_eq, not_true_eq_false, not_false_eq_true, decide_true, decide_false, if_true, if_false, and_true, true_and, and_false, false_and, or_true, true_or, or_false, false_or, Nat.reduceEqDiff, reduceIte, Nat.reduceMul, Nat.reduceAdd, Nat.reduceSub, Nat.add_zero, Nat.zero_add, Nat.mul_zero, eq_self_iff_true, jg_not_lt, jg_not_le]
  · simp (disch := omega) only [jg_lit, jg_litL, jg_m1, jg_m1L, nI_add, lN_add, pk_mul, jg_sub, jg_subM, jg_addM, jg_addM', jg_negM, jt_in, jt_ix, jt_bi, jt_bl, jt_bv, jt_lt, jg_dT, jg_dF, jt_c, jt_cd, ru_I, ru_L, jg_leI, jg_ltI, jg_eqI, jg_M1, jg_M2, jg_M3, jg_M4, jg_M5, jg_M6, jg_ltT, jg_ltF, jg_leT, jg_leF, jg_eqT, jg_eqF, cond_true, cond_false, ne_eq, not_true_eq_false, not_false_eq_true, decide_true, decide_false, if_true, if_false, and_true, true_and, and_false, false_and, or_true, true_or, or_false, false_or, Nat.reduceEqDiff, reduceIte, Nat.reduceMul, Nat.reduceAdd, Nat.reduceSub, Nat.add_zero, Nat.zero_add, Nat.mul_zero, eq_self_iff_true, jg_not_lt, jg_not_le]; exact h2
  · simp (disch := omega) only [jg_lit, jg_litL, jg_m1, jg_m1L, nI_add, lN_add, pk_mul, jg_sub, jg_subM, jg_addM, jg_addM', jg_negM, jt_in, jt_ix, jt_bi, jt_bl, jt_bv, jt_lt, jg_dT, jg_dF, jt_c, jt_cd, ru_I, ru_L, jg_leI, jg_ltI, jg_eqI, jg_M1, jg_M2, jg_M3, jg_M4, jg_M5, jg_M6, jg_ltT, jg_ltF, jg_leT, jg_leF, jg_eqT, jg_eqF, cond_true, cond_false, ne_eq, not_true_eq_false, not_false_eq_true, decide_true, decide_false, if_true, if_false, and_true, true_and, and_false, false_and, or_true, true_or, or_false, false_or, Nat.reduceEqDiff, reduceIte, Nat.reduceMul, Nat.reduceAdd, Nat.reduceSub, Nat.add_zero, Nat.zero_add, Nat.mul_zero, eq_self_iff_true, jg_not_lt, jg_not_le]; exact h3
  · simp (disch := omega) only [jg_lit, jg_litL, jg_m1, jg_m1L, nI_add, lN_add, pk_mul, jg_sub, jg_subM, jg_addM, jg_addM', jg_negM, jt_in, jt_ix, jt_bi, jt_bl, jt_bv, jt_lt, jg_dT, jg_dF, jt_c, jt_cd, ru_I, ru_L, jg_leI, jg_ltI, jg_eqI, jg_M1, jg_M2, jg_M3, jg_M4, jg_M5, jg_M6, jg_ltT, jg_ltF, jg_leT, jg_leF, jg_eqT, jg_eqF, cond_true, cond_false, ne_eq, not_true_eq_false, not_false_eq_true, decide_true, decide_false, if_true, if_false, and_true, true_and, and_false, false_and, or_true, true_or, or_false, false_or, Nat.reduceEqDiff, reduceIte, Nat.reduceMul, Nat.reduceAdd, Nat.reduceSub, Nat.add_zero, Nat.zero_add, Nat.mul_zero, eq_self_iff_true, jg_not_lt, jg_not_le]; exact h4
  · simp (disch := omega) only [jg_lit, jg_litL, jg_m1, jg_m1L, nI_add, lN_add, pk_mul, jg_sub, jg_subM, jg_addM, jg_addM', jg_negM, jt_in, jt_ix, jt_bi, jt_bl, jt_bv, jt_lt, jg_dT, jg_dF, jt_c, jt_cd, ru_I, ru_L, jg_leI, jg_ltI, jg_eqI, jg_M1, jg_M2, jg_M3, jg_M4, jg_M5, jg_M6, jg_ltT, jg_ltF, jg_leT, jg_leF, jg_eqT, jg_eqF, cond_true, cond_false, ne_eq, not_true_eq_false, not_false_eq_true, decide_true, decide_false, if_true, if_false, and_true, true_and, and_false, false_and, or_true, true_or, or_false, false_or, Nat.reduceEqDiff, reduceIte, Nat.reduceMul, Nat.reduceAdd, Nat.reduceSub, Nat.add_zero, Nat.zero_add, Nat.mul_zero, eq_self_iff_true, jg_not_lt, jg_not_le]; exact h5
  · simp (disch := omega) only [jg_lit, jg_litL, jg_m1, jg_m1L, nI_add, lN_add, pk_mul, jg_sub, jg_subM, jg_addM, jg_addM', jg_negM, jt_in, jt_ix, jt_bi, jt_bl, jt_bv, jt_lt, jg_dT, jg_dF, jt_c, jt_cd, ru_I, ru_L, jg_leI, jg_ltI, jg_eqI, jg_M1, jg_M2, jg_M3, jg_M4, jg_M5, jg_M6, jg_ltT, jg_ltF, jg_leT, jg_leF, jg_eqT, jg_eqF, cond_true, cond_false, ne_eq, not_true_eq_false, not_false_eq_true, decide_true, decide_false, if_true, if_false, and_true, true_and, and_false, false_and, or_true, true_or, or_false, false_or, Nat.reduceEqDiff, reduceIte, Nat.reduceMul, Nat.reduceAdd, Nat.reduceSub, Nat.add_zero, Nat.zero_add, Nat.mul_zero, eq_self_iff_true, jg_not_lt, jg_not_le]
  · have hk : k < t.length := hk
    have h7 : m.1 41 0 0 (b + 14 + 2 * k) = nI ((q :: t).reverse.getD k (0, 0)).1 ∧ m.1 41 0 0 (b + 14 + 2 * k + 1) = nI ((q :: t).reverse.getD k (0, 0)).2 := h7 k (show k < (q :: t).length by simp only [List.length_cons]; omega)
    have e : (q :: t).reverse.getD k (0, 0) = t.reverse.getD k (0, 0) := rev_app hk
    rw [e] at h7
    constructor
    · simp (disch := omega) only [jg_lit, jg_litL, jg_m1, jg_m1L, nI_add, lN_add, pk_mul, jg_sub, jg_subM, jg_addM, jg_addM', jg_negM, jt_in, jt_ix, jt_bi, jt_bl, jt_bv, jt_lt, jg_dT, jg_dF, jt_c, jt_cd, ru_I, ru_L, jg_leI, jg_ltI, jg_eqI, jg_M1, jg_M2, jg_M3, jg_M4, jg_M5, jg_M6, jg_ltT, jg_ltF, jg_leT, jg_leF, jg_eqT, jg_eqF, cond_true, cond_false, ne_eq, not_true_eq_false, not_false_eq_true, decide_true, decide_false, if_true, if_false, and_true, true_and, and_false, false_and, or_true, true_or, or_false, false_or, Nat.reduceEqDiff, reduceIte, Nat.reduceMul, Nat.reduceAdd, Nat.reduceSub, Nat.add_zero, Nat.zero_add, Nat.mul_zero, eq_self_iff_true, jg_not_lt, jg_not_le]; exact h7.1
    · simp (disch := omega) only [jg_lit, jg_litL, jg_m1, jg_m1L, nI_add, lN_add, pk_mul, jg_sub, jg_subM, jg_addM, jg_addM', jg_negM, jt_in, jt_ix, jt_bi, jt_bl, jt_bv, jt_lt, jg_dT, jg_dF, jt_c, jt_cd, ru_I, ru_L, jg_leI, jg_ltI, jg_eqI, jg_M1, jg_M2, jg_M3, jg_M4, jg_M5, jg_M6, jg_ltT, jg_ltF, jg_leT, jg_leF, jg_eqT, jg_eqF, cond_true, cond_false, ne_eq, not_true_eq_false, not_false_eq_true, decide_true, decide_false, if_true, if_false, and_true, true_and, and_false, false_and, or_true, true_or, or_false, false_or, Nat.reduceEqDiff, reduceIte, Nat.reduceMul, Nat.reduceAdd, Nat.reduceSub, Nat.add_zero, Nat.zero_add, Nat.mul_zero, eq_self_iff_true, jg_not_lt, jg_not_le]; exact h7.2
  · simp (disch := omega) only [jg_lit, jg_litL, jg_m1, jg_m1L, nI_add, lN_add, pk_mul, jg_sub, jg_subM, jg_addM, jg_addM', jg_negM, jt_in, jt_ix, jt_bi, jt_bl, jt_bv, jt_lt, jg_dT, jg_dF, jt_c, jt_cd, ru_I, ru_L, jg_leI, jg_ltI, jg_eqI, jg_M1, jg_M2, jg_M3, jg_M4, jg_M5, jg_M6, jg_ltT, jg_ltF, jg_leT, jg_leF, jg_eqT, jg_eqF, cond_true, cond_false, ne_eq, not_true_eq_false, not_false_eq_true, decide_true, decide_false, if_true, if_false, and_true, true_and, and_false, false_and, or_true, true_or, or_false, false_or, Nat.reduceEqDiff, reduceIte, Nat.reduceMul, Nat.reduceAdd, Nat.reduceSub, Nat.add_zero, Nat.zero_add, Nat.mul_zero, eq_self_iff_true, jg_not_lt, jg_not_le]
theorem sm_win_loop {V : Vl} {s : Nat} (hs : s + 490 ≤ 8600) (d : Nat) : ∀ (r j : Nat) (ws : List Wd) (v : Nat) (z4 z5 z6 z7 z8 : jm_V) (m : jm_M), j + r = ws.length → ws.length = (vlW V).length → okWs ws → mV (vlSet V ws) s m → ∃ m' z4' z5' z6' z7' z8', jm_ev false (d + 2) 11 1 jc_X12_winters 4 [vM, .inl (nI s), .inl (nI v), .inl (nI j), z4, z5, z6, z7, z8] [] m = jm_ev false (d + 2) 11 1 jc_X12_winters 327 [vM, .inl (nI s), .inl (nI (winF r j ws v).2), .inl (nI 0), z4', z5', z6', z7', z8'] [] m' ∧ mV (vlSet V (winF r j ws v).1) s m' ∧ fr (PS s) m m'
  | 0, j, ws, v, z4, z5, z6, z7, z8, m, hr, hl, hw, h => by
    have h12 := hw.1
    have h1 : m.1 41 0 0 (s + 1) = nI ws.length := h.2.1
    refine ⟨m, z4, z5, z6, z7, z8, ?_, h, .rf⟩
    rw [l_X12_winters_4]
    simp (disch := omega) only [jg_lit, jg_litL, jg_m1, jg_m1L, nI_add, lN_add, pk_mul, jg_sub, jg_subM, jg_addM, jg_addM', jg_negM, jt_in, jt_ix, jt_bi, jt_bl, jt_bv, jt_lt, jg_dT, jg_dF, jt_c, jt_cd, ru_I, ru_L, jg_leI, jg_ltI, jg_eqI, jg_M1, jg_M2, jg_M3, jg_M4, jg_M5, jg_M6, jg_ltT, jg_ltF, jg_leT, jg_leF, jg_eqT, jg_eqF, cond_true, cond_false, ne_eq, not_true_eq_false, not_false_eq_true, decide_true, decide_false, if_true, if_false, and_true, true_and, and_false, false_and, or_true, true_or, or_false, false_or, Nat.reduceEqDiff, reduceIte, Nat.reduceMul, Nat.reduceAdd, Nat.reduceSub, Nat.add_zero, Nat.zero_add, Nat.mul_zero, eq_self_iff_true, jg_not_lt, jg_not_le, h1]
    rfl
  | r + 1, j, ws, v, z4, z5, z6, z7, z8, m, hr, hl, hw, h => by
    have h12 := hw.1
    have h1 : m.1 41 0 0 (s + 1) = nI ws.length := h.2.1
    have hj : j < ws.length := by omega
    have hok := hw.2.1 j hj
    have hwj : mW (gw ws j) (s + 10 + 40 * j) m := h.2.2.2.2 j hj
    have ro := fun m => sm_rowOf (d + 1) s j m
    have h8 := okW_8 hok.1
    have hX8 := hok.1.2.1
    unfold winF
    generalize hb : s + 10 + 40 * j = b at hwj ro
    have a0 := hwj.1.2.1
    have a12 := hwj.2.2.2.2.1
    have a13 := hwj.2.2.2.2.2.1
    by_cases hcan : canB (gw ws j)
    · obtain ⟨c1, c2, c3⟩ := hcan
      have hlp : 0 < (wL (gw ws j)).length := List.length_pos_iff.mpr c1
      cases hx : wX (gw ws j) with
      | nil => exact absurd hx c2
      | cons q t =>
        have hXl : (wX (gw ws j)).length = t.length + 1 := by rw [hx]; rfl
        have hq := hok.1.2.2.1 0 q (by rw [hx]; rfl)
        have hq2 : q.2 ≤ (wL (gw ws j)).length := by omega
        have hbk : wBack (gw ws j) = ((wL (gw ws j)).take q.2 ++ [q.1] ++ (wL (gw ws j)).drop q.2, wM (gw ws j), wS (gw ws j), wT (gw ws j), wC (gw ws j), t, wF (gw ws j)) := by
          unfold wBack
          rw [hx]
        have obk := okW2_back hok c1
        have hcell := hwj.2.2.2.2.2.2.1 t.length (by omega)
        rw [hx, rev_last] at hcell
        rw [c3] at a12
        have a12' : m.1 41 0 0 (b + 12) = nI 0 := a12
        rw [hXl] at a13
        obtain ⟨m1, u1, u2, u3, u4⟩ := sm_up_loop (ls := wL (gw ws j)) (b := b) (p := q.2) (by omega) (by omega) s (nI v) (nI j) (nI (b + 14 + 2 * t.length)) z8 (d + 2) ((wL (gw ws j)).length - q.2) (wL (gw ws j)).length m (by omega) (Nat.le_refl _) hwj.1.2.2 (fun q' h1 h2 => by omega)
        have f1 : ∀ c, c < b + 1 ∨ b + 9 ≤ c → m1.1 41 0 0 c = m.1 41 0 0 c := fun c hc => (u4 41 0 0 c (fun z => by unfold PA at z; omega)).1
        have lc1 : m1.1 41 0 0 (b + 14 + 2 * t.length) = nI q.1 := by rw [f1 _ (by omega)]; exact hcell.1
        have b1 : m1.1 41 0 0 b = nI (wL (gw ws j)).length := by rw [f1 _ (by omega)]; exact a0
        generalize hm2 : jm_sI (jm_sI m1 41 0 0 (b + 1 + q.2) (nI q.1)) 41 0 0 b (nI ((wL (gw ws j)).length + 1)) = m2
        have f2 : ∀ c, c < b ∨ b + 9 ≤ c → m2.1 41 0 0 c = m.1 41 0 0 c := fun c hc => by rw [← hm2]; simp (disch := omega) only [jg_lit, jg_litL, jg_m1, jg_m1L, nI_add, lN_add, pk_mul, jg_sub, jg_subM, jg_addM, jg_addM', jg_negM, jt_in, jt_ix, jt_bi, jt_bl, jt_bv, jt_lt, jg_dT, jg_dF, jt_c, jt_cd, ru_I, ru_L, jg_leI, jg_ltI, jg_eqI, jg_M1, jg_M2, jg_M3, jg_M4, jg_M5, jg_M6, jg_ltT, jg_ltF, jg_leT, jg_leF, jg_eqT, jg_eqF, cond_true, cond_false, ne_eq, not_true_eq_false, not_false_eq_true, decide_true, decide_false, if_true, if_false, and_true, true_and, and_false, false_and, or_true, true_or, or_false, false_or, Nat.reduceEqDiff, reduceIte, Nat.reduceMul, Nat.reduceAdd, Nat.reduceSub, Nat.add_zero, Nat.zero_add, Nat.mul_zero, eq_self_iff_true, jg_not_lt, jg_not_le]; exact f1 c (by omega)
        have R2 : mR ((wL (gw ws j)).take q.2 ++ [q.1] ++ (wL (gw ws j)).drop q.2) b m2 := by
          refine ⟨by rw [ins_len hq2]; omega, by rw [ins_len hq2, ← hm2]; simp (disch := omega) only [jg_lit, jg_litL, jg_m1, jg_m1L, nI_add, lN_add, pk_mul, jg_sub, jg_subM, jg_addM, jg_addM', jg_negM, jt_in, jt_ix, jt_bi, jt_bl, jt_bv, jt_lt, jg_dT, jg_dF, jt_c, jt_cd, ru_I, ru_L, jg_leI, jg_ltI, jg_eqI, jg_M1, jg_M2, jg_M3, jg_M4, jg_M5, jg_M6, jg_ltT, jg_ltF, jg_leT, jg_leF, jg_eqT, jg_eqF, cond_true, cond_false, ne_eq, not_true_eq_false, not_false_eq_true, decide_true, decide_false, if_true, if_false, and_true, true_and, and_false, false_and, or_true, true_or, or_false, false_or, Nat.reduceEqDiff, reduceIte, Nat.reduceMul, Nat.reduceAdd, Nat.reduceSub, Nat.add_zero, Nat.zero_add, Nat.mul_zero, eq_self_iff_true, jg_not_lt, jg_not_le], fun k hk => ?_⟩
          rw [ins_len hq2] at hk
          rw [ins_get hq2, ← hm2]
          by_cases e1 : k < q.2
          · rw [if_pos e1]; simp (disch := omega) only [jg_lit, jg_litL, jg_m1, jg_m1L, nI_add, lN_add, pk_mul, jg_sub, jg_subM, jg_addM, jg_addM', jg_negM, jt_in, jt_ix, jt_bi, jt_bl, jt_bv, jt_lt, jg_dT, jg_dF, jt_c, jt_cd, ru_I, ru_L, jg_leI, jg_ltI, jg_eqI, jg_M1, jg_M2, jg_M3, jg_M4, jg_M5, jg_M6, jg_ltT, jg_ltF, jg_leT, jg_leF, jg_eqT, jg_eqF, cond_true, cond_false, ne_eq, not_true_eq_false, not_false_eq_true, decide_true, decide_false, if_true, if_false, and_true, true_and, and_false, false_and, or_true, true_or, or_false, false_or, Nat.reduceEqDiff, reduceIte, Nat.reduceMul, Nat.reduceAdd, Nat.reduceSub, Nat.add_zero, Nat.zero_add, Nat.mul_zero, eq_self_iff_true, jg_not_lt, jg_not_le]; exact u2 k e1
          · rw [if_neg e1]
            by_cases e2 : k = q.2
            · rw [if_pos e2, e2]; simp (disch := omega) only [jg_lit, jg_litL, jg_m1, jg_m1L, nI_add, lN_add, pk_mul, jg_sub, jg_subM, jg_addM, jg_addM', jg_negM, jt_in, jt_ix, jt_bi, jt_bl, jt_bv, jt_lt, jg_dT, jg_dF, jt_c, jt_cd, ru_I, ru_L, jg_leI, jg_ltI, jg_eqI, jg_M1, jg_M2, jg_M3, jg_M4, jg_M5, jg_M6, jg_ltT, jg_ltF, jg_leT, jg_leF, jg_eqT, jg_eqF, cond_true, cond_false, ne_eq, not_true_eq_false, not_false_eq_true, decide_true, decide_false, if_true, if_false, and_true, true_and, and_false, false_and, or_true, true_or, or_false, false_or, Nat.reduceEqDiff, reduceIte, Nat.reduceMul, Nat.reduceAdd, Nat.reduceSub, Nat.add_zero, Nat.zero_add, Nat.mul_zero, eq_self_iff_true, jg_not_lt, jg_not_le]
            · rw [if_neg e2]; simp (disch := omega) only [jg_lit, jg_litL, jg_m1, jg_m1L, nI_add, lN_add, pk_mul, jg_sub, jg_subM, jg_addM, jg_addM', jg_negM, jt_in, jt_ix, jt_bi, jt_bl, jt_bv, jt_lt, jg_dT, jg_dF, jt_c, jt_cd, ru_I, ru_L, jg_leI, jg_ltI, jg_eqI, jg_M1, jg_M2, jg_M3, jg_M4, jg_M5, jg_M6, jg_ltT, jg_ltF, jg_leT, jg_leF, jg_eqT, jg_eqF, cond_true, cond_false, ne_eq, not_true_eq_false, not_false_eq_true, decide_true, decide_false, if_true, if_false, and_true, true_and, and_false, false_and, or_true, true_or, or_false, false_or, Nat.reduceEqDiff, reduceIte, Nat.reduceMul, Nat.reduceAdd, Nat.reduceSub, Nat.add_zero, Nat.zero_add, Nat.mul_zero, eq_self_iff_true, jg_not_lt, jg_not_le]; exact u3 k (by omega) (by omega)
        have fr2 : fr (PS s) m m2 := by
          rw [← hm2]
          exact fr_sI (fr_sI (fr_PAS (by omega) (by omega) u4) (Or.inl ⟨rfl, by omega, by omega⟩)) (Or.inl ⟨rfl, by omega, by omega⟩)
        have to180 : jm_ev false (d + 2) 11 1 jc_X12_winters 4 [vM, .inl (nI s), .inl (nI v), .inl (nI j), z4, z5, z6, z7, z8] [] m = jm_ev false (d + 2) 11 1 jc_X12_winters 180 [vM, .inl (nI s), .inl (nI v), .inl (nI j), .inl (nI b), .inl (nI (b + 14 + 2 * t.length)), .inl (nI q.2), .inl (nI 0), .inl (nI 0)] [] m2 := by
          have hc2 : m.1 41 0 0 (b + 14 + 2 * t.length + 1) = nI q.2 := hcell.2
          rw [l_X12_winters_4]
          simp (disch := omega) only [jg_lit, jg_litL, jg_m1, jg_m1L, nI_add, lN_add, pk_mul, jg_sub, jg_subM, jg_addM, jg_addM', jg_negM, jt_in, jt_ix, jt_bi, jt_bl, jt_bv, jt_lt, jg_dT, jg_dF, jt_c, jt_cd, ru_I, ru_L, jg_leI, jg_ltI, jg_eqI, jg_M1, jg_M2, jg_M3, jg_M4, jg_M5, jg_M6, jg_ltT, jg_ltF, jg_leT, jg_leF, jg_eqT, jg_eqF, cond_true, cond_false, ne_eq, not_true_eq_false, not_false_eq_true, decide_true, decide_false, if_true, if_false, and_true, true_and, and_false, false_and, or_true, true_or, or_false, false_or, Nat.reduceEqDiff, reduceIte, Nat.reduceMul, Nat.reduceAdd, Nat.reduceSub, Nat.add_zero, Nat.zero_add, Nat.mul_zero, eq_self_iff_true, jg_not_lt, jg_not_le, h1, ro, a0, a12', a13, Nat.add_sub_cancel, hc2]
          rw [u1, l_X12_winters_105]
          simp (disch := omega) only [jg_lit, jg_litL, jg_m1, jg_m1L, nI_add, lN_add, pk_mul, jg_sub, jg_subM, jg_addM, jg_addM', jg_negM, jt_in, jt_ix, jt_bi, jt_bl, jt_bv, jt_lt, jg_dT, jg_dF, jt_c, jt_cd, ru_I, ru_L, jg_leI, jg_ltI, jg_eqI, jg_M1, jg_M2, jg_M3, jg_M4, jg_M5, jg_M6, jg_ltT, jg_ltF, jg_leT, jg_leF, jg_eqT, jg_eqF, cond_true, cond_false, ne_eq, not_true_eq_false, not_false_eq_true, decide_true, decide_false, if_true, if_false, and_true, true_and, and_false, false_and, or_true, true_or, or_false, false_or, Nat.reduceEqDiff, reduceIte, Nat.reduceMul, Nat.reduceAdd, Nat.reduceSub, Nat.add_zero, Nat.zero_add, Nat.mul_zero, eq_self_iff_true, jg_not_lt, jg_not_le, lc1, b1]
          rw [hm2]
        have oth : ∀ o, o < ws.length → o ≠ j → mR (wL (gw ws o)) (s + 10 + 40 * o) m2 := fun o ho1 ho2 => mR_cp (h.2.2.2.2 o ho1).1 (fun k hk => f2 _ (by omega))
        have len2 : m2.1 41 0 0 (s + 1) = nI ws.length := by rw [f2 _ (by omega)]; exact h1
        have ok' : okL ((wL (gw ws j)).take q.2 ++ [q.1] ++ (wL (gw ws j)).drop q.2) := by have := obk.1.1; rw [hbk] at this; exact this
        have ne' : (wL (gw ws j)).take q.2 ++ [q.1] ++ (wL (gw ws j)).drop q.2 ≠ [] := fun z => by
          have := congrArg List.length z
          rw [ins_len hq2] at this
          simp at this
        have al := sm_alk_loop hw hs hj ok' ne' len2 (by rw [hb]; exact R2) oth (nI v) (.inl (nI (b + 14 + 2 * t.length))) (nI q.2) (d + 1) ws.length 0 false (by omega)
        rw [hb, Bool.false_or, bI_F] at al
        rw [to180, al]
        have hal : wL (wBack (gw ws j)) = (wL (gw ws j)).take q.2 ++ [q.1] ++ (wL (gw ws j)).drop q.2 := by rw [hbk]
        have w2 : mW ((wL (gw ws j)).take q.2 ++ [q.1] ++ (wL (gw ws j)).drop q.2, wM (gw ws j), wS (gw ws j), wT (gw ws j), wC (gw ws j), wX (gw ws j), wF (gw ws j)) b m2 := mW_let hwj (by omega) R2 (fun k h1 h2 => f2 _ (by omega))
        cases ha : alk ws ((wL (gw ws j)).take q.2 ++ [q.1] ++ (wL (gw ws j)).drop q.2) (some j) ws.length 0 with
        | none =>
          have hB : winB ws j = true := by unfold winB; exact jt_dt ⟨⟨c1, c2, c3⟩, by rw [hal]; exact ha⟩
          rw [if_pos hB]
          rw [hx] at w2
          have w3 := mW_pop w2 (by omega)
          rw [← hbk] at w3
          have c13 : m2.1 41 0 0 (b + 13) = nI (t.length + 1) := by rw [f2 _ (by omega)]; exact a13
          obtain ⟨m', y4, y5, y6, y7, y8, e1, e2, e3⟩ := sm_win_loop (V := V) hs d r (j + 1) (ws.set j (wBack (gw ws j))) (v ||| 2 ^ j) (.inl (nI b)) (.inl (nI (b + 14 + 2 * t.length))) (.inl (nI q.2)) (.inl (nI 0)) (.inl (nI ws.length)) (jm_sI m2 41 0 0 (b + 13) (nI t.length)) (by rw [List.length_set]; omega) (by rw [List.length_set]; exact hl) (okWs_win hw hj hB) (mV_set (V := vlSet V ws) h h12 hw.2.1 hj (by rw [hb]; exact w3) (fun c hc => by rw [rd_II, if_neg (by omega)]; exact f2 c (by omega)))
          refine ⟨m', y4, y5, y6, y7, y8, ?_, e2, (fr_sI fr2 (Or.inl ⟨rfl, by omega, by omega⟩)).tr e3⟩
          rw [Option.isSome_none, bI_F, l_X12_winters_180]
          simp (disch := omega) only [jg_lit, jg_litL, jg_m1, jg_m1L, nI_add, lN_add, pk_mul, jg_sub, jg_subM, jg_addM, jg_addM', jg_negM, jt_in, jt_ix, jt_bi, jt_bl, jt_bv, jt_lt, jg_dT, jg_dF, jt_c, jt_cd, ru_I, ru_L, jg_leI, jg_ltI, jg_eqI, jg_M1, jg_M2, jg_M3, jg_M4, jg_M5, jg_M6, jg_ltT, jg_ltF, jg_leT, jg_leF, jg_eqT, jg_eqF, cond_true, cond_false, ne_eq, not_true_eq_false, not_false_eq_true, decide_true, decide_false, if_true, if_false, and_true, true_and, and_false, false_and, or_true, true_or, or_false, false_or, Nat.reduceEqDiff, reduceIte, Nat.reduceMul, Nat.reduceAdd, Nat.reduceSub, Nat.add_zero, Nat.zero_add, Nat.mul_zero, eq_self_iff_true, jg_not_lt, jg_not_le, len2, c13, Nat.add_sub_cancel, shl_n, fb_orI]
          exact e1
        | some o =>
          have hB : ¬ winB ws j = true := by unfold winB; rw [jt_df (fun z => by have z2 := z.2; rw [hal, ha] at z2; cases z2)]; exact Bool.false_ne_true
          rw [if_neg hB]
          have b2 : m2.1 41 0 0 b = nI ((wL (gw ws j)).length + 1) := by have := R2.2.1; rw [ins_len hq2] at this; exact this
          have cells : ∀ k, k < (wL (gw ws j)).length + 1 → m2.1 41 0 0 (b + 1 + k) = nI (if k < q.2 then (wL (gw ws j)).getD k 0 else if k = q.2 then q.1 else (wL (gw ws j)).getD (k - 1) 0) := fun k hk => by
            have := R2.2.2 k (by rw [ins_len hq2]; exact hk)
            rw [ins_get hq2] at this
            exact this
          obtain ⟨m3, d1, d2, d3⟩ := sm_down_loop (ls := wL (gw ws j)) (b := b) (p := q.2) (by omega) (by omega) s (nI v) (nI j) (.inl (nI (b + 14 + 2 * t.length))) (.inl (nI q.2)) (.inl (nI 1)) (d + 2) ((wL (gw ws j)).length - q.2) q.2 (jm_sI m2 41 0 0 b (nI (wL (gw ws j)).length)) (by omega) (by simp (disch := omega) only [jg_lit, jg_litL, jg_m1, jg_m1L, nI_add, lN_add, pk_mul, jg_sub, jg_subM, jg_addM, jg_addM', jg_negM, jt_in, jt_ix, jt_bi, jt_bl, jt_bv, jt_lt, jg_dT, jg_dF, jt_c, jt_cd, ru_I, ru_L, jg_leI, jg_ltI, jg_eqI, jg_M1, jg_M2, jg_M3, jg_M4, jg_M5, jg_M6, jg_ltT, jg_ltF, jg_leT, jg_leF, jg_eqT, jg_eqF, cond_true, cond_false, ne_eq, not_true_eq_false, not_false_eq_true, decide_true, decide_false, if_true, if_false, and_true, true_and, and_false, false_and, or_true, true_or, or_false, false_or, Nat.reduceEqDiff, reduceIte, Nat.reduceMul, Nat.reduceAdd, Nat.reduceSub, Nat.add_zero, Nat.zero_add, Nat.mul_zero, eq_self_iff_true, jg_not_lt, jg_not_le]) (fun k hk => by
            rw [rd_II, if_neg (by omega), cells k (by omega), if_pos hk]) (fun k hk1 hk2 => by
            rw [rd_II, if_neg (by omega), cells (k + 1) (by omega), if_neg (by omega), if_neg (by omega)]
            rfl)
          have f3 : ∀ c, c < b ∨ b + 9 ≤ c → m3.1 41 0 0 c = m.1 41 0 0 c := fun c hc => by
            rw [(d3 41 0 0 c (fun z => by unfold PA at z; omega)).1, rd_II, if_neg (by omega)]
            exact f2 c hc
          have w3 := mW_let hwj (by omega) d2 (fun k h1 h2 => f3 _ (by omega))
          have hset : ws.set j (gw ws j) = ws := by
            apply List.ext_getElem?
            intro q
            by_cases e : q = j
            · subst e
              rw [List.getElem?_set_self hj]
              unfold gw
              simp [List.getD, List.getElem?_eq_getElem hj]
            · rw [List.getElem?_set_ne (fun z => e z.symm)]
          have v3 : mV (vlSet V ws) s m3 := by
            have := mV_set (V := vlSet V ws) (k := j) (w := gw ws j) (μ' := m3) h h12 hw.2.1 hj (by rw [hb]; exact w3) (fun c hc => f3 c (by omega))
            have e9 : vlSet (vlSet V ws) ((vlW (vlSet V ws)).set j (gw ws j)) = vlSet V ws := by
              show vlSet V (ws.set j (gw ws j)) = _
              rw [hset]
            rw [e9] at this
            exact this
          obtain ⟨m', y4, y5, y6, y7, y8, e1, e2, e3⟩ := sm_win_loop (V := V) hs d r (j + 1) ws v (.inl (nI b)) (.inl (nI (b + 14 + 2 * t.length))) (.inl (nI q.2)) (.inl (nI 1)) (.inl (nI (wL (gw ws j)).length)) m3 (by omega) hl hw v3
          refine ⟨m', y4, y5, y6, y7, y8, ?_, e2, ((fr_sI fr2 (Or.inl ⟨rfl, by omega, by omega⟩)).tr (fr_PAS (by omega) (by omega) d3)).tr e3⟩
          rw [Option.isSome_some, bI_T, l_X12_winters_180]
          simp (disch := omega) only [jg_lit, jg_litL, jg_m1, jg_m1L, nI_add, lN_add, pk_mul, jg_sub, jg_subM, jg_addM, jg_addM', jg_negM, jt_in, jt_ix, jt_bi, jt_bl, jt_bv, jt_lt, jg_dT, jg_dF, jt_c, jt_cd, ru_I, ru_L, jg_leI, jg_ltI, jg_eqI, jg_M1, jg_M2, jg_M3, jg_M4, jg_M5, jg_M6, jg_ltT, jg_ltF, jg_leT, jg_leF, jg_eqT, jg_eqF, cond_true, cond_false, ne_eq, not_true_eq_false, not_false_eq_true, decide_true, decide_false, if_true, if_false, and_true, true_and, and_false, false_and, or_true, true_or, or_false, false_or, Nat.reduceEqDiff, reduceIte, Nat.reduceMul, Nat.reduceAdd, Nat.reduceSub, Nat.add_zero, Nat.zero_add, Nat.mul_zero, eq_self_iff_true, jg_not_lt, jg_not_le, len2, b2, Nat.add_sub_cancel]
          rw [d1, nI_1]
          exact e1
    · have hB : ¬ winB ws j = true := by unfold winB; rw [jt_df (fun z => hcan z.1)]; exact Bool.false_ne_true
      rw [if_neg hB]
      obtain ⟨m', y4, y5, y6, y7, y8, e1, e2, e3⟩ := sm_win_loop (V := V) hs d r (j + 1) ws v (.inl (nI b)) z5 z6 z7 z8 m (by omega) hl hw h
      refine ⟨m', y4, y5, y6, y7, y8, ?_, e2, e3⟩
      rw [l_X12_winters_4]
      by_cases c1 : wL (gw ws j) = []
      · rw [c1] at a0
        simp (disch := omega) only [jg_lit, jg_litL, jg_m1, jg_m1L, nI_add, lN_add, pk_mul, jg_sub, jg_subM, jg_addM, jg_addM', jg_negM, jt_in, jt_ix, jt_bi, jt_bl, jt_bv, jt_lt, jg_dT, jg_dF, jt_c, jt_cd, ru_I, ru_L, jg_leI, jg_ltI, jg_eqI, jg_M1, jg_M2, jg_M3, jg_M4, jg_M5, jg_M6, jg_ltT, jg_ltF, jg_leT, jg_leF, jg_eqT, jg_eqF, cond_true, cond_false, ne_eq, not_true_eq_false, not_false_eq_true, decide_true, decide_false, if_true, if_false, and_true, true_and, and_false, false_and, or_true, true_or, or_false, false_or, Nat.reduceEqDiff, reduceIte, Nat.reduceMul, Nat.reduceAdd, Nat.reduceSub, Nat.add_zero, Nat.zero_add, Nat.mul_zero, eq_self_iff_true, jg_not_lt, jg_not_le, h1, ro, a0, List.length_nil]
        exact e1
      · have hlp : 0 < (wL (gw ws j)).length := List.length_pos_iff.mpr c1
        cases c3 : wC (gw ws j) with
        | true =>
          rw [c3] at a12
          have a12' : m.1 41 0 0 (b + 12) = nI 1 := a12
          simp (disch := omega) only [jg_lit, jg_litL, jg_m1, jg_m1L, nI_add, lN_add, pk_mul, jg_sub, jg_subM, jg_addM, jg_addM', jg_negM, jt_in, jt_ix, jt_bi, jt_bl, jt_bv, jt_lt, jg_dT, jg_dF, jt_c, jt_cd, ru_I, ru_L, jg_leI, jg_ltI, jg_eqI, jg_M1, jg_M2, jg_M3, jg_M4, jg_M5, jg_M6, jg_ltT, jg_ltF, jg_leT, jg_leF, jg_eqT, jg_eqF, cond_true, cond_false, ne_eq, not_true_eq_false, not_false_eq_true, decide_true, decide_false, if_true, if_false, and_true, true_and, and_false, false_and, or_true, true_or, or_false, false_or, Nat.reduceEqDiff, reduceIte, Nat.reduceMul, Nat.reduceAdd, Nat.reduceSub, Nat.add_zero, Nat.zero_add, Nat.mul_zero, eq_self_iff_true, jg_not_lt, jg_not_le, h1, ro, a0, a12']
          exact e1
        | false =>
          have c2 : wX (gw ws j) = [] := by
            by_cases z : wX (gw ws j) = []
            · exact z
            · exact absurd ⟨c1, z, c3⟩ hcan
          rw [c3] at a12
          have a12' : m.1 41 0 0 (b + 12) = nI 0 := a12
          rw [c2] at a13
          simp (disch := omega) only [jg_lit, jg_litL, jg_m1, jg_m1L, nI_add, lN_add, pk_mul, jg_sub, jg_subM, jg_addM, jg_addM', jg_negM, jt_in, jt_ix, jt_bi, jt_bl, jt_bv, jt_lt, jg_dT, jg_dF, jt_c, jt_cd, ru_I, ru_L, jg_leI, jg_ltI, jg_eqI, jg_M1, jg_M2, jg_M3, jg_M4, jg_M5, jg_M6, jg_ltT, jg_ltF, jg_leT, jg_leF, jg_eqT, jg_eqF, cond_true, cond_false, ne_eq, not_true_eq_false, not_false_eq_true, decide_true, decide_false, if_true, if_false, and_true, true_and, and_false, false_and, or_true, true_or, or_false, false_or, Nat.reduceEqDiff, reduceIte, Nat.reduceMul, Nat.reduceAdd, Nat.reduceSub, Nat.add_zero, Nat.zero_add, Nat.mul_zero, eq_self_iff_true, jg_not_lt, jg_not_le, h1, ro, a0, a12', a13, List.length_nil]
          exact e1
theorem mW_C0 {w : Wd} {b : Nat} {m : jm_M} (h : mW w b m) (hX : (wX w).length ≤ 8) : mW (wC0 w) b (jm_sI m 41 0 0 (b + 12) 0) := by
  obtain ⟨h1, h2, h3, h4, h5, h6, h7, h8⟩ := h
  refine ⟨mR_cp h1 (fun k hk => ?_), ?_, ?_, ?_, ?_, ?_, fun k hk => ⟨?_, ?_⟩, mR_cp h8 (fun k hk => ?_)⟩
  · simp (disch := omega) only [jg_lit, jg_litL, jg_m1, jg_m1L, nI_add, lN_add, pk_mul, jg_sub, jg_subM, jg_addM, jg_addM', jg_negM, jt_in, jt_ix, jt_bi, jt_bl, jt_bv, jt_lt, jg_dT, jg_dF, jt_c, jt_cd, ru_I, ru_L, jg_leI, jg_ltI, jg_eqI, jg_M1, jg_M2, jg_M3, jg_M4, jg_M5, jg_M6, jg_ltT, jg_ltF, jg_leT, jg_leF, jg_eqT, jg_eqF, cond_true, cond_false, ne_eq, not_true_eq_false, not_false_eq_true, decide_true, decide_false, if_true, if_false, and_true, true_and, and_false, false_and, or_true, true_or, or_false, false_or, Nat.reduceEqDiff, reduceIte, Nat.reduceMul, Nat.reduceAdd, Nat.reduceSub, Nat.add_zero, Nat.zero_add, Nat.mul_zero, eq_self_iff_true, jg_not_lt, jg_not_le]
  · simp (disch := omega) only [jg_lit, jg_litL, jg_m1, jg_m1L, nI_add, lN_add, pk_mul, jg_sub, jg_subM, jg_addM, jg_addM', jg_negM, jt_in, jt_ix, jt_bi, jt_bl, jt_bv, jt_lt, jg_dT, jg_dF, jt_c, jt_cd, ru_I, ru_L, jg_leI, jg_ltI, jg_eqI, jg_M1, jg_M2, jg_M3, jg_M4, jg_M5, jg_M6, jg_ltT, jg_ltF, jg_leT, jg_leF, jg_eqT, jg_eqF, cond_true, cond_false, ne_eq, not_true_eq_false, not_false_eq_true, decide_true, decide_false, if_true, if_false, and_true, true_and, and_false, false_and, or_true, true_or, or_false, false_or, Nat.reduceEqDiff, reduceIte, Nat.reduceMul, Nat.reduceAdd, Nat.reduceSub, Nat.add_zero, Nat.zero_add, Nat.mul_zero, eq_self_iff_true, jg_not_lt, jg_not_le]; exact h2
  · simp (disch := omega) only [jg_lit, jg_litL, jg_m1, jg_m1L, nI_add, lN_add, pk_mul, jg_sub, jg_subM, jg_addM, jg_addM', jg_negM, jt_in, jt_ix, jt_bi, jt_bl, jt_bv, jt_lt, jg_dT, jg_dF, jt_c, jt_cd, ru_I, ru_L, jg_leI, jg_ltI, jg_eqI, jg_M1, jg_M2, jg_M3, jg_M4, jg_M5, jg_M6, jg_ltT, jg_ltF, jg_leT, jg_leF, jg_eqT, jg_eqF, cond_true, cond_false, ne_eq, not_true_eq_false, not_false_eq_true, decide_true, decide_false, if_true, if_false, and_true, true_and, and_false, false_and, or_true, true_or, or_false, false_or, Nat.reduceEqDiff, reduceIte, Nat.reduceMul, Nat.reduceAdd, Nat.reduceSub, Nat.add_zero, Nat.zero_add, Nat.mul_zero, eq_self_iff_true, jg_not_lt, jg_not_le]; exact h3
  · simp (disch := omega) only [jg_lit, jg_litL, jg_m1, jg_m1L, nI_add, lN_add, pk_mul, jg_sub, jg_subM, jg_addM, jg_addM', jg_negM, jt_in, jt_ix, jt_bi, jt_bl, jt_bv, jt_lt, jg_dT, jg_dF, jt_c, jt_cd, ru_I, ru_L, jg_leI, jg_ltI, jg_eqI, jg_M1, jg_M2, jg_M3, jg_M4, jg_M5, jg_M6, jg_ltT, jg_ltF, jg_leT, jg_leF, jg_eqT, jg_eqF, cond_true, cond_false, ne_eq, not_true_eq_false, not_false_eq_true, decide_true, decide_false, if_true, if_false, and_true, true_and, and_false, false_and, or_true, true_or, or_false, false_or, Nat.reduceEqDiff, reduceIte, Nat.reduceMul, Nat.reduceAdd, Nat.reduceSub, Nat.add_zero, Nat.zero_add, Nat.mul_zero, eq_self_iff_true, jg_not_lt, jg_not_le]; exact h4
  · simp (disch := omega) only [jg_lit, jg_litL, jg_m1, jg_m1L, nI_add, lN_add, pk_mul, jg_sub, jg_subM, jg_addM, jg_addM', jg_negM, jt_in, jt_ix, jt_bi, jt_bl, jt_bv, jt_lt, jg_dT, jg_dF, jt_c, jt_cd, ru_I, ru_L, jg_leI, jg_ltI, jg_eqI, jg_M1, jg_M2, jg_M3, jg_M4, jg_M5, jg_M6, jg_ltT, jg_ltF, jg_leT, jg_leF, jg_eqT, jg_eqF, cond_true, cond_false, ne_eq, not_true_eq_false, not_false_eq_true, decide_true, decide_false, if_true, if_false, and_true, true_and, and_false, false_and, or_true, true_or, or_false, false_or, Nat.reduceEqDiff, reduceIte, Nat.reduceMul, Nat.reduceAdd, Nat.reduceSub, Nat.add_zero, Nat.zero_add, Nat.mul_zero, eq_self_iff_true, jg_not_lt, jg_not_le]; rfl
  · simp (disch := omega) only [jg_lit, jg_litL, jg_m1, jg_m1L, nI_add, lN_add, pk_mul, jg_sub, jg_subM, jg_addM, jg_addM', jg_negM, jt_in, jt_ix, jt_bi, jt_bl, jt_bv, jt_lt, jg_dT, jg_dF, jt_c, jt_cd, ru_I, ru_L, jg_leI, jg_ltI, jg_eqI, jg_M1, jg_M2, jg_M3, jg_M4, jg_M5, jg_M6, jg_ltT, jg_ltF, jg_leT, jg_leF, jg_eqT, jg_eqF, cond_true, cond_false, ne_eq, not_true_eq_false, not_false_eq_true, decide_true, decide_false, if_true, if_false, and_true, true_and, and_false, false_and, or_true, true_or, or_false, false_or, Nat.reduceEqDiff, reduceIte, Nat.reduceMul, Nat.reduceAdd, Nat.reduceSub, Nat.add_zero, Nat.zero_add, Nat.mul_zero, eq_self_iff_true, jg_not_lt, jg_not_le]; exact h6
  · have hk : k < (wX w).length := hk
    simp (disch := omega) only [jg_lit, jg_litL, jg_m1, jg_m1L, nI_add, lN_add, pk_mul, jg_sub, jg_subM, jg_addM, jg_addM', jg_negM, jt_in, jt_ix, jt_bi, jt_bl, jt_bv, jt_lt, jg_dT, jg_dF, jt_c, jt_cd, ru_I, ru_L, jg_leI, jg_ltI, jg_eqI, jg_M1, jg_M2, jg_M3, jg_M4, jg_M5, jg_M6, jg_ltT, jg_ltF, jg_leT, jg_leF, jg_eqT, jg_eqF, cond_true, cond_false, ne_eq, not_true_eq_false, not_false_eq_true, decide_true, decide_false, if_true, if_false, and_true, true_and, and_false, false_and, or_true, true_or, or_false, false_or, Nat.reduceEqDiff, reduceIte, Nat.reduceMul, Nat.reduceAdd, Nat.reduceSub, Nat.add_zero, Nat.zero_add, Nat.mul_zero, eq_self_iff_true, jg_not_lt, jg_not_le]; exact (h7 k hk).1
  · have hk : k < (wX w).length := hk
    simp (disch := omega) only [jg_lit, jg_litL, jg_m1, jg_m1L, nI_add, lN_add, pk_mul, jg_sub, jg_subM, jg_addM, jg_addM', jg_negM, jt_in, jt_ix, jt_bi, jt_bl, jt_bv, jt_lt, jg_dT, jg_dF, jt_c, jt_cd, ru_I, ru_L, jg_leI, jg_ltI, jg_eqI, jg_M1, jg_M2, jg_M3, jg_M4, jg_M5, jg_M6, jg_ltT, jg_ltF, jg_leT, jg_leF, jg_eqT, jg_eqF, cond_true, cond_false, ne_eq, not_true_eq_false, not_false_eq_true, decide_true, decide_false, if_true, if_false, and_true, true_and, and_false, false_and, or_true, true_or, or_false, false_or, Nat.reduceEqDiff, reduceIte, Nat.reduceMul, Nat.reduceAdd, Nat.reduceSub, Nat.add_zero, Nat.zero_add, Nat.mul_zero, eq_self_iff_true, jg_not_lt, jg_not_le]; exact (h7 k hk).2
  · simp (disch := omega) only [jg_lit, jg_litL, jg_m1, jg_m1L, nI_add, lN_add, pk_mul, jg_sub, jg_subM, jg_addM, jg_addM', jg_negM, jt_in, jt_ix, jt_bi, jt_bl, jt_bv, jt_lt, jg_dT, jg_dF, jt_c, jt_cd, ru_I, ru_L, jg_leI, jg_ltI, jg_eqI, jg_M1, jg_M2, jg_M3, jg_M4, jg_M5, jg_M6, jg_ltT, jg_ltF, jg_leT, jg_leF, jg_eqT, jg_eqF, cond_true, cond_false, ne_eq, not_true_eq_false, not_false_eq_true, decide_true, decide_false, if_true, if_false, and_true, true_and, and_false, false_and, or_true, true_or, or_false, false_or, Nat.reduceEqDiff, reduceIte, Nat.reduceMul, Nat.reduceAdd, Nat.reduceSub, Nat.add_zero, Nat.zero_add, Nat.mul_zero, eq_self_iff_true, jg_not_lt, jg_not_le]
theorem sm_clr_loop {V : Vl} {s : Nat} (hs : s + 490 ≤ 8600) {ws : List Wd} (hl : ws.length = (vlW V).length) (hw : okWs ws) (x2 : Int32) (z4 z5 z6 z7 z8 : jm_V) (d : Nat) : ∀ (r j : Nat) (m : jm_M), j + r = ws.length → mV (vlSet V (clr ws j)) s m → ∃ m', jm_ev false (d + 1) 11 1 jc_X12_winters 327 [vM, .inl (nI s), .inl x2, .inl (nI j), z4, z5, z6, z7, z8] [] m = some (.inl x2, m') ∧ mV (vlSet V (clr ws ws.length)) s m' ∧ fr (PS s) m m'
  | 0, j, m, hr, h => by
    have h12 := hw.1
    have h1 : m.1 41 0 0 (s + 1) = nI (clr ws j).length := h.2.1
    rw [clr_len] at h1
    have : j = ws.length := by omega
    subst this
    refine ⟨m, ?_, h, .rf⟩
    rw [l_X12_winters_327]
    simp (disch := omega) only [jg_lit, jg_litL, jg_m1, jg_m1L, nI_add, lN_add, pk_mul, jg_sub, jg_subM, jg_addM, jg_addM', jg_negM, jt_in, jt_ix, jt_bi, jt_bl, jt_bv, jt_lt, jg_dT, jg_dF, jt_c, jt_cd, ru_I, ru_L, jg_leI, jg_ltI, jg_eqI, jg_M1, jg_M2, jg_M3, jg_M4, jg_M5, jg_M6, jg_ltT, jg_ltF, jg_leT, jg_leF, jg_eqT, jg_eqF, cond_true, cond_false, ne_eq, not_true_eq_false, not_false_eq_true, decide_true, decide_false, if_true, if_false, and_true, true_and, and_false, false_and, or_true, true_or, or_false, false_or, Nat.reduceEqDiff, reduceIte, Nat.reduceMul, Nat.reduceAdd, Nat.reduceSub, Nat.add_zero, Nat.zero_add, Nat.mul_zero, eq_self_iff_true, jg_not_lt, jg_not_le, h1]
  | r + 1, j, m, hr, h => by
    have h12 := hw.1
    have h1 : m.1 41 0 0 (s + 1) = nI (clr ws j).length := h.2.1
    rw [clr_len] at h1
    have hj : j < ws.length := by omega
    have hwj : mW (gw ws j) (s + 10 + 40 * j) m := by
      have := h.2.2.2.2 j (by show j < (clr ws j).length; rw [clr_len]; exact hj)
      have e : gw (vlW (vlSet V (clr ws j))) j = gw ws j := by
        show gw (clr ws j) j = _
        rw [clr_gw ws j hj, if_neg (Nat.lt_irrefl _)]
      rw [e] at this
      exact this
    have hX8 := (hw.2.1 j hj).1.2.1
    have wc := mW_C0 hwj (by omega)
    have v1 : mV (vlSet V (clr ws (j + 1))) s (jm_sI m 41 0 0 (s + 10 + 40 * j + 12) 0) := by
      refine mV_mk (V := vlSet V (clr ws j)) h (by show (clr ws (j + 1)).length = (clr ws j).length; rw [clr_len, clr_len]) (fun c hc => by rw [rd_II, if_neg (by omega)]) (fun q hq => ?_)
      rw [clr_len] at hq
      rw [clr_gw _ _ hq]
      by_cases e : q = j
      · rw [if_pos (by omega), e]; exact wc
      · have hq1 := h.2.2.2.2 q (by show q < (clr ws j).length; rw [clr_len]; exact hq)
        have e9 : gw (vlW (vlSet V (clr ws j))) q = if q < j then wC0 (gw ws q) else gw ws q := clr_gw ws j hq
        rw [e9] at hq1
        have : (q < j + 1) = (q < j) := by rw [eq_iff_iff]; omega
        simp only [this]
        have hXq := (hw.2.1 q hq).1.2.1
        exact mW_cp hq1 (by split <;> (show (wX (gw ws q)).length ≤ 8; omega)) (fun k hk => by rw [rd_II, if_neg (by omega)])
    obtain ⟨m', e1, e2, e3⟩ := sm_clr_loop hs hl hw x2 z4 z5 z6 z7 z8 d r (j + 1) _ (by omega) v1
    refine ⟨m', ?_, e2, (fr_I (Or.inl ⟨rfl, by omega, by omega⟩)).tr e3⟩
    have ro := fun m => sm_rowOf d s j m
    rw [l_X12_winters_327]
    simp (disch := omega) only [jg_lit, jg_litL, jg_m1, jg_m1L, nI_add, lN_add, pk_mul, jg_sub, jg_subM, jg_addM, jg_addM', jg_negM, jt_in, jt_ix, jt_bi, jt_bl, jt_bv, jt_lt, jg_dT, jg_dF, jt_c, jt_cd, ru_I, ru_L, jg_leI, jg_ltI, jg_eqI, jg_M1, jg_M2, jg_M3, jg_M4, jg_M5, jg_M6, jg_ltT, jg_ltF, jg_leT, jg_leF, jg_eqT, jg_eqF, cond_true, cond_false, ne_eq, not_true_eq_false, not_false_eq_true, decide_true, decide_false, if_true, if_false, and_true, true_and, and_false, false_and, or_true, true_or, or_false, false_or, Nat.reduceEqDiff, reduceIte, Nat.reduceMul, Nat.reduceAdd, Nat.reduceSub, Nat.add_zero, Nat.zero_add, Nat.mul_zero, eq_self_iff_true, jg_not_lt, jg_not_le, h1, ro]
    exact e1
theorem sm_winters {V : Vl} (ho : okV V) {s : Nat} (hs : s + 490 ≤ 8600) {m : jm_M} (h : mV V s m) (d : Nat) : ∃ m', jm_sem false (d + 3) jn_X12_winters [vM, .inl (nI s)] m = some (.inl (nI (winN V)), m') ∧ mV (vlSet V (winWs V)) s m' ∧ fr (PS s) m m' := by
  obtain ⟨m1, z4, z5, z6, z7, z8, e1, e2, e3⟩ := sm_win_loop (V := V) hs d (vlW V).length 0 (vlW V) 0 jm_j jm_j jm_j jm_j jm_j m (by omega) rfl ho.2.2.2.1 h
  have hw := winF_ok (vlW V).length 0 (vlW V) 0 ho.2.2.2.1 (by omega)
  obtain ⟨m2, b1, b2, b3⟩ := sm_clr_loop (V := V) hs hw.2 hw.1 (nI (winN V)) z4 z5 z6 z7 z8 (d + 1) (winF (vlW V).length 0 (vlW V) 0).1.length 0 m1 (by omega) e2
  refine ⟨m2, ?_, ?_, e3.tr b3⟩
  · rw [e_X12_winters]
    exact e1.trans b1
  · unfold winWs
    rw [hw.2] at b2
    exact b2
theorem c_winter : jcall jn_X11_winter jn_X12_winter [] := by
  intro s μ ho hx hm
  obtain ⟨m1, e1, v1, f1⟩ := sx_giveBack ho.1 hx.1 93
  obtain ⟨n1, b1, b2, b3⟩ := sm_winters ho.1 (s := 0) (by omega) hm.1.1 95
  have hN := winN_lt ho.1
  have bc := bc_pop (winN (aV s)) hN
  have bm := fun m => sm_bits hN 97 m
  refine jcall_V ho hx hm (okV_win ho.1) 0 (v := .inl (nI (popc (winN (aV s))))) v1 (QX_W f1) (mF_say hm.1 ho.1 b2 (winWs_len ho.1) b3) (QM_S0 b3) ?_ ?_
  · rw [e_X11_winter]
    simp (disch := omega) only [jg_lit, jg_litL, jg_m1, jg_m1L, nI_add, lN_add, pk_mul, jg_sub, jg_subM, jg_addM, jg_addM', jg_negM, jt_in, jt_ix, jt_bi, jt_bl, jt_bv, jt_lt, jg_dT, jg_dF, jt_c, jt_cd, ru_I, ru_L, jg_leI, jg_ltI, jg_eqI, jg_M1, jg_M2, jg_M3, jg_M4, jg_M5, jg_M6, jg_ltT, jg_ltF, jg_leT, jg_leF, jg_eqT, jg_eqF, cond_true, cond_false, ne_eq, not_true_eq_false, not_false_eq_true, decide_true, decide_false, if_true, if_false, and_true, true_and, and_false, false_and, or_true, true_or, or_false, false_or, Nat.reduceEqDiff, reduceIte, Nat.reduceMul, Nat.reduceAdd, Nat.reduceSub, Nat.add_zero, Nat.zero_add, Nat.mul_zero, eq_self_iff_true, jg_not_lt, jg_not_le, e1, s_bitCount, bc, sx_give]
  · rw [e_X12_winter]
    have b1' : jm_sem false 98 jn_X12_winters [vM, .inl (nI 0)] μ = some (.inl (nI (winN (aV s))), n1) := b1
    simp (disch := omega) only [jg_lit, jg_litL, jg_m1, jg_m1L, nI_add, lN_add, pk_mul, jg_sub, jg_subM, jg_addM, jg_addM', jg_negM, jt_in, jt_ix, jt_bi, jt_bl, jt_bv, jt_lt, jg_dT, jg_dF, jt_c, jt_cd, ru_I, ru_L, jg_leI, jg_ltI, jg_eqI, jg_M1, jg_M2, jg_M3, jg_M4, jg_M5, jg_M6, jg_ltT, jg_ltF, jg_leT, jg_leF, jg_eqT, jg_eqF, cond_true, cond_false, ne_eq, not_true_eq_false, not_false_eq_true, decide_true, decide_false, if_true, if_false, and_true, true_and, and_false, false_and, or_true, true_or, or_false, false_or, Nat.reduceEqDiff, reduceIte, Nat.reduceMul, Nat.reduceAdd, Nat.reduceSub, Nat.add_zero, Nat.zero_add, Nat.mul_zero, eq_self_iff_true, jg_not_lt, jg_not_le, b1', bm, sm_gives]
theorem c_wintry : jcall jn_X11_wintry jn_X12_wintry [] := by
  intro s μ ho hx hm
  have h12 := ho.1.2.2.2.1.1
  obtain ⟨m1, c1, c2, c3⟩ := sx_copyV (i := 1) hx.1 ho.1 (by decide) 96
  obtain ⟨m2, e2, v2, f2⟩ := sx_giveBack ho.1 c2 93
  have v1 : xV (aV s) 0 m2 := xV_fr (xV_fr hx.1 h12 c3 (fun K j q _ _ z => absurd z.1 (by decide))) h12 f2 (fun K j q _ _ z => absurd z.2.1 (by decide))
  obtain ⟨n1, l1, l2, -, l3⟩ := sm_laysV (b := 3850) hm.1.1 ho.1.2.2.2.1 (by omega) (by omega) (by omega) 97
  have F1 := mF_P hm.1 ho.1 l3 (fun k hk z => by unfold PA at z; omega) (fun k hk z => by unfold PA at z; omega)
  obtain ⟨n2, b1, b2, b3⟩ := sm_winters ho.1 (s := 3850) (by omega) l2 95
  have F2 := mF_P F1 ho.1 b3 (fun k hk z => by unfold PS at z; omega) (fun k hk z => by unfold PS at z; omega)
  refine jcall_V ho hx hm ho.1 0 (v := .inl (nI (winN (aV s)))) v1 ((QX_V1 c3).tr (QX_W1 f2)) F2 ((l3.wk (fun K i j q z => by unfold QM SM; unfold PA at z; omega)).tr (b3.wk (fun K i j q z => by unfold QM SM; unfold PS at z; omega))) ?_ ?_
  · rw [e_X11_wintry]
    simp (disch := omega) only [jg_lit, jg_litL, jg_m1, jg_m1L, nI_add, lN_add, pk_mul, jg_sub, jg_subM, jg_addM, jg_addM', jg_negM, jt_in, jt_ix, jt_bi, jt_bl, jt_bv, jt_lt, jg_dT, jg_dF, jt_c, jt_cd, ru_I, ru_L, jg_leI, jg_ltI, jg_eqI, jg_M1, jg_M2, jg_M3, jg_M4, jg_M5, jg_M6, jg_ltT, jg_ltF, jg_leT, jg_leF, jg_eqT, jg_eqF, cond_true, cond_false, ne_eq, not_true_eq_false, not_false_eq_true, decide_true, decide_false, if_true, if_false, and_true, true_and, and_false, false_and, or_true, true_or, or_false, false_or, Nat.reduceEqDiff, reduceIte, Nat.reduceMul, Nat.reduceAdd, Nat.reduceSub, Nat.add_zero, Nat.zero_add, Nat.mul_zero, eq_self_iff_true, jg_not_lt, jg_not_le, c1, e2, sx_give]
  · rw [e_X12_wintry]
    have l1' : jm_sem false 98 jn_X12_lays [vM, .inl (nI 0), .inl (nI 3850)] μ = some (jm_j, n1) := l1
    have b1' : jm_sem false 98 jn_X12_winters [vM, .inl (nI 3850)] n1 = some (.inl (nI (winN (aV s))), n2) := b1
    simp (disch := omega) only [jg_lit, jg_litL, jg_m1, jg_m1L, nI_add, lN_add, pk_mul, jg_sub, jg_subM, jg_addM, jg_addM', jg_negM, jt_in, jt_ix, jt_bi, jt_bl, jt_bv, jt_lt, jg_dT, jg_dF, jt_c, jt_cd, ru_I, ru_L, jg_leI, jg_ltI, jg_eqI, jg_M1, jg_M2, jg_M3, jg_M4, jg_M5, jg_M6, jg_ltT, jg_ltF, jg_leT, jg_leF, jg_eqT, jg_eqF, cond_true, cond_false, ne_eq, not_true_eq_false, not_false_eq_true, decide_true, decide_false, if_true, if_false, and_true, true_and, and_false, false_and, or_true, true_or, or_false, false_or, Nat.reduceEqDiff, reduceIte, Nat.reduceMul, Nat.reduceAdd, Nat.reduceSub, Nat.add_zero, Nat.zero_add, Nat.mul_zero, eq_self_iff_true, jg_not_lt, jg_not_le, l1', b1', sm_gives]
