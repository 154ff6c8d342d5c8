/-! ===== a word cut from two ===== -/
def cutL (a : List Nat) (i : Nat) (b : List Nat) (j : Nat) : List Nat := a.take i ++ endL b j
theorem endL_length {ls : List Nat} {n : Nat} (h : n ≤ ls.length) : (endL ls n).length = n := by unfold endL; rw [List.length_drop]; omega
theorem cutL_length {a b : List Nat} {i j : Nat} (hi : i ≤ a.length) (hj : j ≤ b.length) : (cutL a i b j).length = i + j := by unfold cutL; rw [List.length_append, List.length_take, endL_length hj]; omega
theorem cutL_ok {a b : List Nat} (ha : okL a) (hb : okL b) (i j : Nat) : okL (cutL a i b j) := okL_app (okL_sub (fun _ hc => List.mem_of_mem_take hc) ha) (endL_ok hb j)
theorem cutL_26 {a b : List Nat} (ha : ∀ c ∈ a, c ≤ 26) (hb : ∀ c ∈ b, c ≤ 26) (i j : Nat) : ∀ c ∈ cutL a i b j, c ≤ 26 := fun c hc => by
  rcases List.mem_append.mp hc with h | h
  · exact ha c (List.mem_of_mem_take h)
  · exact hb c (List.mem_of_mem_drop h)
def cutW (ws : List Wd) (a i b j : Nat) : List Nat := cutL (wL (gw ws a)) i (wL (gw ws b)) j
def cutB (ws : List Wd) (a i b j : Nat) : Bool := decide (i ≤ (wL (gw ws a)).length ∧ j ≤ (wL (gw ws b)).length ∧ i + j ≤ 8 ∧ alk ws (cutW ws a i b j) none ws.length 0 = none)
theorem cutB_T {ws : List Wd} {a i b j : Nat} (h : cutB ws a i b j = true) : i ≤ (wL (gw ws a)).length ∧ j ≤ (wL (gw ws b)).length ∧ i + j ≤ 8 ∧ alk ws (cutW ws a i b j) none ws.length 0 = none := of_decide_eq_true h
theorem sx_cutForm {V : Vl} {m : jm_M} (h : xV V 0 m) (ho : okWs (vlW V)) {a b i j : Nat} (ha : a < (vlW V).length) (hb : b < (vlW V).length) (hi : i ≤ (wL (gw (vlW V) a)).length) (hj : j ≤ (wL (gw (vlW V) b)).length) (d : Nat) : jm_sem false (d + 2) jn_X8_cutForm [.inr (.inr (.inl (10, 0, 0))), .inl (nI a), .inl (nI i), .inl (nI b), .inl (nI j)] m = some (.inr (.inl (lN (enc (cutW (vlW V) a i b j)))), m) := by
  have h12 := ho.1
  have oa := ho.2.1 a ha
  have ob := ho.2.1 b hb
  have a8 := okW_8 oa.1
  have b8 := okW_8 ob.1
  have x0 := (h.2 a ha).1
  have x1 := (h.2 a ha).2.1
  have y0 := (h.2 b hb).1
  have f1 := sx_firstOf oa.1.1 a8 hi d m
  have f2 : jm_sem false (d + 1) jn_X4_lastOf [.inr (.inl (lN (enc (wL (gw (vlW V) b))))), .inl (nI j)] m = some (.inr (.inl (lN (enc (endL (wL (gw (vlW V) b)) j)))), m) := sx_lastOf ob.1.1 b8 hj d m
  have f3 := sx_join (a := (wL (gw (vlW V) a)).take i) (endL_ok ob.1.1 j) (by rw [endL_length hj]; omega) d m
  rw [endL_length hj] at f3
  rw [e_X8_cutForm]
  simp (disch := omega) only [jg_lit, jg_litL, jg_m1, jg_m1L, nI_add, lN_add, pk_mul, jg_sub, jg_subM, jg_addM, jg_addM', jg_negM, jt_in, jt_ix, jt_bi, jt_bl, jt_bv, jt_lt, jg_dT, jg_dF, jt_c, jt_cd, ru_I, ru_L, jg_leI, jg_ltI, jg_eqI, jg_M1, jg_M2, jg_M3, jg_M4, jg_M5, jg_M6, jg_ltT, jg_ltF, jg_leT, jg_leF, jg_eqT, jg_eqF, cond_true, cond_false, ne_eq, not_true_eq_false, not_false_eq_true, decide_true, decide_false, if_true, if_false, and_true, true_and, and_false, false_and, or_true, true_or, or_false, false_or, Nat.reduceEqDiff, reduceIte, Nat.reduceMul, Nat.reduceAdd, Nat.reduceSub, Nat.add_zero, Nat.zero_add, Nat.mul_zero, eq_self_iff_true, jg_not_lt, jg_not_le, x0, x1, y0, f1, f2, f3, Bool.and_true]
  rfl
theorem sx_canCut {V : Vl} {m : jm_M} (h : xV V 0 m) (ho : okWs (vlW V)) {a b i j : Nat} (ha : a < (vlW V).length) (hb : b < (vlW V).length) (hi : i < 2 ^ 31) (hj : j < 2 ^ 31) (d : Nat) : jm_sem false (d + 3) jn_X8_canCut [.inr (.inr (.inl (10, 0, 0))), .inl (nI a), .inl (nI i), .inl (nI b), .inl (nI j)] m = some (.inl (bI (cutB (vlW V) a i b j)), m) := by
  have h12 := ho.1
  have oa := ho.2.1 a ha
  have ob := ho.2.1 b hb
  have a8 := okW_8 oa.1
  have b8 := okW_8 ob.1
  have x1 := (h.2 a ha).2.1
  have y1 := (h.2 b hb).2.1
  rw [e_X8_canCut]
  by_cases c1 : i ≤ (wL (gw (vlW V) a)).length
  · by_cases c2 : j ≤ (wL (gw (vlW V) b)).length
    · by_cases c3 : i + j ≤ 8
      · have f := sx_cutForm h ho ha hb c1 c2 d
        have hl : (cutW (vlW V) a i b j).length ≤ 8 := by unfold cutW; rw [cutL_length c1 c2]; exact c3
        have al := sx_alikeTo h ho (cutL_ok oa.1.1 ob.1.1 i j) hl (but := none) (fun q hq => by cases hq) d
        have al' : jm_sem false (d + 2) jn_X8_alikeTo [.inr (.inr (.inl (10, 0, 0))), .inr (.inl (lN (enc (cutW (vlW V) a i b j)))), .inl jM] m = some (.inl (jpl (alk (vlW V) (cutW (vlW V) a i b j) none (vlW V).length 0)), m) := al
        cases hk : alk (vlW V) (cutW (vlW V) a i b j) none (vlW V).length 0 with
        | none =>
          rw [show cutB (vlW V) a i b j = true from decide_eq_true ⟨c1, c2, c3, hk⟩]
          rw [hk] at al'
          have al2 : jm_sem false (d + 2) jn_X8_alikeTo [.inr (.inr (.inl (10, 0, 0))), .inr (.inl (lN (enc (cutW (vlW V) a i b j)))), .inl jM] m = some (.inl jM, m) := al'
          simp (disch := omega) only [jg_lit, jg_litL, jg_m1, jg_m1L, nI_add, lN_add, pk_mul, jg_sub, jg_subM, jg_addM, jg_addM', jg_negM, jt_in, jt_ix, jt_bi, jt_bl, jt_bv, jt_lt, jg_dT, jg_dF, jt_c, jt_cd, ru_I, ru_L, jg_leI, jg_ltI, jg_eqI, jg_M1, jg_M2, jg_M3, jg_M4, jg_M5, jg_M6, jg_ltT, jg_ltF, jg_leT, jg_leF, jg_eqT, jg_eqF, cond_true, cond_false, ne_eq, not_true_eq_false, not_false_eq_true, decide_true, decide_false, if_true, if_false, and_true, true_and, and_false, false_and, or_true, true_or, or_false, false_or, Nat.reduceEqDiff, reduceIte, Nat.reduceMul, Nat.reduceAdd, Nat.reduceSub, Nat.add_zero, Nat.zero_add, Nat.mul_zero, eq_self_iff_true, jg_not_lt, jg_not_le, x1, y1, f, al2, Bool.and_true, bI_T]
        | some o =>
          have hlt := alk_some _ _ hk
          rw [show cutB (vlW V) a i b j = false from decide_eq_false (fun z => by rw [z.2.2.2] at hk; cases hk)]
          rw [hk] at al'
          have al2 : jm_sem false (d + 2) jn_X8_alikeTo [.inr (.inr (.inl (10, 0, 0))), .inr (.inl (lN (enc (cutW (vlW V) a i b j)))), .inl jM] m = some (.inl (nI o), m) := al'
          simp (disch := omega) only [jg_lit, jg_litL, jg_m1, jg_m1L, nI_add, lN_add, pk_mul, jg_sub, jg_subM, jg_addM, jg_addM', jg_negM, jt_in, jt_ix, jt_bi, jt_bl, jt_bv, jt_lt, jg_dT, jg_dF, jt_c, jt_cd, ru_I, ru_L, jg_leI, jg_ltI, jg_eqI, jg_M1, jg_M2, jg_M3, jg_M4, jg_M5, jg_M6, jg_ltT, jg_ltF, jg_leT, jg_leF, jg_eqT, jg_eqF, cond_true, cond_false, ne_eq, not_true_eq_false, not_false_eq_true, decide_true, decide_false, if_true, if_false, and_true, true_and, and_false, false_and, or_true, true_or, or_false, false_or, Nat.reduceEqDiff, reduceIte, Nat.reduceMul, Nat.reduceAdd, Nat.reduceSub, Nat.add_zero, Nat.zero_add, Nat.mul_zero, eq_self_iff_true, jg_not_lt, jg_not_le, x1, y1, f, al2, Bool.and_true, bI_F]
      · rw [show cutB (vlW V) a i b j = false from decide_eq_false (fun z => c3 z.2.2.1)]
        simp (disch := omega) only [jg_lit, jg_litL, jg_m1, jg_m1L, nI_add, lN_add, pk_mul, jg_sub, jg_subM, jg_addM, jg_addM', jg_negM, jt_in, jt_ix, jt_bi, jt_bl, jt_bv, jt_lt, jg_dT, jg_dF, jt_c, jt_cd, ru_I, ru_L, jg_leI, jg_ltI, jg_eqI, jg_M1, jg_M2, jg_M3, jg_M4, jg_M5, jg_M6, jg_ltT, jg_ltF, jg_leT, jg_leF, jg_eqT, jg_eqF, cond_true, cond_false, ne_eq, not_true_eq_false, not_false_eq_true, decide_true, decide_false, if_true, if_false, and_true, true_and, and_false, false_and, or_true, true_or, or_false, false_or, Nat.reduceEqDiff, reduceIte, Nat.reduceMul, Nat.reduceAdd, Nat.reduceSub, Nat.add_zero, Nat.zero_add, Nat.mul_zero, eq_self_iff_true, jg_not_lt, jg_not_le, x1, y1, Bool.and_true, bI_F]
    · rw [show cutB (vlW V) a i b j = false from decide_eq_false (fun z => c2 z.2.1)]
      simp (disch := omega) only [jg_lit, jg_litL, jg_m1, jg_m1L, nI_add, lN_add, pk_mul, jg_sub, jg_subM, jg_addM, jg_addM', jg_negM, jt_in, jt_ix, jt_bi, jt_bl, jt_bv, jt_lt, jg_dT, jg_dF, jt_c, jt_cd, ru_I, ru_L, jg_leI, jg_ltI, jg_eqI, jg_M1, jg_M2, jg_M3, jg_M4, jg_M5, jg_M6, jg_ltT, jg_ltF, jg_leT, jg_leF, jg_eqT, jg_eqF, cond_true, cond_false, ne_eq, not_true_eq_false, not_false_eq_true, decide_true, decide_false, if_true, if_false, and_true, true_and, and_false, false_and, or_true, true_or, or_false, false_or, Nat.reduceEqDiff, reduceIte, Nat.reduceMul, Nat.reduceAdd, Nat.reduceSub, Nat.add_zero, Nat.zero_add, Nat.mul_zero, eq_self_iff_true, jg_not_lt, jg_not_le, x1, y1, Bool.and_true, bI_F]
  · rw [show cutB (vlW V) a i b j = false from decide_eq_false (fun z => c1 z.1)]
    simp (disch := omega) only [jg_lit, jg_litL, jg_m1, jg_m1L, nI_add, lN_add, pk_mul, jg_sub, jg_subM, jg_addM, jg_addM', jg_negM, jt_in, jt_ix, jt_bi, jt_bl, jt_bv, jt_lt, jg_dT, jg_dF, jt_c, jt_cd, ru_I, ru_L, jg_leI, jg_ltI, jg_eqI, jg_M1, jg_M2, jg_M3, jg_M4, jg_M5, jg_M6, jg_ltT, jg_ltF, jg_leT, jg_leF, jg_eqT, jg_eqF, cond_true, cond_false, ne_eq, not_true_eq_false, not_false_eq_true, decide_true, decide_false, if_true, if_false, and_true, true_and, and_false, false_and, or_true, true_or, or_false, false_or, Nat.reduceEqDiff, reduceIte, Nat.reduceMul, Nat.reduceAdd, Nat.reduceSub, Nat.add_zero, Nat.zero_add, Nat.mul_zero, eq_self_iff_true, jg_not_lt, jg_not_le, x1, Bool.and_true, bI_F]
/-! ===== the reference ===== -/
theorem cutL_lo {a b : List Nat} {i j k : Nat} (hi : i ≤ a.length) (hk : k < i) : (cutL a i b j).getD k 0 = a.getD k 0 := by
  unfold cutL
  simp only [List.getD]
  rw [List.getElem?_append_left (by rw [List.length_take]; omega), List.getElem?_take_of_lt hk]
theorem cutL_hi {a b : List Nat} {i j k : Nat} (hi : i ≤ a.length) (hj : j ≤ b.length) : (cutL a i b j).getD (i + k) 0 = b.getD (b.length - j + k) 0 := by
  unfold cutL endL
  simp only [List.getD]
  rw [List.getElem?_append_right (by rw [List.length_take]; omega), List.length_take, List.getElem?_drop, show b.length - j + (i + k - min i a.length) = b.length - j + k by omega]
theorem sm_cuts_2 {a b : List Nat} {b1 b2 i j : Nat} (h1 : b1 + 9 ≤ 8600) (h2 : b2 + 9 ≤ 8600) (hi : i ≤ a.length) (hj : j ≤ b.length) (hij : i + j ≤ 8) (z1 z3 : jm_V) (d : Nat) : ∀ (r k : Nat) (m : jm_M), k + r = j → mR b b2 m → m.1 40 0 0 26 = nI (i + j) → (∀ q, q < i + k → m.1 49 0 0 q = nI ((cutL a i b j).getD q 0)) → ∃ m', jm_ev false d 11 0 jc_X12_cuts 59 [vM, z1, .inl (nI i), z3, .inl (nI j), .inl (nI b1), .inl (nI b2), .inl (nI k)] [] m = some (jm_j, m') ∧ mH (cutL a i b j) m' ∧ jk PM_h m m'
  | 0, k, m, hr, rb, hs, hq => by
    have b8 := rb.1
    refine ⟨m, ?_, ⟨by rw [cutL_length hi hj]; exact hij, by rw [cutL_length hi hj]; exact hs, fun q hq' => hq q (by rw [cutL_length hi hj] at hq'; omega)⟩, .rf⟩
    rw [l_X12_cuts_59]
    simp (disch := omega) only [jg_lit, jg_litL, jg_m1, jg_m1L, nI_add, lN_add, pk_mul, jg_sub, jg_subM, jg_addM, jg_addM', jg_negM, jt_in, jt_ix, jt_bi, jt_bl, jt_bv, jt_lt, jg_dT, jg_dF, jt_c, jt_cd, ru_I, ru_L, jg_leI, jg_ltI, jg_eqI, jg_M1, jg_M2, jg_M3, jg_M4, jg_M5, jg_M6, jg_ltT, jg_ltF, jg_leT, jg_leF, jg_eqT, jg_eqF, cond_true, cond_false, ne_eq, not_true_eq_false, not_false_eq_true, decide_true, decide_false, if_true, if_false, and_true, true_and, and_false, false_and, or_true, true_or, or_false, false_or, Nat.reduceEqDiff, reduceIte, Nat.reduceMul, Nat.reduceAdd, Nat.reduceSub, Nat.add_zero, Nat.zero_add, Nat.mul_zero, eq_self_iff_true, jg_not_lt, jg_not_le]
  | r + 1, k, m, hr, rb, hs, hq => by
    have b8 := rb.1
    have lb := rb.2.1
    have p := rb.2.2 (b.length - j + k) (by omega)
    rw [show b2 + 1 + (b.length - j + k) = b2 + 1 + b.length - j + k by omega, ← cutL_hi hi hj] at p
    obtain ⟨m', e1, e2, e3⟩ := sm_cuts_2 (b1 := b1) h1 h2 hi hj hij z1 z3 d r (k + 1) (jm_sI m 49 0 0 (i + k) (nI ((cutL a i b j).getD (i + k) 0))) (by omega) (mR_cp rb (fun q _ => by rw [rd_II, if_neg (by omega)])) (by rw [rd_II, if_neg (by omega)]; exact hs) (fun q hq' => by
      rw [rd_II]
      by_cases e : q = i + k
      · rw [if_pos ⟨rfl, rfl, rfl, e⟩, e]
      · rw [if_neg (by omega)]; exact hq q (by omega))
    refine ⟨m', ?_, e2, (jk_I (by unfold PM_h; omega)).tr e3⟩
    rw [← e1, l_X12_cuts_59]
    simp (disch := omega) only [jg_lit, jg_litL, jg_m1, jg_m1L, nI_add, lN_add, pk_mul, jg_sub, jg_subM, jg_addM, jg_addM', jg_negM, jt_in, jt_ix, jt_bi, jt_bl, jt_bv, jt_lt, jg_dT, jg_dF, jt_c, jt_cd, ru_I, ru_L, jg_leI, jg_ltI, jg_eqI, jg_M1, jg_M2, jg_M3, jg_M4, jg_M5, jg_M6, jg_ltT, jg_ltF, jg_leT, jg_leF, jg_eqT, jg_eqF, cond_true, cond_false, ne_eq, not_true_eq_false, not_false_eq_true, decide_true, decide_false, if_true, if_false, and_true, true_and, and_false, false_and, or_true, true_or, or_false, false_or, Nat.reduceEqDiff, reduceIte, Nat.reduceMul, Nat.reduceAdd, Nat.reduceSub, Nat.add_zero, Nat.zero_add, Nat.mul_zero, eq_self_iff_true, jg_not_lt, jg_not_le, lb, p]
theorem sm_cuts_1 {a b : List Nat} {b1 b2 i j : Nat} (h1 : b1 + 9 ≤ 8600) (h2 : b2 + 9 ≤ 8600) (hi : i ≤ a.length) (hj : j ≤ b.length) (hij : i + j ≤ 8) (z1 z3 : jm_V) (d : Nat) : ∀ (r k : Nat) (m : jm_M), k + r = i → mR a b1 m → mR b b2 m → m.1 40 0 0 26 = nI (i + j) → (∀ q, q < k → m.1 49 0 0 q = nI ((cutL a i b j).getD q 0)) → ∃ m', jm_ev false d 11 0 jc_X12_cuts 25 [vM, z1, .inl (nI i), z3, .inl (nI j), .inl (nI b1), .inl (nI b2), .inl (nI k)] [] m = some (jm_j, m') ∧ mH (cutL a i b j) m' ∧ jk PM_h m m'
  | 0, k, m, hr, ra, rb, hs, hq => by
    have a8 := ra.1
    obtain ⟨m', e1, e2, e3⟩ := sm_cuts_2 (b1 := b1) h1 h2 hi hj hij z1 z3 d j 0 m (by omega) rb hs (fun q hq' => hq q (by omega))
    refine ⟨m', ?_, e2, e3⟩
    rw [← e1, l_X12_cuts_25]
    simp (disch := omega) only [jg_lit, jg_litL, jg_m1, jg_m1L, nI_add, lN_add, pk_mul, jg_sub, jg_subM, jg_addM, jg_addM', jg_negM, jt_in, jt_ix, jt_bi, jt_bl, jt_bv, jt_lt, jg_dT, jg_dF, jt_c, jt_cd, ru_I, ru_L, jg_leI, jg_ltI, jg_eqI, jg_M1, jg_M2, jg_M3, jg_M4, jg_M5, jg_M6, jg_ltT, jg_ltF, jg_leT, jg_leF, jg_eqT, jg_eqF, cond_true, cond_false, ne_eq, not_true_eq_false, not_false_eq_true, decide_true, decide_false, if_true, if_false, and_true, true_and, and_false, false_and, or_true, true_or, or_false, false_or, Nat.reduceEqDiff, reduceIte, Nat.reduceMul, Nat.reduceAdd, Nat.reduceSub, Nat.add_zero, Nat.zero_add, Nat.mul_zero, eq_self_iff_true, jg_not_lt, jg_not_le]
  | r + 1, k, m, hr, ra, rb, hs, hq => by
    have a8 := ra.1
    have p := ra.2.2 k (by omega)
    rw [← cutL_lo (b := b) (j := j) hi (show k < i by omega)] at p
    obtain ⟨m', e1, e2, e3⟩ := sm_cuts_1 h1 h2 hi hj hij z1 z3 d r (k + 1) (jm_sI m 49 0 0 k (nI ((cutL a i b j).getD k 0))) (by omega) (mR_cp ra (fun q _ => by rw [rd_II, if_neg (by omega)])) (mR_cp rb (fun q _ => by rw [rd_II, if_neg (by omega)])) (by rw [rd_II, if_neg (by omega)]; exact hs) (fun q hq' => by
      rw [rd_II]
      by_cases e : q = k
      · rw [if_pos ⟨rfl, rfl, rfl, e⟩, e]
      · rw [if_neg (by omega)]; exact hq q (by omega))
    refine ⟨m', ?_, e2, (jk_I (by unfold PM_h; omega)).tr e3⟩
    rw [← e1, l_X12_cuts_25]
    simp (disch := omega) only [jg_lit, jg_litL, jg_m1, jg_m1L, nI_add, lN_add, pk_mul, jg_sub, jg_subM, jg_addM, jg_addM', jg_negM, jt_in, jt_ix, jt_bi, jt_bl, jt_bv, jt_lt, jg_dT, jg_dF, jt_c, jt_cd, ru_I, ru_L, jg_leI, jg_ltI, jg_eqI, jg_M1, jg_M2, jg_M3, jg_M4, jg_M5, jg_M6, jg_ltT, jg_ltF, jg_leT, jg_leF, jg_eqT, jg_eqF, cond_true, cond_false, ne_eq, not_true_eq_false, not_false_eq_true, decide_true, decide_false, if_true, if_false, and_true, true_and, and_false, false_and, or_true, true_or, or_false, false_or, Nat.reduceEqDiff, reduceIte, Nat.reduceMul, Nat.reduceAdd, Nat.reduceSub, Nat.add_zero, Nat.zero_add, Nat.mul_zero, eq_self_iff_true, jg_not_lt, jg_not_le, p]
theorem sm_cuts {V : Vl} {m : jm_M} (h : mV V 0 m) (h12 : (vlW V).length ≤ 12) {a b i j : Nat} (ha : a < (vlW V).length) (hb : b < (vlW V).length) (hi : i ≤ (wL (gw (vlW V) a)).length) (hj : j ≤ (wL (gw (vlW V) b)).length) (hij : i + j ≤ 8) (d : Nat) : ∃ m', jm_sem false (d + 2) jn_X12_cuts [vM, .inl (nI a), .inl (nI i), .inl (nI b), .inl (nI j)] m = some (jm_j, m') ∧ mH (cutW (vlW V) a i b j) m' ∧ jk PM_h m m' := by
  obtain ⟨m', e1, e2, e3⟩ := sm_cuts_1 (a := wL (gw (vlW V) a)) (b := wL (gw (vlW V) b)) (b1 := 0 + 10 + 40 * a) (b2 := 0 + 10 + 40 * b) (by omega) (by omega) hi hj hij (.inl (nI a)) (.inl (nI b)) (d + 1) i 0 (jm_sI m 40 0 0 26 (nI (i + j))) (by omega) (mR_cp (h.2.2.2.2 a ha).1 (fun q _ => by rw [rd_II, if_neg (by omega)])) (mR_cp (h.2.2.2.2 b hb).1 (fun q _ => by rw [rd_II, if_neg (by omega)])) (by rw [rd_II, if_pos ⟨rfl, rfl, rfl, rfl⟩]) (fun q hq => by omega)
  refine ⟨m', ?_, e2, (jk_I (by unfold PM_h; omega)).tr e3⟩
  rw [e_X12_cuts]
  simp (disch := omega) only [jg_lit, jg_litL, jg_m1, jg_m1L, nI_add, lN_add, pk_mul, jg_sub, jg_subM, jg_addM, jg_addM', jg_negM, jt_in, jt_ix, jt_bi, jt_bl, jt_bv, jt_lt, jg_dT, jg_dF, jt_c, jt_cd, ru_I, ru_L, jg_leI, jg_ltI, jg_eqI, jg_M1, jg_M2, jg_M3, jg_M4, jg_M5, jg_M6, jg_ltT, jg_ltF, jg_leT, jg_leF, jg_eqT, jg_eqF, cond_true, cond_false, ne_eq, not_true_eq_false, not_false_eq_true, decide_true, decide_false, if_true, if_false, and_true, true_and, and_false, false_and, or_true, true_or, or_false, false_or, Nat.reduceEqDiff, reduceIte, Nat.reduceMul, Nat.reduceAdd, Nat.reduceSub, Nat.add_zero, Nat.zero_add, Nat.mul_zero, eq_self_iff_true, jg_not_lt, jg_not_le, sm_rowOf]
  exact e1
theorem sm_alike_in {ls l : List Nat} (ho : okL l) {b : Nat} (hb : b + 9 ≤ 8600) (hlen : l.length = ls.length) {m : jm_M} (hr0 : mR l b m) (hH : mH ls m) (y1 : Int64) (x3 x4 : Int32) (d : Nat) : ∀ (r k : Nat), k + r = l.length → jm_ev false (d + 1) 11 2 jc_X12_isAlike 52 [vM, .inr (.inl y1), jm_j, .inl x3, .inl x4, .inl (nI b), .inr (.inl (lN (enc (l.take k)))), jm_j, .inl (nI k)] [] m = jm_ev false (d + 1) 11 2 jc_X12_isAlike 52 [vM, .inr (.inl y1), jm_j, .inl x3, .inl x4, .inl (nI b), .inr (.inl (lN (enc l))), jm_j, .inl (nI l.length)] [] m
  | 0, k, hr => by
    have e : k = l.length := by omega
    subst e
    rw [List.take_length]
  | r + 1, k, hr => by
    have h8 := hH.1
    have s := hH.2.1
    have p := hr0.2.2 k (by omega)
    have h32 := okL_31 ho k
    have ih := sm_alike_in ho hb hlen hr0 hH y1 x3 x4 d r (k + 1) (by omega)
    have v : ((32 : Int64) * lN (enc (l.take k))) + (nI (l.getD k 0)).toInt64 = lN (enc (l.take (k + 1))) := by
      rw [nI_l (show l.getD k 0 < 2 ^ 31 by omega), show (32 : Int64) = lN 32 from rfl, lN_mul, lN_add, ← enc_snoc, ← take_snoc (by omega)]
    rw [← ih, ← v]
    refine (l_X12_isAlike_52 _ _ _ _ _ _ _ _).trans ?_
    simp (disch := omega) only [jg_lit, jg_litL, jg_m1, jg_m1L, nI_add, lN_add, pk_mul, jg_sub, jg_subM, jg_addM, jg_addM', jg_negM, jt_in, jt_ix, jt_bi, jt_bl, jt_bv, jt_lt, jg_dT, jg_dF, jt_c, jt_cd, ru_I, ru_L, jg_leI, jg_ltI, jg_eqI, jg_M1, jg_M2, jg_M3, jg_M4, jg_M5, jg_M6, jg_ltT, jg_ltF, jg_leT, jg_leF, jg_eqT, jg_eqF, cond_true, cond_false, ne_eq, not_true_eq_false, not_false_eq_true, decide_true, decide_false, if_true, if_false, and_true, true_and, and_false, false_and, or_true, true_or, or_false, false_or, Nat.reduceEqDiff, reduceIte, Nat.reduceMul, Nat.reduceAdd, Nat.reduceSub, Nat.add_zero, Nat.zero_add, Nat.mul_zero, eq_self_iff_true, jg_not_lt, jg_not_le, s, p]
theorem sm_alike_loop {V : Vl} {m : jm_M} (h : mV V 0 m) (ho : okWs (vlW V)) {ls : List Nat} (hl : okL ls) (hn : ls ≠ []) (hH : mH ls m) (d : Nat) : ∀ (r k : Nat) (f : Bool) (z5 z6 z7 z8 : jm_V), k + r = (vlW V).length → jm_ev false (d + 1) 11 2 jc_X12_isAlike 10 [vM, .inr (.inl (lN (enc ls))), jm_j, .inl (bI f), .inl (nI k), z5, z6, z7, z8] [] m = some (.inl (bI (f || (alk (vlW V) ls none r k).isSome)), m)
  | 0, k, f, z5, z6, z7, z8, hr => by
    have h12 := ho.1
    have h4 : m.1 41 0 0 1 = nI (vlW V).length := h.2.1
    have b1 : (bI f &&& nI 1 = bI f) = True := eq_true (by cases f <;> rfl)
    rw [l_X12_isAlike_10]
    simp (disch := omega) only [jg_lit, jg_litL, jg_m1, jg_m1L, nI_add, lN_add, pk_mul, jg_sub, jg_subM, jg_addM, jg_addM', jg_negM, jt_in, jt_ix, jt_bi, jt_bl, jt_bv, jt_lt, jg_dT, jg_dF, jt_c, jt_cd, ru_I, ru_L, jg_leI, jg_ltI, jg_eqI, jg_M1, jg_M2, jg_M3, jg_M4, jg_M5, jg_M6, jg_ltT, jg_ltF, jg_leT, jg_leF, jg_eqT, jg_eqF, cond_true, cond_false, ne_eq, not_true_eq_false, not_false_eq_true, decide_true, decide_false, if_true, if_false, and_true, true_and, and_false, false_and, or_true, true_or, or_false, false_or, Nat.reduceEqDiff, reduceIte, Nat.reduceMul, Nat.reduceAdd, Nat.reduceSub, Nat.add_zero, Nat.zero_add, Nat.mul_zero, eq_self_iff_true, jg_not_lt, jg_not_le, h4, b1]
    show _ = some (Sum.inl (bI (f || false)), m)
    rw [Bool.or_false]
  | r + 1, k, f, z5, z6, z7, z8, hr => by
    have h12 := ho.1
    have h4 : m.1 41 0 0 1 = nI (vlW V).length := h.2.1
    have hk : k < (vlW V).length := by omega
    have ok := ho.2.1 k hk
    have k8 := okW_8 ok.1
    have h8 := hH.1
    have s := hH.2.1
    have hw := (h.2.2.2.2 k hk).1
    have sk := hw.2.1
    have lp : 0 < ls.length := List.length_pos_iff.mpr hn
    by_cases c : (wL (gw (vlW V) k)).length = ls.length
    · have inn := sm_alike_in ok.1.1 (b := 0 + 10 + 40 * k) (by omega) c hw hH (lN (enc ls)) (bI f) (nI k) d (wL (gw (vlW V) k)).length 0 (by omega)
      have inn' : jm_ev false (d + 1) 11 2 jc_X12_isAlike 52 [vM, .inr (.inl (lN (enc ls))), jm_j, .inl (bI f), .inl (nI k), .inl (nI (0 + 10 + 40 * k)), .inr (.inl (lN 0)), jm_j, .inl (nI 0)] [] m = jm_ev false (d + 1) 11 2 jc_X12_isAlike 52 [vM, .inr (.inl (lN (enc ls))), jm_j, .inl (bI f), .inl (nI k), .inl (nI (0 + 10 + 40 * k)), .inr (.inl (lN (enc (wL (gw (vlW V) k))))), jm_j, .inl (nI (wL (gw (vlW V) k)).length)] [] m := inn
      have ce := cmp_eq (a := enc (wL (gw (vlW V) k))) (b := enc ls) (Nat.lt_trans (enc_40 ok.1.1 k8) (by decide)) (Nat.lt_trans (enc_40 hl h8) (by decide))
      rw [enc_inj ok.1.1 hl] at ce
      rw [l_X12_isAlike_10]
      simp (disch := omega) only [jg_lit, jg_litL, jg_m1, jg_m1L, nI_add, lN_add, pk_mul, jg_sub, jg_subM, jg_addM, jg_addM', jg_negM, jt_in, jt_ix, jt_bi, jt_bl, jt_bv, jt_lt, jg_dT, jg_dF, jt_c, jt_cd, ru_I, ru_L, jg_leI, jg_ltI, jg_eqI, jg_M1, jg_M2, jg_M3, jg_M4, jg_M5, jg_M6, jg_ltT, jg_ltF, jg_leT, jg_leF, jg_eqT, jg_eqF, cond_true, cond_false, ne_eq, not_true_eq_false, not_false_eq_true, decide_true, decide_false, if_true, if_false, and_true, true_and, and_false, false_and, or_true, true_or, or_false, false_or, Nat.reduceEqDiff, reduceIte, Nat.reduceMul, Nat.reduceAdd, Nat.reduceSub, Nat.add_zero, Nat.zero_add, Nat.mul_zero, eq_self_iff_true, jg_not_lt, jg_not_le, h4, sm_rowOf, sk, s]
      rw [inn', l_X12_isAlike_52]
      by_cases e : wL (gw (vlW V) k) = ls
      · have ak : alk (vlW V) ls none (r + 1) k = some k := by
          unfold alk
          rw [if_pos ⟨fun z => (nomatch z), (by rw [e]; exact hn), e⟩]
        rw [ak]
        have ih := sm_alike_loop h ho hl hn hH d r (k + 1) true (.inl (nI (0 + 10 + 40 * k))) (.inr (.inl (lN (enc (wL (gw (vlW V) k)))))) jm_j (.inl (nI (wL (gw (vlW V) k)).length)) (by omega)
        have ce : lg_cmp (lN (enc (wL (gw (vlW V) k)))) (lN (enc ls)) = nI 0 := ce.mpr e
        rw [show (f || (some k).isSome) = (true || (alk (vlW V) ls none r (k + 1)).isSome) by cases f <;> rfl, ← ih]
        cases f with
        | false => simp (disch := omega) only [jg_lit, jg_litL, jg_m1, jg_m1L, nI_add, lN_add, pk_mul, jg_sub, jg_subM, jg_addM, jg_addM', jg_negM, jt_in, jt_ix, jt_bi, jt_bl, jt_bv, jt_lt, jg_dT, jg_dF, jt_c, jt_cd, ru_I, ru_L, jg_leI, jg_ltI, jg_eqI, jg_M1, jg_M2, jg_M3, jg_M4, jg_M5, jg_M6, jg_ltT, jg_ltF, jg_leT, jg_leF, jg_eqT, jg_eqF, cond_true, cond_false, ne_eq, not_true_eq_false, not_false_eq_true, decide_true, decide_false, if_true, if_false, and_true, true_and, and_false, false_and, or_true, true_or, or_false, false_or, Nat.reduceEqDiff, reduceIte, Nat.reduceMul, Nat.reduceAdd, Nat.reduceSub, Nat.add_zero, Nat.zero_add, Nat.mul_zero, eq_self_iff_true, jg_not_lt, jg_not_le, s, bI_F, bI_T, ce]
        | true => simp (disch := omega) only [jg_lit, jg_litL, jg_m1, jg_m1L, nI_add, lN_add, pk_mul, jg_sub, jg_subM, jg_addM, jg_addM', jg_negM, jt_in, jt_ix, jt_bi, jt_bl, jt_bv, jt_lt, jg_dT, jg_dF, jt_c, jt_cd, ru_I, ru_L, jg_leI, jg_ltI, jg_eqI, jg_M1, jg_M2, jg_M3, jg_M4, jg_M5, jg_M6, jg_ltT, jg_ltF, jg_leT, jg_leF, jg_eqT, jg_eqF, cond_true, cond_false, ne_eq, not_true_eq_false, not_false_eq_true, decide_true, decide_false, if_true, if_false, and_true, true_and, and_false, false_and, or_true, true_or, or_false, false_or, Nat.reduceEqDiff, reduceIte, Nat.reduceMul, Nat.reduceAdd, Nat.reduceSub, Nat.add_zero, Nat.zero_add, Nat.mul_zero, eq_self_iff_true, jg_not_lt, jg_not_le, s, bI_T]
      · have ak : alk (vlW V) ls none (r + 1) k = alk (vlW V) ls none r (k + 1) := by
          rw [alk, if_neg (fun z => e z.2.2)]
        have ce : (lg_cmp (lN (enc (wL (gw (vlW V) k)))) (lN (enc ls)) = nI 0) = False := eq_false (fun z => e (ce.mp z))
        rw [ak, ← sm_alike_loop h ho hl hn hH d r (k + 1) f (.inl (nI (0 + 10 + 40 * k))) (.inr (.inl (lN (enc (wL (gw (vlW V) k)))))) jm_j (.inl (nI (wL (gw (vlW V) k)).length)) (by omega)]
        cases f with
        | false => simp (disch := omega) only [jg_lit, jg_litL, jg_m1, jg_m1L, nI_add, lN_add, pk_mul, jg_sub, jg_subM, jg_addM, jg_addM', jg_negM, jt_in, jt_ix, jt_bi, jt_bl, jt_bv, jt_lt, jg_dT, jg_dF, jt_c, jt_cd, ru_I, ru_L, jg_leI, jg_ltI, jg_eqI, jg_M1, jg_M2, jg_M3, jg_M4, jg_M5, jg_M6, jg_ltT, jg_ltF, jg_leT, jg_leF, jg_eqT, jg_eqF, cond_true, cond_false, ne_eq, not_true_eq_false, not_false_eq_true, decide_true, decide_false, if_true, if_false, and_true, true_and, and_false, false_and, or_true, true_or, or_false, false_or, Nat.reduceEqDiff, reduceIte, Nat.reduceMul, Nat.reduceAdd, Nat.reduceSub, Nat.add_zero, Nat.zero_add, Nat.mul_zero, eq_self_iff_true, jg_not_lt, jg_not_le, s, bI_F, ce]
        | true => simp (disch := omega) only [jg_lit, jg_litL, jg_m1, jg_m1L, nI_add, lN_add, pk_mul, jg_sub, jg_subM, jg_addM, jg_addM', jg_negM, jt_in, jt_ix, jt_bi, jt_bl, jt_bv, jt_lt, jg_dT, jg_dF, jt_c, jt_cd, ru_I, ru_L, jg_leI, jg_ltI, jg_eqI, jg_M1, jg_M2, jg_M3, jg_M4, jg_M5, jg_M6, jg_ltT, jg_ltF, jg_leT, jg_leF, jg_eqT, jg_eqF, cond_true, cond_false, ne_eq, not_true_eq_false, not_false_eq_true, decide_true, decide_false, if_true, if_false, and_true, true_and, and_false, false_and, or_true, true_or, or_false, false_or, Nat.reduceEqDiff, reduceIte, Nat.reduceMul, Nat.reduceAdd, Nat.reduceSub, Nat.add_zero, Nat.zero_add, Nat.mul_zero, eq_self_iff_true, jg_not_lt, jg_not_le, s, bI_T]
    · have ak : alk (vlW V) ls none (r + 1) k = alk (vlW V) ls none r (k + 1) := by
        rw [alk, if_neg (fun z => c (by rw [z.2.2]))]
      rw [ak, ← sm_alike_loop h ho hl hn hH d r (k + 1) f (.inl (nI (0 + 10 + 40 * k))) z6 z7 z8 (by omega), l_X12_isAlike_10]
      simp (disch := omega) only [jg_lit, jg_litL, jg_m1, jg_m1L, nI_add, lN_add, pk_mul, jg_sub, jg_subM, jg_addM, jg_addM', jg_negM, jt_in, jt_ix, jt_bi, jt_bl, jt_bv, jt_lt, jg_dT, jg_dF, jt_c, jt_cd, ru_I, ru_L, jg_leI, jg_ltI, jg_eqI, jg_M1, jg_M2, jg_M3, jg_M4, jg_M5, jg_M6, jg_ltT, jg_ltF, jg_leT, jg_leF, jg_eqT, jg_eqF, cond_true, cond_false, ne_eq, not_true_eq_false, not_false_eq_true, decide_true, decide_false, if_true, if_false, and_true, true_and, and_false, false_and, or_true, true_or, or_false, false_or, Nat.reduceEqDiff, reduceIte, Nat.reduceMul, Nat.reduceAdd, Nat.reduceSub, Nat.add_zero, Nat.zero_add, Nat.mul_zero, eq_self_iff_true, jg_not_lt, jg_not_le, h4, sm_rowOf, sk, s]
theorem sm_isAlike {V : Vl} {m : jm_M} (h : mV V 0 m) (ho : okWs (vlW V)) {ls : List Nat} (hl : okL ls) (hn : ls ≠ []) (hH : mH ls m) (d : Nat) : jm_sem false (d + 2) jn_X12_isAlike [vM] m = some (.inl (bI (alk (vlW V) ls none (vlW V).length 0).isSome), m) := by
  have nh := sm_numberHere hl hH d
  have := sm_alike_loop h ho hl hn hH d (vlW V).length 0 false jm_j jm_j jm_j jm_j (by omega)
  rw [Bool.false_or] at this
  rw [e_X12_isAlike, ← this, nh, jt_bl]
  rfl
