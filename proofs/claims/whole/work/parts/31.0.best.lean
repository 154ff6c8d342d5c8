/-! ===== bestCut: the reference ===== -/
def bx (st : Bc) : Int32 := if st.1 = 0 then jM else nI st.1
theorem shB_0 : bI (shB 0) = 0 := by decide
theorem day_m1 (n : Nat) : nI n - lat (-1) = nI n := by
  rw [show lat (-1) = 0 by decide]
  exact Int32.sub_zero _
theorem sm_bc_life {V : Vl} (ho : okV V) {m : jm_M} {ls : List Nat} (hl : okL ls) (h8 : ls.length ≤ 8) (h26 : ∀ c ∈ ls, c ≤ 26) (hn : ls ≠ []) (hH : mH ls m) (hF : mF V m) (d : Nat) : ∃ m', jm_sem false (d + 6) jn_X12_chains [vM, .inl (nI 0), .inl (nI 0), .inl (nI (vlD V)), .inl (nI (vlD V))] m = some (jm_j, m') ∧ jk PCh m m' ∧ ∀ d', jm_sem false (d' + 1) jn_X12_lifeHere [vM] m' = some (.inl (if lifeW V (vlD V) (wNew ls 0) ≤ 40 then nI (lifeW V (vlD V) (wNew ls 0)) else jM), m') := by
  have hw := okW2_new hl h8 h26 (show 0 < 4096 by decide) hn
  obtain ⟨m', e1, e2, e3⟩ := sm_chains ho hw ho.2.2.1 (m := m) hH hF.2.2.1 hF.2.2.2 d
  refine ⟨m', ?_, e3, fun d' => sm_lifeHere (okW2_wearN ho.2.2.1 hw) hn e2 d'⟩
  have e1' : jm_sem false (d + 6) jn_X12_chains [vM, .inl (bI (shB 0)), .inl 0, .inl (nI (vlD V)), .inl (nI (vlD V) - lat (-1))] m = some (jm_j, m') := e1
  rw [shB_0, day_m1] at e1'
  exact e1'
theorem sm_bc_in {V : Vl} (ho : okV V) {a b w : Nat} (ha : a < (vlW V).length) (hb : b < (vlW V).length) {i : Nat} (hi : 1 ≤ i) (hia : i ≤ (wL (gw (vlW V) a)).length) (d : Nat) : ∀ (r j : Nat) (st : Bc) (z9 : jm_V) (m : jm_M), i + j + r = 9 → 1 ≤ j → st.1 ≤ 40 → mF V m → ∃ m' z8' z9', jm_ev false (d + 6) 11 1 jc_X12_bestCut 98 [vM, .inl (nI a), .inl (nI b), .inl (nI w), .inl (bx st), .inl (nI st.2.1), .inl (nI st.2.2), .inl (nI i), .inl (nI j), z9] [] m = jm_ev false (d + 6) 11 1 jc_X12_bestCut 84 [vM, .inl (nI a), .inl (nI b), .inl (nI w), .inl (bx (bcJ V a b i r j st)), .inl (nI (bcJ V a b i r j st).2.1), .inl (nI (bcJ V a b i r j st).2.2), .inl (nI (i + 1)), z8', z9'] [] m' ∧ jk PCh m m'
  | 0, j, st, z9, m, hr, hj, hs, hF => by
    have h12 := ho.2.2.2.1.1
    have b8 := okW_8 (ho.2.2.2.1.2.1 b hb).1
    have o := sm_ofWord (k := b) (c := 0) (by omega) (by omega) (d + 4) m
    rw [sm_size hF.1 hb] at o
    refine ⟨m, .inl (nI j), z9, ?_, .rf⟩
    rw [l_X12_bestCut_98]
    by_cases c : (wL (gw (vlW V) b)).length < j
    · simp (disch := omega) only [jg_lit, jg_litL, jg_m1, jg_m1L, nI_add, lN_add, pk_mul, jg_sub, jg_subM, jg_addM, jg_addM', jg_negM, jt_in, jt_ix, jt_bi, jt_bl, jt_bv, jt_lt, jg_dT, jg_dF, jt_c, jt_cd, ru_I, ru_L, jg_leI, jg_ltI, jg_eqI, jg_M1, jg_M2, jg_M3, jg_M4, jg_M5, jg_M6, jg_ltT, jg_ltF, jg_leT, jg_leF, jg_eqT, jg_eqF, cond_true, cond_false, ne_eq, not_true_eq_false, not_false_eq_true, decide_true, decide_false, if_true, if_false, and_true, true_and, and_false, false_and, or_true, true_or, or_false, false_or, Nat.reduceEqDiff, reduceIte, Nat.reduceMul, Nat.reduceAdd, Nat.reduceSub, Nat.add_zero, Nat.zero_add, Nat.mul_zero, eq_self_iff_true, jg_not_lt, jg_not_le, o]
      rfl
    · simp (disch := omega) only [jg_lit, jg_litL, jg_m1, jg_m1L, nI_add, lN_add, pk_mul, jg_sub, jg_subM, jg_addM, jg_addM', jg_negM, jt_in, jt_ix, jt_bi, jt_bl, jt_bv, jt_lt, jg_dT, jg_dF, jt_c, jt_cd, ru_I, ru_L, jg_leI, jg_ltI, jg_eqI, jg_M1, jg_M2, jg_M3, jg_M4, jg_M5, jg_M6, jg_ltT, jg_ltF, jg_leT, jg_leF, jg_eqT, jg_eqF, cond_true, cond_false, ne_eq, not_true_eq_false, not_false_eq_true, decide_true, decide_false, if_true, if_false, and_true, true_and, and_false, false_and, or_true, true_or, or_false, false_or, Nat.reduceEqDiff, reduceIte, Nat.reduceMul, Nat.reduceAdd, Nat.reduceSub, Nat.add_zero, Nat.zero_add, Nat.mul_zero, eq_self_iff_true, jg_not_lt, jg_not_le, o]
      rfl
  | r + 1, j, st, z9, m, hr, hj, hs, hF => by
    have h12 := ho.2.2.2.1.1
    have a8 := okW_8 (ho.2.2.2.1.2.1 a ha).1
    have b8 := okW_8 (ho.2.2.2.1.2.1 b hb).1
    have o := sm_ofWord (k := b) (c := 0) (by omega) (by omega) (d + 4) m
    rw [sm_size hF.1 hb] at o
    by_cases c : (wL (gw (vlW V) b)).length < j
    · refine ⟨m, .inl (nI j), z9, ?_, .rf⟩
      rw [bcJ_out _ _ c, l_X12_bestCut_98]
      simp (disch := omega) only [jg_lit, jg_litL, jg_m1, jg_m1L, nI_add, lN_add, pk_mul, jg_sub, jg_subM, jg_addM, jg_addM', jg_negM, jt_in, jt_ix, jt_bi, jt_bl, jt_bv, jt_lt, jg_dT, jg_dF, jt_c, jt_cd, ru_I, ru_L, jg_leI, jg_ltI, jg_eqI, jg_M1, jg_M2, jg_M3, jg_M4, jg_M5, jg_M6, jg_ltT, jg_ltF, jg_leT, jg_leF, jg_eqT, jg_eqF, cond_true, cond_false, ne_eq, not_true_eq_false, not_false_eq_true, decide_true, decide_false, if_true, if_false, and_true, true_and, and_false, false_and, or_true, true_or, or_false, false_or, Nat.reduceEqDiff, reduceIte, Nat.reduceMul, Nat.reduceAdd, Nat.reduceSub, Nat.add_zero, Nat.zero_add, Nat.mul_zero, eq_self_iff_true, jg_not_lt, jg_not_le, o]
    · obtain ⟨c1, c2, c3, c4⟩ := cutW_ok ho.2.2.2.1 ha hb hia (show j ≤ (wL (gw (vlW V) b)).length by omega) (show i + j ≤ 8 by omega) hi
      obtain ⟨m1, e1, e2, e3⟩ := sm_cuts hF.1 h12 ha hb hia (show j ≤ (wL (gw (vlW V) b)).length by omega) (show i + j ≤ 8 by omega) (d + 4)
      have hF1 := mF_Ch hF ho (jk_PMh e3)
      have al := sm_isAlike hF1.1 ho.2.2.2.1 c1 c3 e2 (d + 4)
      unfold bcJ
      cases hk : alk (vlW V) (cutW (vlW V) a i b j) none (vlW V).length 0 with
      | some q =>
        rw [hk] at al
        have al : jm_sem false (d + 6) jn_X12_isAlike [vM] m1 = some (.inl (nI 1), m1) := al
        obtain ⟨m', z8', z9', f1, f2⟩ := sm_bc_in ho (w := w) ha hb hi hia d r (j + 1) st z9 m1 (by omega) (by omega) hs hF1
        refine ⟨m', z8', z9', ?_, (jk_PMh e3).tr f2⟩
        rw [bcS_F (show cutB (vlW V) a i b j = false from decide_eq_false (fun z => by rw [z.2.2.2] at hk; cases hk)), ← f1, l_X12_bestCut_98]
        simp (disch := omega) only [jg_lit, jg_litL, jg_m1, jg_m1L, nI_add, lN_add, pk_mul, jg_sub, jg_subM, jg_addM, jg_addM', jg_negM, jt_in, jt_ix, jt_bi, jt_bl, jt_bv, jt_lt, jg_dT, jg_dF, jt_c, jt_cd, ru_I, ru_L, jg_leI, jg_ltI, jg_eqI, jg_M1, jg_M2, jg_M3, jg_M4, jg_M5, jg_M6, jg_ltT, jg_ltF, jg_leT, jg_leF, jg_eqT, jg_eqF, cond_true, cond_false, ne_eq, not_true_eq_false, not_false_eq_true, decide_true, decide_false, if_true, if_false, and_true, true_and, and_false, false_and, or_true, true_or, or_false, false_or, Nat.reduceEqDiff, reduceIte, Nat.reduceMul, Nat.reduceAdd, Nat.reduceSub, Nat.add_zero, Nat.zero_add, Nat.mul_zero, eq_self_iff_true, jg_not_lt, jg_not_le, o, e1, al]
      | none =>
        rw [hk] at al
        have al : jm_sem false (d + 6) jn_X12_isAlike [vM] m1 = some (.inl (nI 0), m1) := al
        have hc : cutB (vlW V) a i b j = true := decide_eq_true ⟨hia, by omega, by omega, hk⟩
        have dy : m1.1 41 0 0 4 = nI (vlD V) := hF1.1.2.2.2.1
        obtain ⟨m2, g1, g2, g3⟩ := sm_bc_life ho c1 (by omega) c4 c3 e2 hF1 d
        have g3 := g3 (d + 5)
        have hF2 := mF_Ch hF1 ho g2
        have lw := lifeF_pos (V := V) (day := vlD V) (w := wNew (cutW (vlW V) a i b j) 0) c3
        have lc : lifeC V a b i j = min (lifeW V (vlD V) (wNew (cutW (vlW V) a i b j) 0)) 40 := rfl
        obtain ⟨m', z8', z9', f1, f2⟩ := sm_bc_in ho (w := w) ha hb hi hia d r (j + 1) (bcS V a b i j st) (.inl (nI (lifeC V a b i j))) m2 (by omega) (by omega) (bcS_le hs) hF2
        refine ⟨m', z8', z9', ?_, ((jk_PMh e3).tr g2).tr f2⟩
        rw [← f1, l_X12_bestCut_98]
        have pick : bcS V a b i j st = if st.1 < lifeC V a b i j then (lifeC V a b i j, i, j) else st := by
          unfold bcS
          by_cases q : st.1 < lifeC V a b i j
          · rw [if_pos ⟨hc, q⟩, if_pos q]
          · rw [if_neg (fun z => q z.2), if_neg q]
        rw [pick]
        by_cases q0 : lifeW V (vlD V) (wNew (cutW (vlW V) a i b j) 0) ≤ 40
        · rw [if_pos q0] at g3
          rw [show lifeC V a b i j = lifeW V (vlD V) (wNew (cutW (vlW V) a i b j) 0) by rw [lc]; omega]
          by_cases q : st.1 < lifeW V (vlD V) (wNew (cutW (vlW V) a i b j) 0)
          · rw [if_pos q]
            unfold bx
            by_cases z : st.1 = 0
            · simp (disch := omega) only [jg_lit, jg_litL, jg_m1, jg_m1L, nI_add, lN_add, pk_mul, jg_sub, jg_subM, jg_addM, jg_addM', jg_negM, jt_in, jt_ix, jt_bi, jt_bl, jt_bv, jt_lt, jg_dT, jg_dF, jt_c, jt_cd, ru_I, ru_L, jg_leI, jg_ltI, jg_eqI, jg_M1, jg_M2, jg_M3, jg_M4, jg_M5, jg_M6, jg_ltT, jg_ltF, jg_leT, jg_leF, jg_eqT, jg_eqF, cond_true, cond_false, ne_eq, not_true_eq_false, not_false_eq_true, decide_true, decide_false, if_true, if_false, and_true, true_and, and_false, false_and, or_true, true_or, or_false, false_or, Nat.reduceEqDiff, reduceIte, Nat.reduceMul, Nat.reduceAdd, Nat.reduceSub, Nat.add_zero, Nat.zero_add, Nat.mul_zero, eq_self_iff_true, jg_not_lt, jg_not_le, o, e1, al, dy, g1, g3, z]
            · simp (disch := omega) only [jg_lit, jg_litL, jg_m1, jg_m1L, nI_add, lN_add, pk_mul, jg_sub, jg_subM, jg_addM, jg_addM', jg_negM, jt_in, jt_ix, jt_bi, jt_bl, jt_bv, jt_lt, jg_dT, jg_dF, jt_c, jt_cd, ru_I, ru_L, jg_leI, jg_ltI, jg_eqI, jg_M1, jg_M2, jg_M3, jg_M4, jg_M5, jg_M6, jg_ltT, jg_ltF, jg_leT, jg_leF, jg_eqT, jg_eqF, cond_true, cond_false, ne_eq, not_true_eq_false, not_false_eq_true, decide_true, decide_false, if_true, if_false, and_true, true_and, and_false, false_and, or_true, true_or, or_false, false_or, Nat.reduceEqDiff, reduceIte, Nat.reduceMul, Nat.reduceAdd, Nat.reduceSub, Nat.add_zero, Nat.zero_add, Nat.mul_zero, eq_self_iff_true, jg_not_lt, jg_not_le, o, e1, al, dy, g1, g3, z]
          · rw [if_neg q]
            unfold bx
            by_cases z : st.1 = 0
            · omega
            · simp (disch := omega) only [jg_lit, jg_litL, jg_m1, jg_m1L, nI_add, lN_add, pk_mul, jg_sub, jg_subM, jg_addM, jg_addM', jg_negM, jt_in, jt_ix, jt_bi, jt_bl, jt_bv, jt_lt, jg_dT, jg_dF, jt_c, jt_cd, ru_I, ru_L, jg_leI, jg_ltI, jg_eqI, jg_M1, jg_M2, jg_M3, jg_M4, jg_M5, jg_M6, jg_ltT, jg_ltF, jg_leT, jg_leF, jg_eqT, jg_eqF, cond_true, cond_false, ne_eq, not_true_eq_false, not_false_eq_true, decide_true, decide_false, if_true, if_false, and_true, true_and, and_false, false_and, or_true, true_or, or_false, false_or, Nat.reduceEqDiff, reduceIte, Nat.reduceMul, Nat.reduceAdd, Nat.reduceSub, Nat.add_zero, Nat.zero_add, Nat.mul_zero, eq_self_iff_true, jg_not_lt, jg_not_le, o, e1, al, dy, g1, g3, z]
        · rw [if_neg q0] at g3
          rw [show lifeC V a b i j = 40 by rw [lc]; omega]
          by_cases q : st.1 < 40
          · rw [if_pos q]
            unfold bx
            by_cases z : st.1 = 0
            · simp (disch := omega) only [jg_lit, jg_litL, jg_m1, jg_m1L, nI_add, lN_add, pk_mul, jg_sub, jg_subM, jg_addM, jg_addM', jg_negM, jt_in, jt_ix, jt_bi, jt_bl, jt_bv, jt_lt, jg_dT, jg_dF, jt_c, jt_cd, ru_I, ru_L, jg_leI, jg_ltI, jg_eqI, jg_M1, jg_M2, jg_M3, jg_M4, jg_M5, jg_M6, jg_ltT, jg_ltF, jg_leT, jg_leF, jg_eqT, jg_eqF, cond_true, cond_false, ne_eq, not_true_eq_false, not_false_eq_true, decide_true, decide_false, if_true, if_false, and_true, true_and, and_false, false_and, or_true, true_or, or_false, false_or, Nat.reduceEqDiff, reduceIte, Nat.reduceMul, Nat.reduceAdd, Nat.reduceSub, Nat.add_zero, Nat.zero_add, Nat.mul_zero, eq_self_iff_true, jg_not_lt, jg_not_le, o, e1, al, dy, g1, g3, z]
            · simp (disch := omega) only [jg_lit, jg_litL, jg_m1, jg_m1L, nI_add, lN_add, pk_mul, jg_sub, jg_subM, jg_addM, jg_addM', jg_negM, jt_in, jt_ix, jt_bi, jt_bl, jt_bv, jt_lt, jg_dT, jg_dF, jt_c, jt_cd, ru_I, ru_L, jg_leI, jg_ltI, jg_eqI, jg_M1, jg_M2, jg_M3, jg_M4, jg_M5, jg_M6, jg_ltT, jg_ltF, jg_leT, jg_leF, jg_eqT, jg_eqF, cond_true, cond_false, ne_eq, not_true_eq_false, not_false_eq_true, decide_true, decide_false, if_true, if_false, and_true, true_and, and_false, false_and, or_true, true_or, or_false, false_or, Nat.reduceEqDiff, reduceIte, Nat.reduceMul, Nat.reduceAdd, Nat.reduceSub, Nat.add_zero, Nat.zero_add, Nat.mul_zero, eq_self_iff_true, jg_not_lt, jg_not_le, o, e1, al, dy, g1, g3, z]
          · rw [if_neg q]
            unfold bx
            by_cases z : st.1 = 0
            · omega
            · simp (disch := omega) only [jg_lit, jg_litL, jg_m1, jg_m1L, nI_add, lN_add, pk_mul, jg_sub, jg_subM, jg_addM, jg_addM', jg_negM, jt_in, jt_ix, jt_bi, jt_bl, jt_bv, jt_lt, jg_dT, jg_dF, jt_c, jt_cd, ru_I, ru_L, jg_leI, jg_ltI, jg_eqI, jg_M1, jg_M2, jg_M3, jg_M4, jg_M5, jg_M6, jg_ltT, jg_ltF, jg_leT, jg_leF, jg_eqT, jg_eqF, cond_true, cond_false, ne_eq, not_true_eq_false, not_false_eq_true, decide_true, decide_false, if_true, if_false, and_true, true_and, and_false, false_and, or_true, true_or, or_false, false_or, Nat.reduceEqDiff, reduceIte, Nat.reduceMul, Nat.reduceAdd, Nat.reduceSub, Nat.add_zero, Nat.zero_add, Nat.mul_zero, eq_self_iff_true, jg_not_lt, jg_not_le, o, e1, al, dy, g1, g3, z]
theorem bcI_step {V : Vl} {a b i : Nat} {st : Bc} (h : i ≤ 8) : bcI V a b (8 - (i + 1)) (i + 1) (bcJ V a b i (8 - i) 1 st) = bcI V a b (8 - i) i st := by
  by_cases e : i = 8
  · subst e; rfl
  · rw [show 8 - i = (8 - (i + 1)) + 1 by omega]
    show _ = bcI V a b (8 - (i + 1)) (i + 1) (bcJ V a b i (8 - i) 1 st)
    rw [show 8 - (i + 1) + 1 = 8 - i by omega]
theorem sm_bc_out {V : Vl} (ho : okV V) {a b w : Nat} (ha : a < (vlW V).length) (hb : b < (vlW V).length) (hw : w < 3) (d : Nat) : ∀ (r i : Nat) (st : Bc) (z8 z9 : jm_V) (m : jm_M), i + r = (wL (gw (vlW V) a)).length + 1 → 1 ≤ i → st.1 ≤ 40 → mF V m → ∃ m', jm_ev false (d + 6) 11 1 jc_X12_bestCut 84 [vM, .inl (nI a), .inl (nI b), .inl (nI w), .inl (bx st), .inl (nI st.2.1), .inl (nI st.2.2), .inl (nI i), z8, z9] [] m = some (.inl (bcA (bcI V a b (8 - i) i st) w), jm_sI m' 40 0 0 2 (bcZ (bcI V a b (8 - i) i st))) ∧ jk PCh m m'
  | 0, i, st, z8, z9, m, hr, hi, hs, hF => by
    have h12 := ho.2.2.2.1.1
    have a8 := okW_8 (ho.2.2.2.1.2.1 a ha).1
    have o := sm_ofWord (k := a) (c := 0) (by omega) (by omega) (d + 4) m
    rw [sm_size hF.1 ha] at o
    refine ⟨m, ?_, .rf⟩
    rw [bcI_out _ _ (show (wL (gw (vlW V) a)).length < i by omega), l_X12_bestCut_84]
    unfold bcA bcZ bx
    by_cases c : st.1 = 0
    · simp (disch := omega) only [jg_lit, jg_litL, jg_m1, jg_m1L, nI_add, lN_add, pk_mul, jg_sub, jg_subM, jg_addM, jg_addM', jg_negM, jt_in, jt_ix, jt_bi, jt_bl, jt_bv, jt_lt, jg_dT, jg_dF, jt_c, jt_cd, ru_I, ru_L, jg_leI, jg_ltI, jg_eqI, jg_M1, jg_M2, jg_M3, jg_M4, jg_M5, jg_M6, jg_ltT, jg_ltF, jg_leT, jg_leF, jg_eqT, jg_eqF, cond_true, cond_false, ne_eq, not_true_eq_false, not_false_eq_true, decide_true, decide_false, if_true, if_false, and_true, true_and, and_false, false_and, or_true, true_or, or_false, false_or, Nat.reduceEqDiff, reduceIte, Nat.reduceMul, Nat.reduceAdd, Nat.reduceSub, Nat.add_zero, Nat.zero_add, Nat.mul_zero, eq_self_iff_true, jg_not_lt, jg_not_le, o, c, sm_refuse]
    · by_cases c0 : w = 0
      · simp (disch := omega) only [jg_lit, jg_litL, jg_m1, jg_m1L, nI_add, lN_add, pk_mul, jg_sub, jg_subM, jg_addM, jg_addM', jg_negM, jt_in, jt_ix, jt_bi, jt_bl, jt_bv, jt_lt, jg_dT, jg_dF, jt_c, jt_cd, ru_I, ru_L, jg_leI, jg_ltI, jg_eqI, jg_M1, jg_M2, jg_M3, jg_M4, jg_M5, jg_M6, jg_ltT, jg_ltF, jg_leT, jg_leF, jg_eqT, jg_eqF, cond_true, cond_false, ne_eq, not_true_eq_false, not_false_eq_true, decide_true, decide_false, if_true, if_false, and_true, true_and, and_false, false_and, or_true, true_or, or_false, false_or, Nat.reduceEqDiff, reduceIte, Nat.reduceMul, Nat.reduceAdd, Nat.reduceSub, Nat.add_zero, Nat.zero_add, Nat.mul_zero, eq_self_iff_true, jg_not_lt, jg_not_le, o, c, c0, sm_gives]
      · by_cases c1 : w = 1
        · simp (disch := omega) only [jg_lit, jg_litL, jg_m1, jg_m1L, nI_add, lN_add, pk_mul, jg_sub, jg_subM, jg_addM, jg_addM', jg_negM, jt_in, jt_ix, jt_bi, jt_bl, jt_bv, jt_lt, jg_dT, jg_dF, jt_c, jt_cd, ru_I, ru_L, jg_leI, jg_ltI, jg_eqI, jg_M1, jg_M2, jg_M3, jg_M4, jg_M5, jg_M6, jg_ltT, jg_ltF, jg_leT, jg_leF, jg_eqT, jg_eqF, cond_true, cond_false, ne_eq, not_true_eq_false, not_false_eq_true, decide_true, decide_false, if_true, if_false, and_true, true_and, and_false, false_and, or_true, true_or, or_false, false_or, Nat.reduceEqDiff, reduceIte, Nat.reduceMul, Nat.reduceAdd, Nat.reduceSub, Nat.add_zero, Nat.zero_add, Nat.mul_zero, eq_self_iff_true, jg_not_lt, jg_not_le, o, c, c1, sm_gives]
        · simp (disch := omega) only [jg_lit, jg_litL, jg_m1, jg_m1L, nI_add, lN_add, pk_mul, jg_sub, jg_subM, jg_addM, jg_addM', jg_negM, jt_in, jt_ix, jt_bi, jt_bl, jt_bv, jt_lt, jg_dT, jg_dF, jt_c, jt_cd, ru_I, ru_L, jg_leI, jg_ltI, jg_eqI, jg_M1, jg_M2, jg_M3, jg_M4, jg_M5, jg_M6, jg_ltT, jg_ltF, jg_leT, jg_leF, jg_eqT, jg_eqF, cond_true, cond_false, ne_eq, not_true_eq_false, not_false_eq_true, decide_true, decide_false, if_true, if_false, and_true, true_and, and_false, false_and, or_true, true_or, or_false, false_or, Nat.reduceEqDiff, reduceIte, Nat.reduceMul, Nat.reduceAdd, Nat.reduceSub, Nat.add_zero, Nat.zero_add, Nat.mul_zero, eq_self_iff_true, jg_not_lt, jg_not_le, o, c, sm_gives]
  | r + 1, i, st, z8, z9, m, hr, hi, hs, hF => by
    have h12 := ho.2.2.2.1.1
    have a8 := okW_8 (ho.2.2.2.1.2.1 a ha).1
    have o := sm_ofWord (k := a) (c := 0) (by omega) (by omega) (d + 4) m
    rw [sm_size hF.1 ha] at o
    obtain ⟨m1, z8', z9', e1, e2⟩ := sm_bc_in ho (w := w) ha hb hi (show i ≤ (wL (gw (vlW V) a)).length by omega) d (8 - i) 1 st z9 m (by omega) (by omega) hs hF
    obtain ⟨m', f1, f2⟩ := sm_bc_out ho ha hb hw d r (i + 1) (bcJ V a b i (8 - i) 1 st) z8' z9' m1 (by omega) (by omega) (bcJ_le _ _ hs) (mF_Ch hF ho e2)
    refine ⟨m', ?_, e2.tr f2⟩
    rw [bcI_step (show i ≤ 8 by omega)] at f1
    rw [← f1, ← e1, l_X12_bestCut_84]
    simp (disch := omega) only [jg_lit, jg_litL, jg_m1, jg_m1L, nI_add, lN_add, pk_mul, jg_sub, jg_subM, jg_addM, jg_addM', jg_negM, jt_in, jt_ix, jt_bi, jt_bl, jt_bv, jt_lt, jg_dT, jg_dF, jt_c, jt_cd, ru_I, ru_L, jg_leI, jg_ltI, jg_eqI, jg_M1, jg_M2, jg_M3, jg_M4, jg_M5, jg_M6, jg_ltT, jg_ltF, jg_leT, jg_leF, jg_eqT, jg_eqF, cond_true, cond_false, ne_eq, not_true_eq_false, not_false_eq_true, decide_true, decide_false, if_true, if_false, and_true, true_and, and_false, false_and, or_true, true_or, or_false, false_or, Nat.reduceEqDiff, reduceIte, Nat.reduceMul, Nat.reduceAdd, Nat.reduceSub, Nat.add_zero, Nat.zero_add, Nat.mul_zero, eq_self_iff_true, jg_not_lt, jg_not_le, o]
theorem ctW_full {p : Nat → Bool} : ∀ (r k v : Nat), ctW p r k v = v + r → ∀ q, k ≤ q → q < k + r → p q = true
  | 0, k, v, _, q, h1, h2 => by omega
  | r + 1, k, v, h, q, h1, h2 => by
    unfold ctW at h
    cases hp : p k with
    | true =>
      rw [hp] at h
      by_cases e : q = k
      · rw [e]; exact hp
      · exact ctW_full r (k + 1) (v + 1) (by simp at h; omega) q (by omega) (by omega)
    | false =>
      rw [hp] at h
      have := ctW_le p r (k + 1) v
      simp at h
      omega
theorem nLive_le {ws : List Wd} (h : ws.length ≤ 12) : nLive ws ≤ 12 := by
  have := ctW_le (liveB ws) ws.length 0 0
  unfold nLive
  omega
theorem sx_wrongCut1 {V : Vl} {m : jm_M} (h : xV V 0 m) (h12 : (vlW V).length ≤ 12) {x y : Int32} (hxy : (x < 0 ∨ nI (vlW V).length ≤ x) ∨ (y < 0 ∨ nI (vlW V).length ≤ y)) (d : Nat) : jm_sem false (d + 3) jn_X11_wrongCut [vX, .inl x, .inl y] m = some (.inl (nI 1), m) := by
  have p := sx_pair1 h h12 hxy d
  rw [e_X11_wrongCut]
  simp (disch := omega) only [jg_lit, jg_litL, jg_m1, jg_m1L, nI_add, lN_add, pk_mul, jg_sub, jg_subM, jg_addM, jg_addM', jg_negM, jt_in, jt_ix, jt_bi, jt_bl, jt_bv, jt_lt, jg_dT, jg_dF, jt_c, jt_cd, ru_I, ru_L, jg_leI, jg_ltI, jg_eqI, jg_M1, jg_M2, jg_M3, jg_M4, jg_M5, jg_M6, jg_ltT, jg_ltF, jg_leT, jg_leF, jg_eqT, jg_eqF, cond_true, cond_false, ne_eq, not_true_eq_false, not_false_eq_true, decide_true, decide_false, if_true, if_false, and_true, true_and, and_false, false_and, or_true, true_or, or_false, false_or, Nat.reduceEqDiff, reduceIte, Nat.reduceMul, Nat.reduceAdd, Nat.reduceSub, Nat.add_zero, Nat.zero_add, Nat.mul_zero, eq_self_iff_true, jg_not_lt, jg_not_le, p]
theorem sx_wrongCut4 {V : Vl} {m : jm_M} (h : xV V 0 m) (ho : okWs (vlW V)) {k l : Nat} (hk : k < (vlW V).length) (hl : l < (vlW V).length) (hn : nLive (vlW V) = 12) (d : Nat) : jm_sem false (d + 3) jn_X11_wrongCut [vX, .inl (nI k), .inl (nI l)] m = some (.inl (nI 4), m) := by
  have c := sx_countLiving h ho d
  rw [hn] at c
  rw [e_X11_wrongCut]
  by_cases c1 : wL (gw (vlW V) k) = []
  · have p := sx_pair6 h ho hk hl (Or.inl c1) d
    simp (disch := omega) only [jg_lit, jg_litL, jg_m1, jg_m1L, nI_add, lN_add, pk_mul, jg_sub, jg_subM, jg_addM, jg_addM', jg_negM, jt_in, jt_ix, jt_bi, jt_bl, jt_bv, jt_lt, jg_dT, jg_dF, jt_c, jt_cd, ru_I, ru_L, jg_leI, jg_ltI, jg_eqI, jg_M1, jg_M2, jg_M3, jg_M4, jg_M5, jg_M6, jg_ltT, jg_ltF, jg_leT, jg_leF, jg_eqT, jg_eqF, cond_true, cond_false, ne_eq, not_true_eq_false, not_false_eq_true, decide_true, decide_false, if_true, if_false, and_true, true_and, and_false, false_and, or_true, true_or, or_false, false_or, Nat.reduceEqDiff, reduceIte, Nat.reduceMul, Nat.reduceAdd, Nat.reduceSub, Nat.add_zero, Nat.zero_add, Nat.mul_zero, eq_self_iff_true, jg_not_lt, jg_not_le, p, c]
  · by_cases c2 : wL (gw (vlW V) l) = []
    · have p := sx_pair6 h ho hk hl (Or.inr c2) d
      simp (disch := omega) only [jg_lit, jg_litL, jg_m1, jg_m1L, nI_add, lN_add, pk_mul, jg_sub, jg_subM, jg_addM, jg_addM', jg_negM, jt_in, jt_ix, jt_bi, jt_bl, jt_bv, jt_lt, jg_dT, jg_dF, jt_c, jt_cd, ru_I, ru_L, jg_leI, jg_ltI, jg_eqI, jg_M1, jg_M2, jg_M3, jg_M4, jg_M5, jg_M6, jg_ltT, jg_ltF, jg_leT, jg_leF, jg_eqT, jg_eqF, cond_true, cond_false, ne_eq, not_true_eq_false, not_false_eq_true, decide_true, decide_false, if_true, if_false, and_true, true_and, and_false, false_and, or_true, true_or, or_false, false_or, Nat.reduceEqDiff, reduceIte, Nat.reduceMul, Nat.reduceAdd, Nat.reduceSub, Nat.add_zero, Nat.zero_add, Nat.mul_zero, eq_self_iff_true, jg_not_lt, jg_not_le, p, c]
    · have p := sx_pair0 h ho hk hl c1 c2 d
      simp (disch := omega) only [jg_lit, jg_litL, jg_m1, jg_m1L, nI_add, lN_add, pk_mul, jg_sub, jg_subM, jg_addM, jg_addM', jg_negM, jt_in, jt_ix, jt_bi, jt_bl, jt_bv, jt_lt, jg_dT, jg_dF, jt_c, jt_cd, ru_I, ru_L, jg_leI, jg_ltI, jg_eqI, jg_M1, jg_M2, jg_M3, jg_M4, jg_M5, jg_M6, jg_ltT, jg_ltF, jg_leT, jg_leF, jg_eqT, jg_eqF, cond_true, cond_false, ne_eq, not_true_eq_false, not_false_eq_true, decide_true, decide_false, if_true, if_false, and_true, true_and, and_false, false_and, or_true, true_or, or_false, false_or, Nat.reduceEqDiff, reduceIte, Nat.reduceMul, Nat.reduceAdd, Nat.reduceSub, Nat.add_zero, Nat.zero_add, Nat.mul_zero, eq_self_iff_true, jg_not_lt, jg_not_le, p, c]
theorem sx_wrongCut6 {V : Vl} {m : jm_M} (h : xV V 0 m) (ho : okWs (vlW V)) {k l : Nat} (hk : k < (vlW V).length) (hl : l < (vlW V).length) (hn : nLive (vlW V) ≠ 12) (hg : wL (gw (vlW V) k) = [] ∨ wL (gw (vlW V) l) = []) (d : Nat) : jm_sem false (d + 3) jn_X11_wrongCut [vX, .inl (nI k), .inl (nI l)] m = some (.inl (nI 6), m) := by
  have c := sx_countLiving h ho d
  have le := nLive_le ho.1
  have p := sx_pair6 h ho hk hl hg d
  rw [e_X11_wrongCut]
  simp (disch := omega) only [jg_lit, jg_litL, jg_m1, jg_m1L, nI_add, lN_add, pk_mul, jg_sub, jg_subM, jg_addM, jg_addM', jg_negM, jt_in, jt_ix, jt_bi, jt_bl, jt_bv, jt_lt, jg_dT, jg_dF, jt_c, jt_cd, ru_I, ru_L, jg_leI, jg_ltI, jg_eqI, jg_M1, jg_M2, jg_M3, jg_M4, jg_M5, jg_M6, jg_ltT, jg_ltF, jg_leT, jg_leF, jg_eqT, jg_eqF, cond_true, cond_false, ne_eq, not_true_eq_false, not_false_eq_true, decide_true, decide_false, if_true, if_false, and_true, true_and, and_false, false_and, or_true, true_or, or_false, false_or, Nat.reduceEqDiff, reduceIte, Nat.reduceMul, Nat.reduceAdd, Nat.reduceSub, Nat.add_zero, Nat.zero_add, Nat.mul_zero, eq_self_iff_true, jg_not_lt, jg_not_le, p, c]
theorem sx_wrongCut0 {V : Vl} {m : jm_M} (h : xV V 0 m) (ho : okWs (vlW V)) {k l : Nat} (hk : k < (vlW V).length) (hl : l < (vlW V).length) (hn : nLive (vlW V) ≠ 12) (hg : wL (gw (vlW V) k) ≠ []) (hg2 : wL (gw (vlW V) l) ≠ []) (d : Nat) : jm_sem false (d + 3) jn_X11_wrongCut [vX, .inl (nI k), .inl (nI l)] m = some (.inl (nI 0), m) := by
  have c := sx_countLiving h ho d
  have le := nLive_le ho.1
  have p := sx_pair0 h ho hk hl hg hg2 d
  rw [e_X11_wrongCut]
  simp (disch := omega) only [jg_lit, jg_litL, jg_m1, jg_m1L, nI_add, lN_add, pk_mul, jg_sub, jg_subM, jg_addM, jg_addM', jg_negM, jt_in, jt_ix, jt_bi, jt_bl, jt_bv, jt_lt, jg_dT, jg_dF, jt_c, jt_cd, ru_I, ru_L, jg_leI, jg_ltI, jg_eqI, jg_M1, jg_M2, jg_M3, jg_M4, jg_M5, jg_M6, jg_ltT, jg_ltF, jg_leT, jg_leF, jg_eqT, jg_eqF, cond_true, cond_false, ne_eq, not_true_eq_false, not_false_eq_true, decide_true, decide_false, if_true, if_false, and_true, true_and, and_false, false_and, or_true, true_or, or_false, false_or, Nat.reduceEqDiff, reduceIte, Nat.reduceMul, Nat.reduceAdd, Nat.reduceSub, Nat.add_zero, Nat.zero_add, Nat.mul_zero, eq_self_iff_true, jg_not_lt, jg_not_le, p, c]
