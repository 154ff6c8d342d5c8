/-! ===== readings ===== -/
theorem sm_59 {t n j : Nat} {f : Nat → Int64} (ht : t < 4) (h6 : n ≤ 6) (hj : j ≤ n) {m : jm_M} (h5 : ∀ q, q < n → m.2 45 0 0 (60 * t + q) = f q) (hb : ∀ k, k < j → lN 1 ≤ f k) (z4 : jm_V) (d : Nat) : ∀ (r k : Nat), k + r = j → jm_ev false d 11 1 jc_X12_readings 59 [vM, .inl (nI t), .inl (nI n), .inl (nI k), z4] [] m = jm_ev false d 11 1 jc_X12_readings 59 [vM, .inl (nI t), .inl (nI n), .inl (nI j), z4] [] m
  | 0, k, hr => by rw [show k = j by omega]
  | r + 1, k, hr => by
    have h45 := h5 k (by omega)
    have c1 := eq_true (hb k (by omega))
    rw [← sm_59 ht h6 hj h5 hb z4 d r (k + 1) (by omega)]
    refine (l_X12_readings_59 _ _ _ _ _ _).trans ?_
    simp (disch := omega) only [jg_lit, jg_litL, jg_m1, jg_m1L, nI_add, lN_add, pk_mul, jg_sub, jg_subM, jg_addM, jg_addM', jg_negM, jt_in, jt_ix, jt_bi, jt_bl, jt_bv, jt_lt, jg_dT, jg_dF, jt_c, jt_cd, ru_I, ru_L, jg_leI, jg_ltI, jg_eqI, jg_M1, jg_M2, jg_M3, jg_M4, jg_M5, jg_M6, jg_ltT, jg_ltF, jg_leT, jg_leF, jg_eqT, jg_eqF, cond_true, cond_false, ne_eq, not_true_eq_false, not_false_eq_true, decide_true, decide_false, if_true, if_false, and_true, true_and, and_false, false_and, or_true, true_or, or_false, false_or, Nat.reduceEqDiff, reduceIte, Nat.reduceMul, Nat.reduceAdd, Nat.reduceSub, Nat.add_zero, Nat.zero_add, Nat.mul_zero, eq_self_iff_true, jg_not_lt, jg_not_le, h45, lc_le, c1]
theorem hs_get (f : Nat → Int64) (n : Nat) {q : Nat} (h : q < n) : ((List.range n).map f).getD q 0 = f q := by
  simp [List.getD, List.getElem?_map, List.getElem?_range h]
theorem P33_Q {m m' : jm_M} (f : fr P33 m m') : fr QX m m' := f.wk (fun K i j k z => by unfold P33 at z; unfold QX SO; omega)
theorem c_readings (x y : Int32) : jcall jn_X11_readings jn_X12_readings [.inl x, .inl y] := by
  intro s μ ho hx hm
  have xT' : xT (aT s) μ := hx.2.2.1
  have mT' : mT (aT s) μ := hm.2.2.1
  rcases row_cases (aT s) x y (most := 6) (by decide) with h | ⟨t, n, ht, h1, h6, rfl, rfl, h⟩
  · refine jcall_no ho hx hm (nI 1) (v := .inl jM) ?_ ?_
    · have r := sx_row1 (most := 6) (by decide) h 96 μ
      rw [e_X11_readings]; simp (disch := omega) only [jg_lit, jg_litL, jg_m1, jg_m1L, nI_add, lN_add, pk_mul, jg_sub, jg_subM, jg_addM, jg_addM', jg_negM, jt_in, jt_ix, jt_bi, jt_bl, jt_bv, jt_lt, jg_dT, jg_dF, jt_c, jt_cd, ru_I, ru_L, jg_leI, jg_ltI, jg_eqI, jg_M1, jg_M2, jg_M3, jg_M4, jg_M5, jg_M6, jg_ltT, jg_ltF, jg_leT, jg_leF, jg_eqT, jg_eqF, cond_true, cond_false, ne_eq, not_true_eq_false, not_false_eq_true, decide_true, decide_false, if_true, if_false, and_true, true_and, and_false, false_and, or_true, true_or, or_false, false_or, Nat.reduceEqDiff, reduceIte, Nat.reduceMul, Nat.reduceAdd, Nat.reduceSub, Nat.add_zero, Nat.zero_add, Nat.mul_zero, eq_self_iff_true, jg_not_lt, jg_not_le, r, sx_fail]
    · rw [e_X12_readings]
      rcases in_cases x (show 4 < 2 ^ 31 by decide) with hx | ⟨t, ht, rfl⟩
      · have i := sm_isTrayF hx 97 μ
        simp (disch := omega) only [jg_lit, jg_litL, jg_m1, jg_m1L, nI_add, lN_add, pk_mul, jg_sub, jg_subM, jg_addM, jg_addM', jg_negM, jt_in, jt_ix, jt_bi, jt_bl, jt_bv, jt_lt, jg_dT, jg_dF, jt_c, jt_cd, ru_I, ru_L, jg_leI, jg_ltI, jg_eqI, jg_M1, jg_M2, jg_M3, jg_M4, jg_M5, jg_M6, jg_ltT, jg_ltF, jg_leT, jg_leF, jg_eqT, jg_eqF, cond_true, cond_false, ne_eq, not_true_eq_false, not_false_eq_true, decide_true, decide_false, if_true, if_false, and_true, true_and, and_false, false_and, or_true, true_or, or_false, false_or, Nat.reduceEqDiff, reduceIte, Nat.reduceMul, Nat.reduceAdd, Nat.reduceSub, Nat.add_zero, Nat.zero_add, Nat.mul_zero, eq_self_iff_true, jg_not_lt, jg_not_le, i, sm_refuse]
      · have i := sm_isTrayT ht 97 μ
        have hy := h.resolve_left (tr_in ht)
        have f1 := sm_isFromI (lo := 1) (hi := 6) (by decide) (by decide) 97 y μ
        rw [if_pos (show y < nI 1 ∨ nI 6 < y from hy)] at f1
        simp (disch := omega) only [jg_lit, jg_litL, jg_m1, jg_m1L, nI_add, lN_add, pk_mul, jg_sub, jg_subM, jg_addM, jg_addM', jg_negM, jt_in, jt_ix, jt_bi, jt_bl, jt_bv, jt_lt, jg_dT, jg_dF, jt_c, jt_cd, ru_I, ru_L, jg_leI, jg_ltI, jg_eqI, jg_M1, jg_M2, jg_M3, jg_M4, jg_M5, jg_M6, jg_ltT, jg_ltF, jg_leT, jg_leF, jg_eqT, jg_eqF, cond_true, cond_false, ne_eq, not_true_eq_false, not_false_eq_true, decide_true, decide_false, if_true, if_false, and_true, true_and, and_false, false_and, or_true, true_or, or_false, false_or, Nat.reduceEqDiff, reduceIte, Nat.reduceMul, Nat.reduceAdd, Nat.reduceSub, Nat.add_zero, Nat.zero_add, Nat.mul_zero, eq_self_iff_true, jg_not_lt, jg_not_le, i, f1, sm_refuse]
  · have i := sm_isTrayT ht 97 μ
    have f1 := sm_isFromI (lo := 1) (hi := 6) (by decide) (by decide) 97 (nI n) μ
    rw [if_neg (fun z => by
      rcases z with z | z
      · exact nI_nlt h1 (by omega) z
      · exact nI_nlt h6 (by omega) z)] at f1
    rcases h with hT | ⟨so, sz, f, hT, h⟩
    · refine jcall_no ho hx hm (nI 2) (v := .inl jM) ?_ ?_
      · have r := sx_row2 (most := 6) xT' ht h1 h6 (by decide) hT 96
        rw [e_X11_readings]; simp (disch := omega) only [jg_lit, jg_litL, jg_m1, jg_m1L, nI_add, lN_add, pk_mul, jg_sub, jg_subM, jg_addM, jg_addM', jg_negM, jt_in, jt_ix, jt_bi, jt_bl, jt_bv, jt_lt, jg_dT, jg_dF, jt_c, jt_cd, ru_I, ru_L, jg_leI, jg_ltI, jg_eqI, jg_M1, jg_M2, jg_M3, jg_M4, jg_M5, jg_M6, jg_ltT, jg_ltF, jg_leT, jg_leF, jg_eqT, jg_eqF, cond_true, cond_false, ne_eq, not_true_eq_false, not_false_eq_true, decide_true, decide_false, if_true, if_false, and_true, true_and, and_false, false_and, or_true, true_or, or_false, false_or, Nat.reduceEqDiff, reduceIte, Nat.reduceMul, Nat.reduceAdd, Nat.reduceSub, Nat.add_zero, Nat.zero_add, Nat.mul_zero, eq_self_iff_true, jg_not_lt, jg_not_le, r, sx_fail]
      · have q := mT' t ht
        rw [hT] at q
        have q : μ.1 44 0 0 t = jM := q
        rw [e_X12_readings]; simp (disch := omega) only [jg_lit, jg_litL, jg_m1, jg_m1L, nI_add, lN_add, pk_mul, jg_sub, jg_subM, jg_addM, jg_addM', jg_negM, jt_in, jt_ix, jt_bi, jt_bl, jt_bv, jt_lt, jg_dT, jg_dF, jt_c, jt_cd, ru_I, ru_L, jg_leI, jg_ltI, jg_eqI, jg_M1, jg_M2, jg_M3, jg_M4, jg_M5, jg_M6, jg_ltT, jg_ltF, jg_leT, jg_leF, jg_eqT, jg_eqF, cond_true, cond_false, ne_eq, not_true_eq_false, not_false_eq_true, decide_true, decide_false, if_true, if_false, and_true, true_and, and_false, false_and, or_true, true_or, or_false, false_or, Nat.reduceEqDiff, reduceIte, Nat.reduceMul, Nat.reduceAdd, Nat.reduceSub, Nat.add_zero, Nat.zero_add, Nat.mul_zero, eq_self_iff_true, jg_not_lt, jg_not_le, i, f1, q, sm_refuse]
    · have q := mT' t ht
      rw [hT] at q
      have q2 := q.2.1
      have q4 := q.2.2.2.1
      have q5 := q.2.2.2.2
      rcases h with h | h
      · refine jcall_no ho hx hm (nI 3) (v := .inl jM) ?_ ?_
        · have r := sx_row3 (most := 6) xT' ht h1 h6 (by decide) hT h 96
          rw [e_X11_readings]; simp (disch := omega) only [jg_lit, jg_litL, jg_m1, jg_m1L, nI_add, lN_add, pk_mul, jg_sub, jg_subM, jg_addM, jg_addM', jg_negM, jt_in, jt_ix, jt_bi, jt_bl, jt_bv, jt_lt, jg_dT, jg_dF, jt_c, jt_cd, ru_I, ru_L, jg_leI, jg_ltI, jg_eqI, jg_M1, jg_M2, jg_M3, jg_M4, jg_M5, jg_M6, jg_ltT, jg_ltF, jg_leT, jg_leF, jg_eqT, jg_eqF, cond_true, cond_false, ne_eq, not_true_eq_false, not_false_eq_true, decide_true, decide_false, if_true, if_false, and_true, true_and, and_false, false_and, or_true, true_or, or_false, false_or, Nat.reduceEqDiff, reduceIte, Nat.reduceMul, Nat.reduceAdd, Nat.reduceSub, Nat.add_zero, Nat.zero_add, Nat.mul_zero, eq_self_iff_true, jg_not_lt, jg_not_le, r, sx_fail]
        · rw [e_X12_readings]; simp (disch := omega) only [jg_lit, jg_litL, jg_m1, jg_m1L, nI_add, lN_add, pk_mul, jg_sub, jg_subM, jg_addM, jg_addM', jg_negM, jt_in, jt_ix, jt_bi, jt_bl, jt_bv, jt_lt, jg_dT, jg_dF, jt_c, jt_cd, ru_I, ru_L, jg_leI, jg_ltI, jg_eqI, jg_M1, jg_M2, jg_M3, jg_M4, jg_M5, jg_M6, jg_ltT, jg_ltF, jg_leT, jg_leF, jg_eqT, jg_eqF, cond_true, cond_false, ne_eq, not_true_eq_false, not_false_eq_true, decide_true, decide_false, if_true, if_false, and_true, true_and, and_false, false_and, or_true, true_or, or_false, false_or, Nat.reduceEqDiff, reduceIte, Nat.reduceMul, Nat.reduceAdd, Nat.reduceSub, Nat.add_zero, Nat.zero_add, Nat.mul_zero, eq_self_iff_true, jg_not_lt, jg_not_le, i, f1, q4, sm_refuse]
      · have r := sx_row0 (most := 6) xT' ht h1 h6 (by decide) hT h 96
        have m59 : ∀ mm, jm_ev false 98 11 1 jc_X12_readings 59 [vM, .inl (nI t), .inl (nI n), .inl (nI 0), jm_j] [] μ = mm → jm_sem false 99 jn_X12_readings [vM, .inl (nI t), .inl (nI n)] μ = mm := fun mm e => by
          rw [e_X12_readings]; simp (disch := omega) only [jg_lit, jg_litL, jg_m1, jg_m1L, nI_add, lN_add, pk_mul, jg_sub, jg_subM, jg_addM, jg_addM', jg_negM, jt_in, jt_ix, jt_bi, jt_bl, jt_bv, jt_lt, jg_dT, jg_dF, jt_c, jt_cd, ru_I, ru_L, jg_leI, jg_ltI, jg_eqI, jg_M1, jg_M2, jg_M3, jg_M4, jg_M5, jg_M6, jg_ltT, jg_ltF, jg_leT, jg_leF, jg_eqT, jg_eqF, cond_true, cond_false, ne_eq, not_true_eq_false, not_false_eq_true, decide_true, decide_false, if_true, if_false, and_true, true_and, and_false, false_and, or_true, true_or, or_false, false_or, Nat.reduceEqDiff, reduceIte, Nat.reduceMul, Nat.reduceAdd, Nat.reduceSub, Nat.add_zero, Nat.zero_add, Nat.mul_zero, eq_self_iff_true, jg_not_lt, jg_not_le, i, f1, q4]; exact e
        rcases heard_cases f n with hb | ⟨j, hj, hf, hb⟩
        · obtain ⟨m1, a1, a2, a3, a4⟩ := sx_hear1 xT' ht hT h h6 hb 95
          have hl : ((List.range n).map f).length = n := by rw [List.length_map, List.length_range]
          obtain ⟨m2, b1, b2, b3⟩ := sx_countHe ho.1 (hs := (List.range n).map f) (by omega) (xV_n hx.1 a4 (fun K i j k z => by unfold P33 at z; omega)) (by rw [hl]; exact a2) (fun q hq => by rw [hl] at hq; rw [hs_get f n hq]; exact a3 q hq) 91
          have l59 := sm_59 ht h6 (Nat.le_refl n) (fun q hq => q5 q (by omega)) hb jm_j 98 n 0 (by omega)
          obtain ⟨n1, c1, c2, c3, c4⟩ := sm_94 ho.1 (nI t) (nI n) 92 (vlW (aV s)).length 0 jm_j μ (by omega) hm.1 (fun v hv => by omega)
          have hne : ∃ x0 rest, (List.range n).map f = x0 :: rest := by
            cases hh : (List.range n).map f with
            | nil => rw [hh] at hl; have hl : 0 = n := hl; omega
            | cons a b => exact ⟨a, b, rfl⟩
          obtain ⟨x0, rest, hne⟩ := hne
          have hI : rdI (aV s) t ((List.range n).map f) (jm_sI n1 58 0 0 0 jM) := ⟨mV_k c2.1 ho.1.2.2.2.1 (fun k => by rw [rd_II, if_neg (by omega)]), c3, fun q hq => by
            rw [hl] at hq
            rw [hs_get f n hq]
            show n1.2 45 0 0 _ = _
            rw [(c4 45 0 0 _ (by unfold P57; omega)).2]; exact q5 q (by omega)⟩
          obtain ⟨n2, d1, d2⟩ := rd_all ho.1 (d := 95) ht (hs := (List.range n).map f) (by omega) rest x0 0 hne σ0 (fun _ => 0) 0 (jm_sI n1 58 0 0 0 jM) (fun i hi => by omega) (fun c hc => rfl) hI (by rw [rd_II, if_pos ⟨rfl, rfl, rfl, rfl⟩])
          rw [← hne, Nat.zero_add, hl] at d1
          refine jcall_V ho hx hm ho.1 (ma := m2) (mb := n2) (v := .inl (nI (cnt (liveB (vlW (aV s))) (chF (aV s)) (vlW (aV s)).length ((List.range n).map f) σ0))) (nI 0) b2 ((P33_Q a4).tr (b3.wk (fun K i j k z => by unfold PHe at z; unfold QX SO; omega))) (mF_fr (mF_fr c2 ho.1 (fr_I (P := fun K _ _ _ => K = 58) (i := 0) (j := 0) (k := 0) (x := jM) rfl) (fun k _ => by omega) (fun k _ => by omega)) ho.1 d2 (fun k _ z => by have := z.1; omega) (fun k _ z => by have := z.1; omega)) (((c4.wk (fun K i j k z => by unfold P57 at z; unfold QM SM; omega)).tr (fr_I (by unfold QM SM; omega))).tr (d2.wk (fun K i j k z => by have := z.1; unfold QM SM; omega))) ?_ ?_
          · rw [e_X11_readings]; simp (disch := omega) only [jg_lit, jg_litL, jg_m1, jg_m1L, nI_add, lN_add, pk_mul, jg_sub, jg_subM, jg_addM, jg_addM', jg_negM, jt_in, jt_ix, jt_bi, jt_bl, jt_bv, jt_lt, jg_dT, jg_dF, jt_c, jt_cd, ru_I, ru_L, jg_leI, jg_ltI, jg_eqI, jg_M1, jg_M2, jg_M3, jg_M4, jg_M5, jg_M6, jg_ltT, jg_ltF, jg_leT, jg_leF, jg_eqT, jg_eqF, cond_true, cond_false, ne_eq, not_true_eq_false, not_false_eq_true, decide_true, decide_false, if_true, if_false, and_true, true_and, and_false, false_and, or_true, true_or, or_false, false_or, Nat.reduceEqDiff, reduceIte, Nat.reduceMul, Nat.reduceAdd, Nat.reduceSub, Nat.add_zero, Nat.zero_add, Nat.mul_zero, eq_self_iff_true, jg_not_lt, jg_not_le, r, a1, b1, sx_give, Bool.and_true]
          · refine m59 _ ?_
            rw [l59]
            refine (l_X12_readings_59 _ _ _ _ _ _).trans ?_
            simp (disch := omega) only [jg_lit, jg_litL, jg_m1, jg_m1L, nI_add, lN_add, pk_mul, jg_sub, jg_subM, jg_addM, jg_addM', jg_negM, jt_in, jt_ix, jt_bi, jt_bl, jt_bv, jt_lt, jg_dT, jg_dF, jt_c, jt_cd, ru_I, ru_L, jg_leI, jg_ltI, jg_eqI, jg_M1, jg_M2, jg_M3, jg_M4, jg_M5, jg_M6, jg_ltT, jg_ltF, jg_leT, jg_leF, jg_eqT, jg_eqF, cond_true, cond_false, ne_eq, not_true_eq_false, not_false_eq_true, decide_true, decide_false, if_true, if_false, and_true, true_and, and_false, false_and, or_true, true_or, or_false, false_or, Nat.reduceEqDiff, reduceIte, Nat.reduceMul, Nat.reduceAdd, Nat.reduceSub, Nat.add_zero, Nat.zero_add, Nat.mul_zero, eq_self_iff_true, jg_not_lt, jg_not_le]
            rw [c1, d1]
            refine (l_X12_readings_177 _ _ _ _ _ _).trans ?_
            rw [show decide (nI 0 + jM < 0) = true by decide, cond_true, sm_gives, jt_bi]
            rfl
        · obtain ⟨m1, a1, a4⟩ := sx_hear0 xT' ht hT h h6 hj hb hf 95
          have l59 := sm_59 ht h6 (Nat.le_of_lt hj) (fun q hq => q5 q (by omega)) hb jm_j 98 j 0 (by omega)
          have q5j := q5 j (by omega)
          have cf : (lN 1 ≤ f j) = False := eq_false (Int64.not_le.mpr hf)
          refine jcall_V ho hx hm ho.1 (ma := m1) (mb := μ) (v := .inl jM) (nI 5) (xV_n hx.1 a4 (fun K i j k z => by unfold P33 at z; omega)) (P33_Q a4) hm.1 .rf ?_ ?_
          · rw [e_X11_readings]; simp (disch := omega) only [jg_lit, jg_litL, jg_m1, jg_m1L, nI_add, lN_add, pk_mul, jg_sub, jg_subM, jg_addM, jg_addM', jg_negM, jt_in, jt_ix, jt_bi, jt_bl, jt_bv, jt_lt, jg_dT, jg_dF, jt_c, jt_cd, ru_I, ru_L, jg_leI, jg_ltI, jg_eqI, jg_M1, jg_M2, jg_M3, jg_M4, jg_M5, jg_M6, jg_ltT, jg_ltF, jg_leT, jg_leF, jg_eqT, jg_eqF, cond_true, cond_false, ne_eq, not_true_eq_false, not_false_eq_true, decide_true, decide_false, if_true, if_false, and_true, true_and, and_false, false_and, or_true, true_or, or_false, false_or, Nat.reduceEqDiff, reduceIte, Nat.reduceMul, Nat.reduceAdd, Nat.reduceSub, Nat.add_zero, Nat.zero_add, Nat.mul_zero, eq_self_iff_true, jg_not_lt, jg_not_le, r, a1, sx_fail, Bool.and_true]
          · refine m59 _ ?_
            rw [l59]
            refine (l_X12_readings_59 _ _ _ _ _ _).trans ?_
            simp (disch := omega) only [jg_lit, jg_litL, jg_m1, jg_m1L, nI_add, lN_add, pk_mul, jg_sub, jg_subM, jg_addM, jg_addM', jg_negM, jt_in, jt_ix, jt_bi, jt_bl, jt_bv, jt_lt, jg_dT, jg_dF, jt_c, jt_cd, ru_I, ru_L, jg_leI, jg_ltI, jg_eqI, jg_M1, jg_M2, jg_M3, jg_M4, jg_M5, jg_M6, jg_ltT, jg_ltF, jg_leT, jg_leF, jg_eqT, jg_eqF, cond_true, cond_false, ne_eq, not_true_eq_false, not_false_eq_true, decide_true, decide_false, if_true, if_false, and_true, true_and, and_false, false_and, or_true, true_or, or_false, false_or, Nat.reduceEqDiff, reduceIte, Nat.reduceMul, Nat.reduceAdd, Nat.reduceSub, Nat.add_zero, Nat.zero_add, Nat.mul_zero, eq_self_iff_true, jg_not_lt, jg_not_le, q5j, lc_le, cf, sm_refuse]
