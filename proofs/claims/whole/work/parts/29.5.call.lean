/-! ===== spread, follows, knows, pass ===== -/
theorem sx_knownForm {V : Vl} {i : Nat} {m : jm_M} (h : xH V i m) (ho : okV V) {s w : Nat} (hs : s < vlP V) (hw : w < (vlW V).length) (d : Nat) : jm_sem false (d + 2) jn_X8_knownForm [.inr (.inr (.inl (10, i, 0))), .inl (nI s), .inl (nI w)] m = some (.inr (.inl (lN (enc (vlK V s w)))), m) := by
  have h12 := ho.2.2.2.1.1
  have hp := ho.2.1
  have a := sx_isSpeakerT h hp hs d
  have b := sx_isWordT h h12 hw d
  have e := h.2.2.2.2.2.2 s w hs hw
  rw [e_X8_knownForm]
  simp (disch := omega) only [jg_lit, jg_litL, jg_m1, jg_m1L, nI_add, lN_add, pk_mul, jg_sub, jg_subM, jg_addM, jg_addM', jg_negM, jt_in, jt_ix, jt_bi, jt_bl, jt_bv, jt_lt, jg_dT, jg_dF, jt_c, jt_cd, ru_I, ru_L, jg_leI, jg_ltI, jg_eqI, jg_M1, jg_M2, jg_M3, jg_M4, jg_M5, jg_M6, jg_ltT, jg_ltF, jg_leT, jg_leF, jg_eqT, jg_eqF, cond_true, cond_false, ne_eq, not_true_eq_false, not_false_eq_true, decide_true, decide_false, if_true, if_false, and_true, true_and, and_false, false_and, or_true, true_or, or_false, false_or, Nat.reduceEqDiff, reduceIte, Nat.reduceMul, Nat.reduceAdd, Nat.reduceSub, Nat.add_zero, Nat.zero_add, Nat.mul_zero, eq_self_iff_true, jg_not_lt, jg_not_le, a, b, e]
theorem sx_understands {V : Vl} {i : Nat} {m : jm_M} (h : xV V i m) (ho : okV V) {s w : Nat} (hs : s < vlP V) (hw : w < (vlW V).length) (d : Nat) : jm_sem false (d + 3) jn_X8_understands [.inr (.inr (.inl (10, i, 0))), .inl (nI s), .inl (nI w)] m = some (.inl (nearB (vlK V s w) (wL (gw (vlW V) w))), m) := by
  have h12 := ho.2.2.2.1.1
  have hok := ho.2.2.2.1.2.1 w hw
  have hkk := ho.2.2.2.2.1 s w hs hw
  have b := sx_isWordT h.1 h12 hw (d + 1)
  have k := sx_knownForm h.1 ho hs hw d
  have f := (h.2 w hw).1
  have l := sx_isLeftOf hkk.1 hok.1.1 hkk.2 (okW_8 hok.1) d m
  rw [e_X8_understands]
  simp (disch := omega) only [jg_lit, jg_litL, jg_m1, jg_m1L, nI_add, lN_add, pk_mul, jg_sub, jg_subM, jg_addM, jg_addM', jg_negM, jt_in, jt_ix, jt_bi, jt_bl, jt_bv, jt_lt, jg_dT, jg_dF, jt_c, jt_cd, ru_I, ru_L, jg_leI, jg_ltI, jg_eqI, jg_M1, jg_M2, jg_M3, jg_M4, jg_M5, jg_M6, jg_ltT, jg_ltF, jg_leT, jg_leF, jg_eqT, jg_eqF, cond_true, cond_false, ne_eq, not_true_eq_false, not_false_eq_true, decide_true, decide_false, if_true, if_false, and_true, true_and, and_false, false_and, or_true, true_or, or_false, false_or, Nat.reduceEqDiff, reduceIte, Nat.reduceMul, Nat.reduceAdd, Nat.reduceSub, Nat.add_zero, Nat.zero_add, Nat.mul_zero, eq_self_iff_true, jg_not_lt, jg_not_le, b, Bool.and_true, k, f, l]
  unfold nearB
  split
  · rfl
  · rfl
theorem nearB_01 (a b : List Nat) : nearB a b = nI 0 ∨ nearB a b = nI 1 := by
  unfold nearB
  split
  · exact Or.inr rfl
  · exact Or.inl rfl
theorem sm_name {V : Vl} {m : jm_M} (h : mN V 0 m) {s w : Nat} (hs : s < vlP V) (hw : w < (vlW V).length) : m.2 42 0 0 (12 * s + w) = lN (enc (vlK V s w)) := by
  have := h s w hs hw
  rw [Nat.zero_add] at this
  exact this
theorem c_knows (x y : Int32) : jcall jn_X11_knows jn_X12_knows [.inl x, .inl y] := by
  intro s μ ho hx hm
  have h12 := ho.1.2.2.2.1.1
  have hp := ho.1.2.1
  rcases in_cases x (show vlP (aV s) < 2 ^ 31 by omega) with h | ⟨p, hp', rfl⟩
  · refine jcall_no ho hx hm 1 (v := .inr (.inl jM.toInt64)) ?_ ?_
    · rw [e_X11_knows, sx_isSpeakerF hx.1.1 h]
      simp (disch := omega) only [jg_lit, jg_litL, jg_m1, jg_m1L, nI_add, lN_add, pk_mul, jg_sub, jg_subM, jg_addM, jg_addM', jg_negM, jt_in, jt_ix, jt_bi, jt_bl, jt_bv, jt_lt, jg_dT, jg_dF, jt_c, jt_cd, ru_I, ru_L, jg_leI, jg_ltI, jg_eqI, jg_M1, jg_M2, jg_M3, jg_M4, jg_M5, jg_M6, jg_ltT, jg_ltF, jg_leT, jg_leF, jg_eqT, jg_eqF, cond_true, cond_false, ne_eq, not_true_eq_false, not_false_eq_true, decide_true, decide_false, if_true, if_false, and_true, true_and, and_false, false_and, or_true, true_or, or_false, false_or, Nat.reduceEqDiff, reduceIte, Nat.reduceMul, Nat.reduceAdd, Nat.reduceSub, Nat.add_zero, Nat.zero_add, Nat.mul_zero, eq_self_iff_true, jg_not_lt, jg_not_le, sx_fail]
    · rw [e_X12_knows, sm_isSpeakerF hm.1.1 h]
      simp (disch := omega) only [jg_lit, jg_litL, jg_m1, jg_m1L, nI_add, lN_add, pk_mul, jg_sub, jg_subM, jg_addM, jg_addM', jg_negM, jt_in, jt_ix, jt_bi, jt_bl, jt_bv, jt_lt, jg_dT, jg_dF, jt_c, jt_cd, ru_I, ru_L, jg_leI, jg_ltI, jg_eqI, jg_M1, jg_M2, jg_M3, jg_M4, jg_M5, jg_M6, jg_ltT, jg_ltF, jg_leT, jg_leF, jg_eqT, jg_eqF, cond_true, cond_false, ne_eq, not_true_eq_false, not_false_eq_true, decide_true, decide_false, if_true, if_false, and_true, true_and, and_false, false_and, or_true, true_or, or_false, false_or, Nat.reduceEqDiff, reduceIte, Nat.reduceMul, Nat.reduceAdd, Nat.reduceSub, Nat.add_zero, Nat.zero_add, Nat.mul_zero, eq_self_iff_true, jg_not_lt, jg_not_le, sm_refuse]
  · have a1 := sx_isSpeakerT hx.1.1 hp hp' 97
    have b1 := sm_isSpeakerT hm.1.1 hp hp' 97
    rcases in_cases y (show (vlW (aV s)).length < 2 ^ 31 by omega) with h | ⟨k, hk, rfl⟩
    · have a2 := sx_isWordF hx.1.1 h 97
      have b2 := sm_isWordF hm.1.1 h 97
      refine jcall_no ho hx hm 1 (v := .inr (.inl jM.toInt64)) ?_ ?_
      · rw [e_X11_knows]; simp (disch := omega) only [jg_lit, jg_litL, jg_m1, jg_m1L, nI_add, lN_add, pk_mul, jg_sub, jg_subM, jg_addM, jg_addM', jg_negM, jt_in, jt_ix, jt_bi, jt_bl, jt_bv, jt_lt, jg_dT, jg_dF, jt_c, jt_cd, ru_I, ru_L, jg_leI, jg_ltI, jg_eqI, jg_M1, jg_M2, jg_M3, jg_M4, jg_M5, jg_M6, jg_ltT, jg_ltF, jg_leT, jg_leF, jg_eqT, jg_eqF, cond_true, cond_false, ne_eq, not_true_eq_false, not_false_eq_true, decide_true, decide_false, if_true, if_false, and_true, true_and, and_false, false_and, or_true, true_or, or_false, false_or, Nat.reduceEqDiff, reduceIte, Nat.reduceMul, Nat.reduceAdd, Nat.reduceSub, Nat.add_zero, Nat.zero_add, Nat.mul_zero, eq_self_iff_true, jg_not_lt, jg_not_le, sx_fail, a1, a2]
      · rw [e_X12_knows]; simp (disch := omega) only [jg_lit, jg_litL, jg_m1, jg_m1L, nI_add, lN_add, pk_mul, jg_sub, jg_subM, jg_addM, jg_addM', jg_negM, jt_in, jt_ix, jt_bi, jt_bl, jt_bv, jt_lt, jg_dT, jg_dF, jt_c, jt_cd, ru_I, ru_L, jg_leI, jg_ltI, jg_eqI, jg_M1, jg_M2, jg_M3, jg_M4, jg_M5, jg_M6, jg_ltT, jg_ltF, jg_leT, jg_leF, jg_eqT, jg_eqF, cond_true, cond_false, ne_eq, not_true_eq_false, not_false_eq_true, decide_true, decide_false, if_true, if_false, and_true, true_and, and_false, false_and, or_true, true_or, or_false, false_or, Nat.reduceEqDiff, reduceIte, Nat.reduceMul, Nat.reduceAdd, Nat.reduceSub, Nat.add_zero, Nat.zero_add, Nat.mul_zero, eq_self_iff_true, jg_not_lt, jg_not_le, sm_refuse, b1, b2]
    · have a2 := sx_isWordT hx.1.1 h12 hk 97
      have b2 := sm_isWordT hm.1.1 h12 hk 97
      have a3 := sx_knownForm (xA_0 hx ho 0).1.1 ho.1 hp' hk 96
      have a3' : jm_sem false 98 jn_X8_knownForm [.inr (.inr (.inl (10, 0, 0))), .inl (nI p), .inl (nI k)] (jm_sI μ 0 0 0 14 (nI 0)) = some (.inr (.inl (lN (enc (vlK (aV s) p k)))), jm_sI μ 0 0 0 14 (nI 0)) := a3
      have b3 := sm_name hm.1.2.1 hp' hk
      refine jcall_no ho hx hm 0 (v := .inr (.inl (lN (enc (vlK (aV s) p k))))) ?_ ?_
      · rw [e_X11_knows]; simp (disch := omega) only [jg_lit, jg_litL, jg_m1, jg_m1L, nI_add, lN_add, pk_mul, jg_sub, jg_subM, jg_addM, jg_addM', jg_negM, jt_in, jt_ix, jt_bi, jt_bl, jt_bv, jt_lt, jg_dT, jg_dF, jt_c, jt_cd, ru_I, ru_L, jg_leI, jg_ltI, jg_eqI, jg_M1, jg_M2, jg_M3, jg_M4, jg_M5, jg_M6, jg_ltT, jg_ltF, jg_leT, jg_leF, jg_eqT, jg_eqF, cond_true, cond_false, ne_eq, not_true_eq_false, not_false_eq_true, decide_true, decide_false, if_true, if_false, and_true, true_and, and_false, false_and, or_true, true_or, or_false, false_or, Nat.reduceEqDiff, reduceIte, Nat.reduceMul, Nat.reduceAdd, Nat.reduceSub, Nat.add_zero, Nat.zero_add, Nat.mul_zero, eq_self_iff_true, jg_not_lt, jg_not_le, a1, a2, a3']
      · rw [e_X12_knows]; simp (disch := omega) only [jg_lit, jg_litL, jg_m1, jg_m1L, nI_add, lN_add, pk_mul, jg_sub, jg_subM, jg_addM, jg_addM', jg_negM, jt_in, jt_ix, jt_bi, jt_bl, jt_bv, jt_lt, jg_dT, jg_dF, jt_c, jt_cd, ru_I, ru_L, jg_leI, jg_ltI, jg_eqI, jg_M1, jg_M2, jg_M3, jg_M4, jg_M5, jg_M6, jg_ltT, jg_ltF, jg_leT, jg_leF, jg_eqT, jg_eqF, cond_true, cond_false, ne_eq, not_true_eq_false, not_false_eq_true, decide_true, decide_false, if_true, if_false, and_true, true_and, and_false, false_and, or_true, true_or, or_false, false_or, Nat.reduceEqDiff, reduceIte, Nat.reduceMul, Nat.reduceAdd, Nat.reduceSub, Nat.add_zero, Nat.zero_add, Nat.mul_zero, eq_self_iff_true, jg_not_lt, jg_not_le, b1, b2, b3, e_X12_givesLong]
theorem c_follows (x y : Int32) : jcall jn_X11_follows jn_X12_follows [.inl x, .inl y] := by
  intro s μ ho hx hm
  have h12 := ho.1.2.2.2.1.1
  have hp := ho.1.2.1
  rcases in_cases x (show vlP (aV s) < 2 ^ 31 by omega) with h | ⟨p, hp', rfl⟩
  · refine jcall_no ho hx hm 1 (v := .inl jM) ?_ ?_
    · rw [e_X11_follows, sx_isSpeakerF hx.1.1 h]
      simp (disch := omega) only [jg_lit, jg_litL, jg_m1, jg_m1L, nI_add, lN_add, pk_mul, jg_sub, jg_subM, jg_addM, jg_addM', jg_negM, jt_in, jt_ix, jt_bi, jt_bl, jt_bv, jt_lt, jg_dT, jg_dF, jt_c, jt_cd, ru_I, ru_L, jg_leI, jg_ltI, jg_eqI, jg_M1, jg_M2, jg_M3, jg_M4, jg_M5, jg_M6, jg_ltT, jg_ltF, jg_leT, jg_leF, jg_eqT, jg_eqF, cond_true, cond_false, ne_eq, not_true_eq_false, not_false_eq_true, decide_true, decide_false, if_true, if_false, and_true, true_and, and_false, false_and, or_true, true_or, or_false, false_or, Nat.reduceEqDiff, reduceIte, Nat.reduceMul, Nat.reduceAdd, Nat.reduceSub, Nat.add_zero, Nat.zero_add, Nat.mul_zero, eq_self_iff_true, jg_not_lt, jg_not_le, sx_fail]
    · rw [e_X12_follows, sm_isSpeakerF hm.1.1 h]
      simp (disch := omega) only [jg_lit, jg_litL, jg_m1, jg_m1L, nI_add, lN_add, pk_mul, jg_sub, jg_subM, jg_addM, jg_addM', jg_negM, jt_in, jt_ix, jt_bi, jt_bl, jt_bv, jt_lt, jg_dT, jg_dF, jt_c, jt_cd, ru_I, ru_L, jg_leI, jg_ltI, jg_eqI, jg_M1, jg_M2, jg_M3, jg_M4, jg_M5, jg_M6, jg_ltT, jg_ltF, jg_leT, jg_leF, jg_eqT, jg_eqF, cond_true, cond_false, ne_eq, not_true_eq_false, not_false_eq_true, decide_true, decide_false, if_true, if_false, and_true, true_and, and_false, false_and, or_true, true_or, or_false, false_or, Nat.reduceEqDiff, reduceIte, Nat.reduceMul, Nat.reduceAdd, Nat.reduceSub, Nat.add_zero, Nat.zero_add, Nat.mul_zero, eq_self_iff_true, jg_not_lt, jg_not_le, sm_refuse]
  · have a1 := sx_isSpeakerT hx.1.1 hp hp' 97
    have b1 := sm_isSpeakerT hm.1.1 hp hp' 97
    rcases w_cases (aV s) h12 y with h | ⟨k, hk, rfl, hg⟩ | ⟨k, hk, rfl, hg⟩
    · have a2 := sx_wrong1 hx.1 h 96
      have b2 := sm_isWordF hm.1.1 h 97
      refine jcall_no ho hx hm 1 (v := .inl jM) ?_ ?_
      · rw [e_X11_follows]; simp (disch := omega) only [jg_lit, jg_litL, jg_m1, jg_m1L, nI_add, lN_add, pk_mul, jg_sub, jg_subM, jg_addM, jg_addM', jg_negM, jt_in, jt_ix, jt_bi, jt_bl, jt_bv, jt_lt, jg_dT, jg_dF, jt_c, jt_cd, ru_I, ru_L, jg_leI, jg_ltI, jg_eqI, jg_M1, jg_M2, jg_M3, jg_M4, jg_M5, jg_M6, jg_ltT, jg_ltF, jg_leT, jg_leF, jg_eqT, jg_eqF, cond_true, cond_false, ne_eq, not_true_eq_false, not_false_eq_true, decide_true, decide_false, if_true, if_false, and_true, true_and, and_false, false_and, or_true, true_or, or_false, false_or, Nat.reduceEqDiff, reduceIte, Nat.reduceMul, Nat.reduceAdd, Nat.reduceSub, Nat.add_zero, Nat.zero_add, Nat.mul_zero, eq_self_iff_true, jg_not_lt, jg_not_le, sx_fail, a1, a2]
      · rw [e_X12_follows]; simp (disch := omega) only [jg_lit, jg_litL, jg_m1, jg_m1L, nI_add, lN_add, pk_mul, jg_sub, jg_subM, jg_addM, jg_addM', jg_negM, jt_in, jt_ix, jt_bi, jt_bl, jt_bv, jt_lt, jg_dT, jg_dF, jt_c, jt_cd, ru_I, ru_L, jg_leI, jg_ltI, jg_eqI, jg_M1, jg_M2, jg_M3, jg_M4, jg_M5, jg_M6, jg_ltT, jg_ltF, jg_leT, jg_leF, jg_eqT, jg_eqF, cond_true, cond_false, ne_eq, not_true_eq_false, not_false_eq_true, decide_true, decide_false, if_true, if_false, and_true, true_and, and_false, false_and, or_true, true_or, or_false, false_or, Nat.reduceEqDiff, reduceIte, Nat.reduceMul, Nat.reduceAdd, Nat.reduceSub, Nat.add_zero, Nat.zero_add, Nat.mul_zero, eq_self_iff_true, jg_not_lt, jg_not_le, sm_refuse, b1, b2]
    · have a2 := sx_wrong6 hx.1 ho.1.2.2.2.1 hk hg 96
      have b2 := sm_isWordT hm.1.1 h12 hk 97
      have o := sm_ofWord (k := k) (c := 0) (by omega) (by omega) 96 μ
      rw [sm_size hm.1.1 hk, hg] at o
      refine jcall_no ho hx hm 6 (v := .inl jM) ?_ ?_
      · rw [e_X11_follows]; simp (disch := omega) only [jg_lit, jg_litL, jg_m1, jg_m1L, nI_add, lN_add, pk_mul, jg_sub, jg_subM, jg_addM, jg_addM', jg_negM, jt_in, jt_ix, jt_bi, jt_bl, jt_bv, jt_lt, jg_dT, jg_dF, jt_c, jt_cd, ru_I, ru_L, jg_leI, jg_ltI, jg_eqI, jg_M1, jg_M2, jg_M3, jg_M4, jg_M5, jg_M6, jg_ltT, jg_ltF, jg_leT, jg_leF, jg_eqT, jg_eqF, cond_true, cond_false, ne_eq, not_true_eq_false, not_false_eq_true, decide_true, decide_false, if_true, if_false, and_true, true_and, and_false, false_and, or_true, true_or, or_false, false_or, Nat.reduceEqDiff, reduceIte, Nat.reduceMul, Nat.reduceAdd, Nat.reduceSub, Nat.add_zero, Nat.zero_add, Nat.mul_zero, eq_self_iff_true, jg_not_lt, jg_not_le, sx_fail, a1, a2]
      · rw [e_X12_follows]; simp (disch := omega) only [jg_lit, jg_litL, jg_m1, jg_m1L, nI_add, lN_add, pk_mul, jg_sub, jg_subM, jg_addM, jg_addM', jg_negM, jt_in, jt_ix, jt_bi, jt_bl, jt_bv, jt_lt, jg_dT, jg_dF, jt_c, jt_cd, ru_I, ru_L, jg_leI, jg_ltI, jg_eqI, jg_M1, jg_M2, jg_M3, jg_M4, jg_M5, jg_M6, jg_ltT, jg_ltF, jg_leT, jg_leF, jg_eqT, jg_eqF, cond_true, cond_false, ne_eq, not_true_eq_false, not_false_eq_true, decide_true, decide_false, if_true, if_false, and_true, true_and, and_false, false_and, or_true, true_or, or_false, false_or, Nat.reduceEqDiff, reduceIte, Nat.reduceMul, Nat.reduceAdd, Nat.reduceSub, Nat.add_zero, Nat.zero_add, Nat.mul_zero, eq_self_iff_true, jg_not_lt, jg_not_le, sm_refuse, b1, b2, o, List.length_nil]
    · have hok := ho.1.2.2.2.1.2.1 k hk
      have h8 := okW_8 hok.1
      have hkk := ho.1.2.2.2.2.1 p k hp' hk
      have hl : 0 < (wL (gw (vlW (aV s)) k)).length := List.length_pos_iff.mpr hg
      have a2 := sx_wrong0 hx.1 ho.1.2.2.2.1 hk hg 96
      have a3 := sx_understands hx.1 ho.1 hp' hk 95
      have b2 := sm_isWordT hm.1.1 h12 hk 97
      have o := sm_ofWord (k := k) (c := 0) (by omega) (by omega) 96 μ
      rw [sm_size hm.1.1 hk] at o
      have b3 := sm_name hm.1.2.1 hp' hk
      obtain ⟨m1, f1, f2, f3⟩ := sm_formOf (s := 0) (w := k) hok.1.1 (hm.1.1.2.2.2.2 k hk).1 (by omega) 96
      have b4 := sm_areNear hkk.1 hok.1.1 hkk.2 h8 97 m1
      have F1 := mF_Ch hm.1 ho.1 (jk_PMh f3)
      refine jcall_V ho hx hm ho.1 0 (v := .inl (nearB (vlK (aV s) p k) (wL (gw (vlW (aV s)) k)))) hx.1 .rf F1 (QM_Ch (jk_PMh f3)) ?_ ?_
      · rw [e_X11_follows]
        rcases nearB_01 (vlK (aV s) p k) (wL (gw (vlW (aV s)) k)) with e | e
        · rw [e] at a3 ⊢; simp (disch := omega) only [jg_lit, jg_litL, jg_m1, jg_m1L, nI_add, lN_add, pk_mul, jg_sub, jg_subM, jg_addM, jg_addM', jg_negM, jt_in, jt_ix, jt_bi, jt_bl, jt_bv, jt_lt, jg_dT, jg_dF, jt_c, jt_cd, ru_I, ru_L, jg_leI, jg_ltI, jg_eqI, jg_M1, jg_M2, jg_M3, jg_M4, jg_M5, jg_M6, jg_ltT, jg_ltF, jg_leT, jg_leF, jg_eqT, jg_eqF, cond_true, cond_false, ne_eq, not_true_eq_false, not_false_eq_true, decide_true, decide_false, if_true, if_false, and_true, true_and, and_false, false_and, or_true, true_or, or_false, false_or, Nat.reduceEqDiff, reduceIte, Nat.reduceMul, Nat.reduceAdd, Nat.reduceSub, Nat.add_zero, Nat.zero_add, Nat.mul_zero, eq_self_iff_true, jg_not_lt, jg_not_le, a1, a2, a3, sx_give]
        · rw [e] at a3 ⊢; simp (disch := omega) only [jg_lit, jg_litL, jg_m1, jg_m1L, nI_add, lN_add, pk_mul, jg_sub, jg_subM, jg_addM, jg_addM', jg_negM, jt_in, jt_ix, jt_bi, jt_bl, jt_bv, jt_lt, jg_dT, jg_dF, jt_c, jt_cd, ru_I, ru_L, jg_leI, jg_ltI, jg_eqI, jg_M1, jg_M2, jg_M3, jg_M4, jg_M5, jg_M6, jg_ltT, jg_ltF, jg_leT, jg_leF, jg_eqT, jg_eqF, cond_true, cond_false, ne_eq, not_true_eq_false, not_false_eq_true, decide_true, decide_false, if_true, if_false, and_true, true_and, and_false, false_and, or_true, true_or, or_false, false_or, Nat.reduceEqDiff, reduceIte, Nat.reduceMul, Nat.reduceAdd, Nat.reduceSub, Nat.add_zero, Nat.zero_add, Nat.mul_zero, eq_self_iff_true, jg_not_lt, jg_not_le, a1, a2, a3, sx_give]
      · rw [e_X12_follows]
        rcases nearB_01 (vlK (aV s) p k) (wL (gw (vlW (aV s)) k)) with e | e
        · rw [e] at b4 ⊢; simp (disch := omega) only [jg_lit, jg_litL, jg_m1, jg_m1L, nI_add, lN_add, pk_mul, jg_sub, jg_subM, jg_addM, jg_addM', jg_negM, jt_in, jt_ix, jt_bi, jt_bl, jt_bv, jt_lt, jg_dT, jg_dF, jt_c, jt_cd, ru_I, ru_L, jg_leI, jg_ltI, jg_eqI, jg_M1, jg_M2, jg_M3, jg_M4, jg_M5, jg_M6, jg_ltT, jg_ltF, jg_leT, jg_leF, jg_eqT, jg_eqF, cond_true, cond_false, ne_eq, not_true_eq_false, not_false_eq_true, decide_true, decide_false, if_true, if_false, and_true, true_and, and_false, false_and, or_true, true_or, or_false, false_or, Nat.reduceEqDiff, reduceIte, Nat.reduceMul, Nat.reduceAdd, Nat.reduceSub, Nat.add_zero, Nat.zero_add, Nat.mul_zero, eq_self_iff_true, jg_not_lt, jg_not_le, b1, b2, o, b3, f1, b4, sm_gives]
        · rw [e] at b4 ⊢; simp (disch := omega) only [jg_lit, jg_litL, jg_m1, jg_m1L, nI_add, lN_add, pk_mul, jg_sub, jg_subM, jg_addM, jg_addM', jg_negM, jt_in, jt_ix, jt_bi, jt_bl, jt_bv, jt_lt, jg_dT, jg_dF, jt_c, jt_cd, ru_I, ru_L, jg_leI, jg_ltI, jg_eqI, jg_M1, jg_M2, jg_M3, jg_M4, jg_M5, jg_M6, jg_ltT, jg_ltF, jg_leT, jg_leF, jg_eqT, jg_eqF, cond_true, cond_false, ne_eq, not_true_eq_false, not_false_eq_true, decide_true, decide_false, if_true, if_false, and_true, true_and, and_false, false_and, or_true, true_or, or_false, false_or, Nat.reduceEqDiff, reduceIte, Nat.reduceMul, Nat.reduceAdd, Nat.reduceSub, Nat.add_zero, Nat.zero_add, Nat.mul_zero, eq_self_iff_true, jg_not_lt, jg_not_le, b1, b2, o, b3, f1, b4, sm_gives]
/-- the same village on another day -/
def vlDay (V : Vl) (n : Nat) : Vl := (vlM V, vlP V, n, vlW V, vlK V, vlS V, vlR V)
theorem xV_day {V : Vl} {i : Nat} {m : jm_M} (h : xV V i m) (n : Nat) : xV (vlDay V n) i (jm_sI m 10 i 0 6 (nI n)) := by
  obtain ⟨⟨h1, h2, h3, h4, h5, h6, h7⟩, h8⟩ := h
  have e : ∀ K j k, ¬ (K = 10 ∧ k = 6) → (jm_sI m 10 i 0 6 (nI n)).1 K i j k = m.1 K i j k := fun K j k hn => by rw [rd_II, if_neg (fun z => hn ⟨z.1, z.2.2.2⟩)]
  refine ⟨⟨by rw [e _ _ _ (by omega)]; exact h1, by rw [e _ _ _ (by omega)]; exact h2, by rw [e _ _ _ (by omega)]; exact h3, by rw [rd_II, if_pos ⟨rfl, rfl, rfl, rfl⟩]; rfl, ?_, fun c a b => by rw [e _ _ _ (by omega)]; exact h6 c a b, h7⟩, fun j hj => xW_k (h8 j hj) (fun k => e _ _ _ (by omega)) (fun k => rfl)⟩
  unfold xL xC at h5 ⊢
  refine ⟨by rw [e _ _ _ (by omega)]; exact h5.1, by rw [e _ _ _ (by omega)]; exact h5.2.1, by rw [e _ _ _ (by omega)]; exact h5.2.2.1, fun k hk => by rw [e _ _ _ (by omega), e _ _ _ (by omega)]; exact h5.2.2.2.1 k hk, fun r hr => by rw [e _ _ _ (by omega), e _ _ _ (by omega)]; exact h5.2.2.2.2 r hr⟩
theorem okV_day {V : Vl} (h : okV V) {n : Nat} (hn : n ≤ 999) : okV (vlDay V n) := ⟨h.1, h.2.1, hn, h.2.2.2⟩
theorem mV_day {V : Vl} {s : Nat} {m : jm_M} (h : mV V s m) (ho : okWs (vlW V)) (n : Nat) : mV (vlDay V n) s (jm_sI m 41 0 0 (s + 4) (nI n)) := by
  obtain ⟨h1, h2, h3, h4, h5⟩ := h
  refine ⟨by rw [rd_II, if_neg (by omega)]; exact h1, by rw [rd_II, if_neg (by omega)]; exact h2, by rw [rd_II, if_neg (by omega)]; exact h3, by rw [rd_II, if_pos ⟨rfl, rfl, rfl, rfl⟩]; rfl, fun j hj => ?_⟩
  have hX := (ho.2.1 j hj).1.2.1
  exact mW_cp (h5 j hj) (show (wX (gw (vlW V) j)).length ≤ 8 by omega) (fun k hk => by rw [rd_II, if_neg (by omega)])
theorem mF_day {V : Vl} {m : jm_M} (h : mF V m) (ho : okV V) (n : Nat) : mF (vlDay V n) (jm_sI m 41 0 0 4 (nI n)) := by
  have hr := ho.2.2.2.2.2.2
  obtain ⟨a, b, c, e⟩ := h
  refine ⟨mV_day a ho.2.2.2.1 n, b, fun q q1 q2 => by rw [rd_II, if_neg (by omega)]; exact c q q1 q2, by rw [rd_II, if_neg (by omega)]; exact e.1, fun k hk => by rw [rd_II, if_neg (by omega)]; exact e.2.1 k hk, fun r hr => ?_⟩
  rw [rd_II, rd_II, rd_II, if_neg (by omega), if_neg (by omega), if_neg (by omega)]
  exact e.2.2 r hr
theorem c_pass (x : Int32) : jcall jn_X11_pass jn_X12_pass [.inl x] := by
  intro s μ ho hx hm
  have hD := ho.1.2.2.1
  have h6 := hx.1.1.2.2.2.1
  have m4 : μ.1 41 0 0 4 = nI (vlD (aV s)) := hm.1.1.2.2.2.1
  have fr0 := sm_isFromI (lo := 1) (hi := 99) (by decide) (by decide) 97 x μ
  have fr1 : jm_sem false 98 jn_X12_isFrom [.inr (.inl x.toInt64), .inr (.inl (lN 1)), .inr (.inl (lN 99))] μ = some (.inl (if x < nI 1 ∨ nI 99 < x then nI 0 else nI 1), μ) := fr0
  rcases in_range x 1 99 (by decide) (by decide) with h | ⟨k, hk1, hk2, rfl⟩
  · rw [if_pos h] at fr1
    refine jcall_no ho hx hm 1 (v := .inl jM) ?_ ?_
    · rw [e_X11_pass]
      by_cases c : x < 1
      · rw [jt_dt c]; simp (disch := omega) only [jg_lit, jg_litL, jg_m1, jg_m1L, nI_add, lN_add, pk_mul, jg_sub, jg_subM, jg_addM, jg_addM', jg_negM, jt_in, jt_ix, jt_bi, jt_bl, jt_bv, jt_lt, jg_dT, jg_dF, jt_c, jt_cd, ru_I, ru_L, jg_leI, jg_ltI, jg_eqI, jg_M1, jg_M2, jg_M3, jg_M4, jg_M5, jg_M6, jg_ltT, jg_ltF, jg_leT, jg_leF, jg_eqT, jg_eqF, cond_true, cond_false, ne_eq, not_true_eq_false, not_false_eq_true, decide_true, decide_false, if_true, if_false, and_true, true_and, and_false, false_and, or_true, true_or, or_false, false_or, Nat.reduceEqDiff, reduceIte, Nat.reduceMul, Nat.reduceAdd, Nat.reduceSub, Nat.add_zero, Nat.zero_add, Nat.mul_zero, eq_self_iff_true, jg_not_lt, jg_not_le, sx_fail]
      · have h2 : nI 99 < x := h.resolve_left c
        rw [jt_df c, jt_df (show ¬ x ≤ 99 from fun z => by
          have z : x ≤ nI 99 := z
          rw [Int32.le_iff_toInt_le] at z
          rw [Int32.lt_iff_toInt_lt] at h2
          omega)]
        simp (disch := omega) only [jg_lit, jg_litL, jg_m1, jg_m1L, nI_add, lN_add, pk_mul, jg_sub, jg_subM, jg_addM, jg_addM', jg_negM, jt_in, jt_ix, jt_bi, jt_bl, jt_bv, jt_lt, jg_dT, jg_dF, jt_c, jt_cd, ru_I, ru_L, jg_leI, jg_ltI, jg_eqI, jg_M1, jg_M2, jg_M3, jg_M4, jg_M5, jg_M6, jg_ltT, jg_ltF, jg_leT, jg_leF, jg_eqT, jg_eqF, cond_true, cond_false, ne_eq, not_true_eq_false, not_false_eq_true, decide_true, decide_false, if_true, if_false, and_true, true_and, and_false, false_and, or_true, true_or, or_false, false_or, Nat.reduceEqDiff, reduceIte, Nat.reduceMul, Nat.reduceAdd, Nat.reduceSub, Nat.add_zero, Nat.zero_add, Nat.mul_zero, eq_self_iff_true, jg_not_lt, jg_not_le, sx_fail]
    · rw [e_X12_pass]; simp (disch := omega) only [jg_lit, jg_litL, jg_m1, jg_m1L, nI_add, lN_add, pk_mul, jg_sub, jg_subM, jg_addM, jg_addM', jg_negM, jt_in, jt_ix, jt_bi, jt_bl, jt_bv, jt_lt, jg_dT, jg_dF, jt_c, jt_cd, ru_I, ru_L, jg_leI, jg_ltI, jg_eqI, jg_M1, jg_M2, jg_M3, jg_M4, jg_M5, jg_M6, jg_ltT, jg_ltF, jg_leT, jg_leF, jg_eqT, jg_eqF, cond_true, cond_false, ne_eq, not_true_eq_false, not_false_eq_true, decide_true, decide_false, if_true, if_false, and_true, true_and, and_false, false_and, or_true, true_or, or_false, false_or, Nat.reduceEqDiff, reduceIte, Nat.reduceMul, Nat.reduceAdd, Nat.reduceSub, Nat.add_zero, Nat.zero_add, Nat.mul_zero, eq_self_iff_true, jg_not_lt, jg_not_le, fr1, sm_refuse]
  · rw [if_neg (fun z => by
      rcases z with z | z
      · exact nI_nlt hk1 (by omega) z
      · exact nI_nlt hk2 (by omega) z)] at fr1
    by_cases c : vlD (aV s) + k ≤ 999
    · refine jcall_V ho hx hm (okV_day ho.1 c) 0 (v := .inl (nI (vlD (aV s) + k))) (xV_day hx.1 _) (fr_I (by unfold QX SO; omega)) (mF_day hm.1 ho.1 _) (fr_I (by unfold QM SM; omega)) ?_ ?_
      · rw [e_X11_pass]; simp (disch := omega) only [jg_lit, jg_litL, jg_m1, jg_m1L, nI_add, lN_add, pk_mul, jg_sub, jg_subM, jg_addM, jg_addM', jg_negM, jt_in, jt_ix, jt_bi, jt_bl, jt_bv, jt_lt, jg_dT, jg_dF, jt_c, jt_cd, ru_I, ru_L, jg_leI, jg_ltI, jg_eqI, jg_M1, jg_M2, jg_M3, jg_M4, jg_M5, jg_M6, jg_ltT, jg_ltF, jg_leT, jg_leF, jg_eqT, jg_eqF, cond_true, cond_false, ne_eq, not_true_eq_false, not_false_eq_true, decide_true, decide_false, if_true, if_false, and_true, true_and, and_false, false_and, or_true, true_or, or_false, false_or, Nat.reduceEqDiff, reduceIte, Nat.reduceMul, Nat.reduceAdd, Nat.reduceSub, Nat.add_zero, Nat.zero_add, Nat.mul_zero, eq_self_iff_true, jg_not_lt, jg_not_le, h6, sx_give]
      · rw [e_X12_pass]; simp (disch := omega) only [jg_lit, jg_litL, jg_m1, jg_m1L, nI_add, lN_add, pk_mul, jg_sub, jg_subM, jg_addM, jg_addM', jg_negM, jt_in, jt_ix, jt_bi, jt_bl, jt_bv, jt_lt, jg_dT, jg_dF, jt_c, jt_cd, ru_I, ru_L, jg_leI, jg_ltI, jg_eqI, jg_M1, jg_M2, jg_M3, jg_M4, jg_M5, jg_M6, jg_ltT, jg_ltF, jg_leT, jg_leF, jg_eqT, jg_eqF, cond_true, cond_false, ne_eq, not_true_eq_false, not_false_eq_true, decide_true, decide_false, if_true, if_false, and_true, true_and, and_false, false_and, or_true, true_or, or_false, false_or, Nat.reduceEqDiff, reduceIte, Nat.reduceMul, Nat.reduceAdd, Nat.reduceSub, Nat.add_zero, Nat.zero_add, Nat.mul_zero, eq_self_iff_true, jg_not_lt, jg_not_le, fr1, m4, sm_gives]
    · refine jcall_no ho hx hm 4 (v := .inl jM) ?_ ?_
      · rw [e_X11_pass]; simp (disch := omega) only [jg_lit, jg_litL, jg_m1, jg_m1L, nI_add, lN_add, pk_mul, jg_sub, jg_subM, jg_addM, jg_addM', jg_negM, jt_in, jt_ix, jt_bi, jt_bl, jt_bv, jt_lt, jg_dT, jg_dF, jt_c, jt_cd, ru_I, ru_L, jg_leI, jg_ltI, jg_eqI, jg_M1, jg_M2, jg_M3, jg_M4, jg_M5, jg_M6, jg_ltT, jg_ltF, jg_leT, jg_leF, jg_eqT, jg_eqF, cond_true, cond_false, ne_eq, not_true_eq_false, not_false_eq_true, decide_true, decide_false, if_true, if_false, and_true, true_and, and_false, false_and, or_true, true_or, or_false, false_or, Nat.reduceEqDiff, reduceIte, Nat.reduceMul, Nat.reduceAdd, Nat.reduceSub, Nat.add_zero, Nat.zero_add, Nat.mul_zero, eq_self_iff_true, jg_not_lt, jg_not_le, h6, sx_fail]
      · rw [e_X12_pass]; simp (disch := omega) only [jg_lit, jg_litL, jg_m1, jg_m1L, nI_add, lN_add, pk_mul, jg_sub, jg_subM, jg_addM, jg_addM', jg_negM, jt_in, jt_ix, jt_bi, jt_bl, jt_bv, jt_lt, jg_dT, jg_dF, jt_c, jt_cd, ru_I, ru_L, jg_leI, jg_ltI, jg_eqI, jg_M1, jg_M2, jg_M3, jg_M4, jg_M5, jg_M6, jg_ltT, jg_ltF, jg_leT, jg_leF, jg_eqT, jg_eqF, cond_true, cond_false, ne_eq, not_true_eq_false, not_false_eq_true, decide_true, decide_false, if_true, if_false, and_true, true_and, and_false, false_and, or_true, true_or, or_false, false_or, Nat.reduceEqDiff, reduceIte, Nat.reduceMul, Nat.reduceAdd, Nat.reduceSub, Nat.add_zero, Nat.zero_add, Nat.mul_zero, eq_self_iff_true, jg_not_lt, jg_not_le, fr1, m4, sm_refuse]
/-- is a form new among those of the speakers ahead? -/
def nwB (K : Nat → Nat → List Nat) (w s : Nat) : Nat → Nat → Bool → Bool
  | 0, _, b => b
  | r + 1, o, b => nwB K w s r (o + 1) (b && decide (K o w ≠ K s w))
theorem sx_new_loop {V : Vl} {i : Nat} {m : jm_M} (h : xH V i m) (ho : okV V) {w s : Nat} (hw : w < (vlW V).length) (hs : s < vlP V) (v d : Nat) : ∀ (r o : Nat) (b : Bool), o + r = s → jm_ev false (d + 2) 7 1 jc_X8_formsKnown 18 [.inr (.inr (.inl (10, i, 0))), .inl (nI w), .inl (nI v), .inl (nI s), .inl (bI b), .inl (nI o)] [] m = jm_ev false (d + 2) 7 1 jc_X8_formsKnown 4 [.inr (.inr (.inl (10, i, 0))), .inl (nI w), .inl (nI (if nwB (vlK V) w s r o b then v + 1 else v)), .inl (nI (s + 1)), .inl (bI (nwB (vlK V) w s r o b)), .inl (nI s)] [] m
  | 0, o, b, hr => by
    have hp := ho.2.1
    have : o = s := by omega
    subst this
    rw [l_X8_formsKnown_18]
    unfold nwB
    cases b
    · rw [bI_F]; simp (disch := omega) only [jg_lit, jg_litL, jg_m1, jg_m1L, nI_add, lN_add, pk_mul, jg_sub, jg_subM, jg_addM, jg_addM', jg_negM, jt_in, jt_ix, jt_bi, jt_bl, jt_bv, jt_lt, jg_dT, jg_dF, jt_c, jt_cd, ru_I, ru_L, jg_leI, jg_ltI, jg_eqI, jg_M1, jg_M2, jg_M3, jg_M4, jg_M5, jg_M6, jg_ltT, jg_ltF, jg_leT, jg_leF, jg_eqT, jg_eqF, cond_true, cond_false, ne_eq, not_true_eq_false, not_false_eq_true, decide_true, decide_false, if_true, if_false, and_true, true_and, and_false, false_and, or_true, true_or, or_false, false_or, Nat.reduceEqDiff, reduceIte, Nat.reduceMul, Nat.reduceAdd, Nat.reduceSub, Nat.add_zero, Nat.zero_add, Nat.mul_zero, eq_self_iff_true, jg_not_lt, jg_not_le, Bool.false_eq_true]
    · rw [bI_T]; simp (disch := omega) only [jg_lit, jg_litL, jg_m1, jg_m1L, nI_add, lN_add, pk_mul, jg_sub, jg_subM, jg_addM, jg_addM', jg_negM, jt_in, jt_ix, jt_bi, jt_bl, jt_bv, jt_lt, jg_dT, jg_dF, jt_c, jt_cd, ru_I, ru_L, jg_leI, jg_ltI, jg_eqI, jg_M1, jg_M2, jg_M3, jg_M4, jg_M5, jg_M6, jg_ltT, jg_ltF, jg_leT, jg_leF, jg_eqT, jg_eqF, cond_true, cond_false, ne_eq, not_true_eq_false, not_false_eq_true, decide_true, decide_false, if_true, if_false, and_true, true_and, and_false, false_and, or_true, true_or, or_false, false_or, Nat.reduceEqDiff, reduceIte, Nat.reduceMul, Nat.reduceAdd, Nat.reduceSub, Nat.add_zero, Nat.zero_add, Nat.mul_zero, eq_self_iff_true, jg_not_lt, jg_not_le]
  | r + 1, o, b, hr => by
    have hp := ho.2.1
    have k1 := sx_knownForm h ho (show o < vlP V by omega) hw d
    have k2 := sx_knownForm h ho hs hw d
    have ok1 := ho.2.2.2.2.1 o w (by omega) hw
    have ok2 := ho.2.2.2.2.1 s w hs hw
    have a40 := enc_40 ok1.1 ok1.2
    have b40 := enc_40 ok2.1 ok2.2
    have ec : (lg_cmp (lN (enc (vlK V o w))) (lN (enc (vlK V s w))) = nI 0) = (vlK V o w = vlK V s w) := propext ((cmp_eq (by omega) (by omega)).trans (enc_inj ok1.1 ok2.1))
    rw [l_X8_formsKnown_18]
    unfold nwB
    cases b
    · rw [bI_F, Bool.false_and]
      simp (disch := omega) only [jg_lit, jg_litL, jg_m1, jg_m1L, nI_add, lN_add, pk_mul, jg_sub, jg_subM, jg_addM, jg_addM', jg_negM, jt_in, jt_ix, jt_bi, jt_bl, jt_bv, jt_lt, jg_dT, jg_dF, jt_c, jt_cd, ru_I, ru_L, jg_leI, jg_ltI, jg_eqI, jg_M1, jg_M2, jg_M3, jg_M4, jg_M5, jg_M6, jg_ltT, jg_ltF, jg_leT, jg_leF, jg_eqT, jg_eqF, cond_true, cond_false, ne_eq, not_true_eq_false, not_false_eq_true, decide_true, decide_false, if_true, if_false, and_true, true_and, and_false, false_and, or_true, true_or, or_false, false_or, Nat.reduceEqDiff, reduceIte, Nat.reduceMul, Nat.reduceAdd, Nat.reduceSub, Nat.add_zero, Nat.zero_add, Nat.mul_zero, eq_self_iff_true, jg_not_lt, jg_not_le]
      exact sx_new_loop h ho hw hs v d r (o + 1) false (by omega)
    · rw [bI_T, Bool.true_and]
      by_cases c : vlK V o w = vlK V s w
      · have ec' := ec.trans (eq_true c)
        rw [show decide (vlK V o w ≠ vlK V s w) = false from decide_eq_false (fun z => z c)]
        simp (disch := omega) only [jg_lit, jg_litL, jg_m1, jg_m1L, nI_add, lN_add, pk_mul, jg_sub, jg_subM, jg_addM, jg_addM', jg_negM, jt_in, jt_ix, jt_bi, jt_bl, jt_bv, jt_lt, jg_dT, jg_dF, jt_c, jt_cd, ru_I, ru_L, jg_leI, jg_ltI, jg_eqI, jg_M1, jg_M2, jg_M3, jg_M4, jg_M5, jg_M6, jg_ltT, jg_ltF, jg_leT, jg_leF, jg_eqT, jg_eqF, cond_true, cond_false, ne_eq, not_true_eq_false, not_false_eq_true, decide_true, decide_false, if_true, if_false, and_true, true_and, and_false, false_and, or_true, true_or, or_false, false_or, Nat.reduceEqDiff, reduceIte, Nat.reduceMul, Nat.reduceAdd, Nat.reduceSub, Nat.add_zero, Nat.zero_add, Nat.mul_zero, eq_self_iff_true, jg_not_lt, jg_not_le, k1, k2, ec']
        exact sx_new_loop h ho hw hs v d r (o + 1) false (by omega)
      · have ec' := ec.trans (eq_false c)
        rw [show decide (vlK V o w ≠ vlK V s w) = true from decide_eq_true c]
        simp (disch := omega) only [jg_lit, jg_litL, jg_m1, jg_m1L, nI_add, lN_add, pk_mul, jg_sub, jg_subM, jg_addM, jg_addM', jg_negM, jt_in, jt_ix, jt_bi, jt_bl, jt_bv, jt_lt, jg_dT, jg_dF, jt_c, jt_cd, ru_I, ru_L, jg_leI, jg_ltI, jg_eqI, jg_M1, jg_M2, jg_M3, jg_M4, jg_M5, jg_M6, jg_ltT, jg_ltF, jg_leT, jg_leF, jg_eqT, jg_eqF, cond_true, cond_false, ne_eq, not_true_eq_false, not_false_eq_true, decide_true, decide_false, if_true, if_false, and_true, true_and, and_false, false_and, or_true, true_or, or_false, false_or, Nat.reduceEqDiff, reduceIte, Nat.reduceMul, Nat.reduceAdd, Nat.reduceSub, Nat.add_zero, Nat.zero_add, Nat.mul_zero, eq_self_iff_true, jg_not_lt, jg_not_le, k1, k2, ec']
        exact sx_new_loop h ho hw hs v d r (o + 1) true (by omega)
theorem sx_spread_loop {V : Vl} {i : Nat} {m : jm_M} (h : xH V i m) (ho : okV V) {w : Nat} (hw : w < (vlW V).length) (d : Nat) : ∀ (r s v : Nat) (z4 z5 : jm_V), s + r = vlP V → jm_ev false (d + 2) 7 1 jc_X8_formsKnown 4 [.inr (.inr (.inl (10, i, 0))), .inl (nI w), .inl (nI v), .inl (nI s), z4, z5] [] m = some (.inl (nI (ctW (fun s => nwB (vlK V) w s s 0 true) r s v)), m)
  | 0, s, v, z4, z5, hr => by
    have hp := ho.2.1
    have h5 := h.2.2.1
    rw [l_X8_formsKnown_4]
    simp (disch := omega) only [jg_lit, jg_litL, jg_m1, jg_m1L, nI_add, lN_add, pk_mul, jg_sub, jg_subM, jg_addM, jg_addM', jg_negM, jt_in, jt_ix, jt_bi, jt_bl, jt_bv, jt_lt, jg_dT, jg_dF, jt_c, jt_cd, ru_I, ru_L, jg_leI, jg_ltI, jg_eqI, jg_M1, jg_M2, jg_M3, jg_M4, jg_M5, jg_M6, jg_ltT, jg_ltF, jg_leT, jg_leF, jg_eqT, jg_eqF, cond_true, cond_false, ne_eq, not_true_eq_false, not_false_eq_true, decide_true, decide_false, if_true, if_false, and_true, true_and, and_false, false_and, or_true, true_or, or_false, false_or, Nat.reduceEqDiff, reduceIte, Nat.reduceMul, Nat.reduceAdd, Nat.reduceSub, Nat.add_zero, Nat.zero_add, Nat.mul_zero, eq_self_iff_true, jg_not_lt, jg_not_le, h5]
    rfl
  | r + 1, s, v, z4, z5, hr => by
    have hp := ho.2.1
    have h5 := h.2.2.1
    rw [l_X8_formsKnown_4]
    unfold ctW
    have := sx_new_loop h ho hw (show s < vlP V by omega) v d s 0 true (by omega)
    simp (disch := omega) only [jg_lit, jg_litL, jg_m1, jg_m1L, nI_add, lN_add, pk_mul, jg_sub, jg_subM, jg_addM, jg_addM', jg_negM, jt_in, jt_ix, jt_bi, jt_bl, jt_bv, jt_lt, jg_dT, jg_dF, jt_c, jt_cd, ru_I, ru_L, jg_leI, jg_ltI, jg_eqI, jg_M1, jg_M2, jg_M3, jg_M4, jg_M5, jg_M6, jg_ltT, jg_ltF, jg_leT, jg_leF, jg_eqT, jg_eqF, cond_true, cond_false, ne_eq, not_true_eq_false, not_false_eq_true, decide_true, decide_false, if_true, if_false, and_true, true_and, and_false, false_and, or_true, true_or, or_false, false_or, Nat.reduceEqDiff, reduceIte, Nat.reduceMul, Nat.reduceAdd, Nat.reduceSub, Nat.add_zero, Nat.zero_add, Nat.mul_zero, eq_self_iff_true, jg_not_lt, jg_not_le, h5]
    rw [show nI 1 = bI true from rfl, this]
    exact sx_spread_loop h ho hw d r (s + 1) _ _ _ (by omega)
theorem sm_new_loop {V : Vl} {m : jm_M} (h : mN V 0 m) (ho : okV V) {w s : Nat} (hw : w < (vlW V).length) (hs : s < vlP V) (v d : Nat) : ∀ (r o : Nat) (b : Bool), o + r = s → jm_ev false d 11 1 jc_X12_spread 34 [vM, .inl (nI w), .inl (nI v), .inl (nI s), .inl (bI (!b)), .inl (nI o)] [] m = jm_ev false d 11 1 jc_X12_spread 18 [vM, .inl (nI w), .inl (nI (if nwB (vlK V) w s r o b then v + 1 else v)), .inl (nI (s + 1)), .inl (bI (!nwB (vlK V) w s r o b)), .inl (nI s)] [] m
  | 0, o, b, hr => by
    have hp := ho.2.1
    have : o = s := by omega
    subst this
    rw [l_X12_spread_34]
    unfold nwB
    cases b
    · rw [Bool.not_false, bI_T]; simp (disch := omega) only [jg_lit, jg_litL, jg_m1, jg_m1L, nI_add, lN_add, pk_mul, jg_sub, jg_subM, jg_addM, jg_addM', jg_negM, jt_in, jt_ix, jt_bi, jt_bl, jt_bv, jt_lt, jg_dT, jg_dF, jt_c, jt_cd, ru_I, ru_L, jg_leI, jg_ltI, jg_eqI, jg_M1, jg_M2, jg_M3, jg_M4, jg_M5, jg_M6, jg_ltT, jg_ltF, jg_leT, jg_leF, jg_eqT, jg_eqF, cond_true, cond_false, ne_eq, not_true_eq_false, not_false_eq_true, decide_true, decide_false, if_true, if_false, and_true, true_and, and_false, false_and, or_true, true_or, or_false, false_or, Nat.reduceEqDiff, reduceIte, Nat.reduceMul, Nat.reduceAdd, Nat.reduceSub, Nat.add_zero, Nat.zero_add, Nat.mul_zero, eq_self_iff_true, jg_not_lt, jg_not_le, Bool.false_eq_true]
    · rw [Bool.not_true, bI_F]; simp (disch := omega) only [jg_lit, jg_litL, jg_m1, jg_m1L, nI_add, lN_add, pk_mul, jg_sub, jg_subM, jg_addM, jg_addM', jg_negM, jt_in, jt_ix, jt_bi, jt_bl, jt_bv, jt_lt, jg_dT, jg_dF, jt_c, jt_cd, ru_I, ru_L, jg_leI, jg_ltI, jg_eqI, jg_M1, jg_M2, jg_M3, jg_M4, jg_M5, jg_M6, jg_ltT, jg_ltF, jg_leT, jg_leF, jg_eqT, jg_eqF, cond_true, cond_false, ne_eq, not_true_eq_false, not_false_eq_true, decide_true, decide_false, if_true, if_false, and_true, true_and, and_false, false_and, or_true, true_or, or_false, false_or, Nat.reduceEqDiff, reduceIte, Nat.reduceMul, Nat.reduceAdd, Nat.reduceSub, Nat.add_zero, Nat.zero_add, Nat.mul_zero, eq_self_iff_true, jg_not_lt, jg_not_le]
  | r + 1, o, b, hr => by
    have hp := ho.2.1
    have h12 := ho.2.2.2.1.1
    have k1 := sm_name h (show o < vlP V by omega) hw
    have k2 := sm_name h hs hw
    have ok1 := ho.2.2.2.2.1 o w (by omega) hw
    have ok2 := ho.2.2.2.2.1 s w hs hw
    have a40 := enc_40 ok1.1 ok1.2
    have b40 := enc_40 ok2.1 ok2.2
    have ec : (lg_cmp (lN (enc (vlK V o w))) (lN (enc (vlK V s w))) = nI 0) = (vlK V o w = vlK V s w) := propext ((cmp_eq (by omega) (by omega)).trans (enc_inj ok1.1 ok2.1))
    rw [l_X12_spread_34]
    unfold nwB
    cases b
    · rw [Bool.not_false, bI_T, Bool.false_and]
      simp (disch := omega) only [jg_lit, jg_litL, jg_m1, jg_m1L, nI_add, lN_add, pk_mul, jg_sub, jg_subM, jg_addM, jg_addM', jg_negM, jt_in, jt_ix, jt_bi, jt_bl, jt_bv, jt_lt, jg_dT, jg_dF, jt_c, jt_cd, ru_I, ru_L, jg_leI, jg_ltI, jg_eqI, jg_M1, jg_M2, jg_M3, jg_M4, jg_M5, jg_M6, jg_ltT, jg_ltF, jg_leT, jg_leF, jg_eqT, jg_eqF, cond_true, cond_false, ne_eq, not_true_eq_false, not_false_eq_true, decide_true, decide_false, if_true, if_false, and_true, true_and, and_false, false_and, or_true, true_or, or_false, false_or, Nat.reduceEqDiff, reduceIte, Nat.reduceMul, Nat.reduceAdd, Nat.reduceSub, Nat.add_zero, Nat.zero_add, Nat.mul_zero, eq_self_iff_true, jg_not_lt, jg_not_le]
      exact sm_new_loop h ho hw hs v d r (o + 1) false (by omega)
    · rw [Bool.not_true, bI_F, Bool.true_and]
      by_cases c : vlK V o w = vlK V s w
      · have ec' := ec.trans (eq_true c)
        rw [show decide (vlK V o w ≠ vlK V s w) = false from decide_eq_false (fun z => z c)]
        simp (disch := omega) only [jg_lit, jg_litL, jg_m1, jg_m1L, nI_add, lN_add, pk_mul, jg_sub, jg_subM, jg_addM, jg_addM', jg_negM, jt_in, jt_ix, jt_bi, jt_bl, jt_bv, jt_lt, jg_dT, jg_dF, jt_c, jt_cd, ru_I, ru_L, jg_leI, jg_ltI, jg_eqI, jg_M1, jg_M2, jg_M3, jg_M4, jg_M5, jg_M6, jg_ltT, jg_ltF, jg_leT, jg_leF, jg_eqT, jg_eqF, cond_true, cond_false, ne_eq, not_true_eq_false, not_false_eq_true, decide_true, decide_false, if_true, if_false, and_true, true_and, and_false, false_and, or_true, true_or, or_false, false_or, Nat.reduceEqDiff, reduceIte, Nat.reduceMul, Nat.reduceAdd, Nat.reduceSub, Nat.add_zero, Nat.zero_add, Nat.mul_zero, eq_self_iff_true, jg_not_lt, jg_not_le, k1, k2, ec']
        exact sm_new_loop h ho hw hs v d r (o + 1) false (by omega)
      · have ec' := ec.trans (eq_false c)
        rw [show decide (vlK V o w ≠ vlK V s w) = true from decide_eq_true c]
        simp (disch := omega) only [jg_lit, jg_litL, jg_m1, jg_m1L, nI_add, lN_add, pk_mul, jg_sub, jg_subM, jg_addM, jg_addM', jg_negM, jt_in, jt_ix, jt_bi, jt_bl, jt_bv, jt_lt, jg_dT, jg_dF, jt_c, jt_cd, ru_I, ru_L, jg_leI, jg_ltI, jg_eqI, jg_M1, jg_M2, jg_M3, jg_M4, jg_M5, jg_M6, jg_ltT, jg_ltF, jg_leT, jg_leF, jg_eqT, jg_eqF, cond_true, cond_false, ne_eq, not_true_eq_false, not_false_eq_true, decide_true, decide_false, if_true, if_false, and_true, true_and, and_false, false_and, or_true, true_or, or_false, false_or, Nat.reduceEqDiff, reduceIte, Nat.reduceMul, Nat.reduceAdd, Nat.reduceSub, Nat.add_zero, Nat.zero_add, Nat.mul_zero, eq_self_iff_true, jg_not_lt, jg_not_le, k1, k2, ec']
        exact sm_new_loop h ho hw hs v d r (o + 1) true (by omega)
theorem sm_spread_loop {V : Vl} {m : jm_M} (hv : mV V 0 m) (h : mN V 0 m) (ho : okV V) {w : Nat} (hw : w < (vlW V).length) (d : Nat) : ∀ (r s v : Nat) (z4 z5 : jm_V), s + r = vlP V → jm_ev false (d + 1) 11 1 jc_X12_spread 18 [vM, .inl (nI w), .inl (nI v), .inl (nI s), z4, z5] [] m = some (.inl (nI (ctW (fun s => nwB (vlK V) w s s 0 true) r s v)), jm_sI m 40 0 0 2 0)
  | 0, s, v, z4, z5, hr => by
    have hp := ho.2.1
    have h5 : m.1 41 0 0 2 = nI (vlP V) := hv.2.2.1
    rw [l_X12_spread_18]
    simp (disch := omega) only [jg_lit, jg_litL, jg_m1, jg_m1L, nI_add, lN_add, pk_mul, jg_sub, jg_subM, jg_addM, jg_addM', jg_negM, jt_in, jt_ix, jt_bi, jt_bl, jt_bv, jt_lt, jg_dT, jg_dF, jt_c, jt_cd, ru_I, ru_L, jg_leI, jg_ltI, jg_eqI, jg_M1, jg_M2, jg_M3, jg_M4, jg_M5, jg_M6, jg_ltT, jg_ltF, jg_leT, jg_leF, jg_eqT, jg_eqF, cond_true, cond_false, ne_eq, not_true_eq_false, not_false_eq_true, decide_true, decide_false, if_true, if_false, and_true, true_and, and_false, false_and, or_true, true_or, or_false, false_or, Nat.reduceEqDiff, reduceIte, Nat.reduceMul, Nat.reduceAdd, Nat.reduceSub, Nat.add_zero, Nat.zero_add, Nat.mul_zero, eq_self_iff_true, jg_not_lt, jg_not_le, h5, sm_gives]
    rfl
  | r + 1, s, v, z4, z5, hr => by
    have hp := ho.2.1
    have h5 : m.1 41 0 0 2 = nI (vlP V) := hv.2.2.1
    rw [l_X12_spread_18]
    unfold ctW
    have := sm_new_loop h ho hw (show s < vlP V by omega) v (d + 1) s 0 true (by omega)
    simp (disch := omega) only [jg_lit, jg_litL, jg_m1, jg_m1L, nI_add, lN_add, pk_mul, jg_sub, jg_subM, jg_addM, jg_addM', jg_negM, jt_in, jt_ix, jt_bi, jt_bl, jt_bv, jt_lt, jg_dT, jg_dF, jt_c, jt_cd, ru_I, ru_L, jg_leI, jg_ltI, jg_eqI, jg_M1, jg_M2, jg_M3, jg_M4, jg_M5, jg_M6, jg_ltT, jg_ltF, jg_leT, jg_leF, jg_eqT, jg_eqF, cond_true, cond_false, ne_eq, not_true_eq_false, not_false_eq_true, decide_true, decide_false, if_true, if_false, and_true, true_and, and_false, false_and, or_true, true_or, or_false, false_or, Nat.reduceEqDiff, reduceIte, Nat.reduceMul, Nat.reduceAdd, Nat.reduceSub, Nat.add_zero, Nat.zero_add, Nat.mul_zero, eq_self_iff_true, jg_not_lt, jg_not_le, h5]
    rw [show [vM, .inl (nI w), .inl (nI v), .inl (nI s), .inl (nI 0), .inl (nI 0)] = [vM, .inl (nI w), .inl (nI v), .inl (nI s), .inl (bI (!true)), .inl (nI 0)] from rfl, this]
    exact sm_spread_loop hv h ho hw d r (s + 1) _ _ _ (by omega)
theorem c_spread (x : Int32) : jcall jn_X11_spread jn_X12_spread [.inl x] := by
  intro s μ ho hx hm
  have h12 := ho.1.2.2.2.1.1
  rcases in_cases x (show (vlW (aV s)).length < 2 ^ 31 by omega) with h | ⟨k, hk, rfl⟩
  · refine jcall_no ho hx hm 1 (v := .inl jM) ?_ ?_
    · rw [e_X11_spread, sx_isWordF hx.1.1 h]
      simp (disch := omega) only [jg_lit, jg_litL, jg_m1, jg_m1L, nI_add, lN_add, pk_mul, jg_sub, jg_subM, jg_addM, jg_addM', jg_negM, jt_in, jt_ix, jt_bi, jt_bl, jt_bv, jt_lt, jg_dT, jg_dF, jt_c, jt_cd, ru_I, ru_L, jg_leI, jg_ltI, jg_eqI, jg_M1, jg_M2, jg_M3, jg_M4, jg_M5, jg_M6, jg_ltT, jg_ltF, jg_leT, jg_leF, jg_eqT, jg_eqF, cond_true, cond_false, ne_eq, not_true_eq_false, not_false_eq_true, decide_true, decide_false, if_true, if_false, and_true, true_and, and_false, false_and, or_true, true_or, or_false, false_or, Nat.reduceEqDiff, reduceIte, Nat.reduceMul, Nat.reduceAdd, Nat.reduceSub, Nat.add_zero, Nat.zero_add, Nat.mul_zero, eq_self_iff_true, jg_not_lt, jg_not_le, sx_fail]
    · rw [e_X12_spread, sm_isWordF hm.1.1 h]
      simp (disch := omega) only [jg_lit, jg_litL, jg_m1, jg_m1L, nI_add, lN_add, pk_mul, jg_sub, jg_subM, jg_addM, jg_addM', jg_negM, jt_in, jt_ix, jt_bi, jt_bl, jt_bv, jt_lt, jg_dT, jg_dF, jt_c, jt_cd, ru_I, ru_L, jg_leI, jg_ltI, jg_eqI, jg_M1, jg_M2, jg_M3, jg_M4, jg_M5, jg_M6, jg_ltT, jg_ltF, jg_leT, jg_leF, jg_eqT, jg_eqF, cond_true, cond_false, ne_eq, not_true_eq_false, not_false_eq_true, decide_true, decide_false, if_true, if_false, and_true, true_and, and_false, false_and, or_true, true_or, or_false, false_or, Nat.reduceEqDiff, reduceIte, Nat.reduceMul, Nat.reduceAdd, Nat.reduceSub, Nat.add_zero, Nat.zero_add, Nat.mul_zero, eq_self_iff_true, jg_not_lt, jg_not_le, sm_refuse]
  · have l1 := sx_spread_loop hx.1.1 ho.1 hk 95 (vlP (aV s)) 0 0 jm_j jm_j (by omega)
    have l2 := sm_spread_loop hm.1.1 hm.1.2.1 ho.1 hk 97 (vlP (aV s)) 0 0 jm_j jm_j (by omega)
    refine jcall_no ho hx hm 0 (v := .inl (nI (ctW (fun q => nwB (vlK (aV s)) k q q 0 true) (vlP (aV s)) 0 0))) ?_ ?_
    · rw [e_X11_spread, sx_isWordT hx.1.1 h12 hk]
      simp (disch := omega) only [jg_lit, jg_litL, jg_m1, jg_m1L, nI_add, lN_add, pk_mul, jg_sub, jg_subM, jg_addM, jg_addM', jg_negM, jt_in, jt_ix, jt_bi, jt_bl, jt_bv, jt_lt, jg_dT, jg_dF, jt_c, jt_cd, ru_I, ru_L, jg_leI, jg_ltI, jg_eqI, jg_M1, jg_M2, jg_M3, jg_M4, jg_M5, jg_M6, jg_ltT, jg_ltF, jg_leT, jg_leF, jg_eqT, jg_eqF, cond_true, cond_false, ne_eq, not_true_eq_false, not_false_eq_true, decide_true, decide_false, if_true, if_false, and_true, true_and, and_false, false_and, or_true, true_or, or_false, false_or, Nat.reduceEqDiff, reduceIte, Nat.reduceMul, Nat.reduceAdd, Nat.reduceSub, Nat.add_zero, Nat.zero_add, Nat.mul_zero, eq_self_iff_true, jg_not_lt, jg_not_le, e_X8_formsKnown, l1, sx_give]
    · rw [e_X12_spread, sm_isWordT hm.1.1 h12 hk]
      simp (disch := omega) only [jg_lit, jg_litL, jg_m1, jg_m1L, nI_add, lN_add, pk_mul, jg_sub, jg_subM, jg_addM, jg_addM', jg_negM, jt_in, jt_ix, jt_bi, jt_bl, jt_bv, jt_lt, jg_dT, jg_dF, jt_c, jt_cd, ru_I, ru_L, jg_leI, jg_ltI, jg_eqI, jg_M1, jg_M2, jg_M3, jg_M4, jg_M5, jg_M6, jg_ltT, jg_ltF, jg_leT, jg_leF, jg_eqT, jg_eqF, cond_true, cond_false, ne_eq, not_true_eq_false, not_false_eq_true, decide_true, decide_false, if_true, if_false, and_true, true_and, and_false, false_and, or_true, true_or, or_false, false_or, Nat.reduceEqDiff, reduceIte, Nat.reduceMul, Nat.reduceAdd, Nat.reduceSub, Nat.add_zero, Nat.zero_add, Nat.mul_zero, eq_self_iff_true, jg_not_lt, jg_not_le]
      exact l2
