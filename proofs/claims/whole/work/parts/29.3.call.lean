/-! ===== chain, twin, say, lone, mute, lasts ===== -/
theorem xA_T {s : St} {μ μ' : jm_M} (h : xA s μ) (ho : okA s) (hf : fr (PT 0) μ μ') : xA s μ' := ⟨xV_T h.1 ho.1.2.2.2.1.1 hf, xO_fr h.2 ho (QX_T hf)⟩
theorem sx_chain_loop {V : Vl} (ho : okV V) {w : Wd} (hw : okW2 w) {n : Nat} (hn : n < 40) (z1 z3 : jm_V) (d : Nat) : ∀ (r k : Nat) (m : jm_M), k + r = n → xH V 0 m → xW (wearN V (vlD V) w k) 0 12 m → ∃ m', jm_ev false (d + 5) 10 5 jc_X11_chain 47 [vX, z1, .inl (nI n), z3, .inl (nI k)] [] m = some (.inr (.inl (lN (enc (wL (wearN V (vlD V) w n))))), m') ∧ fr (PT 0) m m'
  | 0, k, m, hr, h, hx => by
    have : k = n := by omega
    subst this
    have h0 := hx.1
    refine ⟨m, ?_, .rf⟩
    rw [l_X11_chain_47]
    simp (disch := omega) only [jg_lit, jg_litL, jg_m1, jg_m1L, nI_add, lN_add, pk_mul, jg_sub, jg_subM, jg_addM, jg_addM', jg_negM, jt_in, jt_ix, jt_bi, jt_bl, jt_bv, jt_lt, jg_dT, jg_dF, jt_c, jt_cd, ru_I, ru_L, jg_leI, jg_ltI, jg_eqI, jg_M1, jg_M2, jg_M3, jg_M4, jg_M5, jg_M6, jg_ltT, jg_ltF, jg_leT, jg_leF, jg_eqT, jg_eqF, cond_true, cond_false, ne_eq, not_true_eq_false, not_false_eq_true, decide_true, decide_false, if_true, if_false, and_true, true_and, and_false, false_and, or_true, true_or, or_false, false_or, Nat.reduceEqDiff, reduceIte, Nat.reduceMul, Nat.reduceAdd, Nat.reduceSub, Nat.add_zero, Nat.zero_add, Nat.mul_zero, eq_self_iff_true, jg_not_lt, jg_not_le, h0]
  | r + 1, k, m, hr, h, hx => by
    have h6 := h.2.2.2.1
    obtain ⟨m1, e1, x1, f1⟩ := sx_wearTried h ho hx (okW2_wearN ho.2.2.1 hw k) (vlD V) d
    obtain ⟨m2, e2, f2⟩ := sx_chain_loop ho hw hn z1 z3 d r (k + 1) m1 (by omega) (xH_T h f1) x1
    refine ⟨m2, ?_, f1.tr f2⟩
    rw [l_X11_chain_47]
    simp (disch := omega) only [jg_lit, jg_litL, jg_m1, jg_m1L, nI_add, lN_add, pk_mul, jg_sub, jg_subM, jg_addM, jg_addM', jg_negM, jt_in, jt_ix, jt_bi, jt_bl, jt_bv, jt_lt, jg_dT, jg_dF, jt_c, jt_cd, ru_I, ru_L, jg_leI, jg_ltI, jg_eqI, jg_M1, jg_M2, jg_M3, jg_M4, jg_M5, jg_M6, jg_ltT, jg_ltF, jg_leT, jg_leF, jg_eqT, jg_eqF, cond_true, cond_false, ne_eq, not_true_eq_false, not_false_eq_true, decide_true, decide_false, if_true, if_false, and_true, true_and, and_false, false_and, or_true, true_or, or_false, false_or, Nat.reduceEqDiff, reduceIte, Nat.reduceMul, Nat.reduceAdd, Nat.reduceSub, Nat.add_zero, Nat.zero_add, Nat.mul_zero, eq_self_iff_true, jg_not_lt, jg_not_le, h6, e1]
    exact e2
theorem not_in {x : Int32} {n : Nat} (h : x < 0 ∨ nI n ≤ x) (c : ¬ x < 0) (hn : n < 2 ^ 31) {q : Nat} (hq : q < n) : ¬ x ≤ nI q := fun z => by
  have h := h.resolve_left c
  rw [Int32.le_iff_toInt_le] at h z
  rw [nI_toInt hn] at h
  rw [nI_toInt (by omega)] at z
  omega
theorem not_in' {x : Int32} {n : Nat} (h : x < 0 ∨ nI n ≤ x) (c : ¬ x < 0) (hn : n < 2 ^ 31) : ¬ x < nI n := fun z => by
  have h := h.resolve_left c
  rw [Int32.le_iff_toInt_le] at h
  rw [Int32.lt_iff_toInt_lt] at z
  omega
theorem c_chain (x y : Int32) : jcall jn_X11_chain jn_X12_chain [.inl x, .inl y] := by
  intro s μ ho hx hm
  have h12 := ho.1.2.2.2.1.1
  have hno : (e : (y < 0 ∨ nI 40 ≤ y) ∨ (x < 0 ∨ nI (vlW (aV s)).length ≤ x)) → jm_sem false 99 jn_X11_chain [vX, .inl x, .inl y] μ = some (.inr (.inl jM.toInt64), jm_sI μ 0 0 0 14 1) ∧ jm_sem false 99 jn_X12_chain [vM, .inl x, .inl y] μ = some (.inr (.inl jM.toInt64), jm_sI μ 40 0 0 2 1) := by
    intro e
    constructor
    · rw [e_X11_chain]
      by_cases c : y < 0
      · rw [dec_T c]; simp (disch := omega) only [jg_lit, jg_litL, jg_m1, jg_m1L, nI_add, lN_add, pk_mul, jg_sub, jg_subM, jg_addM, jg_addM', jg_negM, jt_in, jt_ix, jt_bi, jt_bl, jt_bv, jt_lt, jg_dT, jg_dF, jt_c, jt_cd, ru_I, ru_L, jg_leI, jg_ltI, jg_eqI, jg_M1, jg_M2, jg_M3, jg_M4, jg_M5, jg_M6, jg_ltT, jg_ltF, jg_leT, jg_leF, jg_eqT, jg_eqF, cond_true, cond_false, ne_eq, not_true_eq_false, not_false_eq_true, decide_true, decide_false, if_true, if_false, and_true, true_and, and_false, false_and, or_true, true_or, or_false, false_or, Nat.reduceEqDiff, reduceIte, Nat.reduceMul, Nat.reduceAdd, Nat.reduceSub, Nat.add_zero, Nat.zero_add, Nat.mul_zero, eq_self_iff_true, jg_not_lt, jg_not_le, sx_fail]
      · rw [dec_F c]
        by_cases c2 : y < 40
        · have e : x < 0 ∨ nI (vlW (aV s)).length ≤ x := e.resolve_left (fun z => not_in' z c (by decide) c2)
          have w1 := sx_wrong1 hx.1 e 96
          rw [jt_dt c2, w1]; simp (disch := omega) only [jg_lit, jg_litL, jg_m1, jg_m1L, nI_add, lN_add, pk_mul, jg_sub, jg_subM, jg_addM, jg_addM', jg_negM, jt_in, jt_ix, jt_bi, jt_bl, jt_bv, jt_lt, jg_dT, jg_dF, jt_c, jt_cd, ru_I, ru_L, jg_leI, jg_ltI, jg_eqI, jg_M1, jg_M2, jg_M3, jg_M4, jg_M5, jg_M6, jg_ltT, jg_ltF, jg_leT, jg_leF, jg_eqT, jg_eqF, cond_true, cond_false, ne_eq, not_true_eq_false, not_false_eq_true, decide_true, decide_false, if_true, if_false, and_true, true_and, and_false, false_and, or_true, true_or, or_false, false_or, Nat.reduceEqDiff, reduceIte, Nat.reduceMul, Nat.reduceAdd, Nat.reduceSub, Nat.add_zero, Nat.zero_add, Nat.mul_zero, eq_self_iff_true, jg_not_lt, jg_not_le, sx_fail]
        · rw [jt_df c2]; simp (disch := omega) only [jg_lit, jg_litL, jg_m1, jg_m1L, nI_add, lN_add, pk_mul, jg_sub, jg_subM, jg_addM, jg_addM', jg_negM, jt_in, jt_ix, jt_bi, jt_bl, jt_bv, jt_lt, jg_dT, jg_dF, jt_c, jt_cd, ru_I, ru_L, jg_leI, jg_ltI, jg_eqI, jg_M1, jg_M2, jg_M3, jg_M4, jg_M5, jg_M6, jg_ltT, jg_ltF, jg_leT, jg_leF, jg_eqT, jg_eqF, cond_true, cond_false, ne_eq, not_true_eq_false, not_false_eq_true, decide_true, decide_false, if_true, if_false, and_true, true_and, and_false, false_and, or_true, true_or, or_false, false_or, Nat.reduceEqDiff, reduceIte, Nat.reduceMul, Nat.reduceAdd, Nat.reduceSub, Nat.add_zero, Nat.zero_add, Nat.mul_zero, eq_self_iff_true, jg_not_lt, jg_not_le, sx_fail]
    · rw [e_X12_chain]
      rcases in_cases x (show (vlW (aV s)).length < 2 ^ 31 by omega) with h | ⟨k, hk, rfl⟩
      · rw [sm_isWordF hm.1.1 h]; simp (disch := omega) only [jg_lit, jg_litL, jg_m1, jg_m1L, nI_add, lN_add, pk_mul, jg_sub, jg_subM, jg_addM, jg_addM', jg_negM, jt_in, jt_ix, jt_bi, jt_bl, jt_bv, jt_lt, jg_dT, jg_dF, jt_c, jt_cd, ru_I, ru_L, jg_leI, jg_ltI, jg_eqI, jg_M1, jg_M2, jg_M3, jg_M4, jg_M5, jg_M6, jg_ltT, jg_ltF, jg_leT, jg_leF, jg_eqT, jg_eqF, cond_true, cond_false, ne_eq, not_true_eq_false, not_false_eq_true, decide_true, decide_false, if_true, if_false, and_true, true_and, and_false, false_and, or_true, true_or, or_false, false_or, Nat.reduceEqDiff, reduceIte, Nat.reduceMul, Nat.reduceAdd, Nat.reduceSub, Nat.add_zero, Nat.zero_add, Nat.mul_zero, eq_self_iff_true, jg_not_lt, jg_not_le, sm_refuse]
      · have e : y < 0 ∨ nI 40 ≤ y := e.resolve_right (fun z => by
          rcases z with z | z
          · exact nI_pos (by omega) z
          · exact nI_ge hk (by omega) z)
        rw [sm_isWordT hm.1.1 h12 hk]
        by_cases c : y < 0
        · rw [dec_T c]; simp (disch := omega) only [jg_lit, jg_litL, jg_m1, jg_m1L, nI_add, lN_add, pk_mul, jg_sub, jg_subM, jg_addM, jg_addM', jg_negM, jt_in, jt_ix, jt_bi, jt_bl, jt_bv, jt_lt, jg_dT, jg_dF, jt_c, jt_cd, ru_I, ru_L, jg_leI, jg_ltI, jg_eqI, jg_M1, jg_M2, jg_M3, jg_M4, jg_M5, jg_M6, jg_ltT, jg_ltF, jg_leT, jg_leF, jg_eqT, jg_eqF, cond_true, cond_false, ne_eq, not_true_eq_false, not_false_eq_true, decide_true, decide_false, if_true, if_false, and_true, true_and, and_false, false_and, or_true, true_or, or_false, false_or, Nat.reduceEqDiff, reduceIte, Nat.reduceMul, Nat.reduceAdd, Nat.reduceSub, Nat.add_zero, Nat.zero_add, Nat.mul_zero, eq_self_iff_true, jg_not_lt, jg_not_le, sm_refuse]
        · rw [dec_F c, jt_df (show ¬ y < 40 from not_in' e c (by decide))]; simp (disch := omega) only [jg_lit, jg_litL, jg_m1, jg_m1L, nI_add, lN_add, pk_mul, jg_sub, jg_subM, jg_addM, jg_addM', jg_negM, jt_in, jt_ix, jt_bi, jt_bl, jt_bv, jt_lt, jg_dT, jg_dF, jt_c, jt_cd, ru_I, ru_L, jg_leI, jg_ltI, jg_eqI, jg_M1, jg_M2, jg_M3, jg_M4, jg_M5, jg_M6, jg_ltT, jg_ltF, jg_leT, jg_leF, jg_eqT, jg_eqF, cond_true, cond_false, ne_eq, not_true_eq_false, not_false_eq_true, decide_true, decide_false, if_true, if_false, and_true, true_and, and_false, false_and, or_true, true_or, or_false, false_or, Nat.reduceEqDiff, reduceIte, Nat.reduceMul, Nat.reduceAdd, Nat.reduceSub, Nat.add_zero, Nat.zero_add, Nat.mul_zero, eq_self_iff_true, jg_not_lt, jg_not_le, sm_refuse]
  rcases in_cases y (show 40 < 2 ^ 31 by omega) with h | ⟨n, hn, rfl⟩
  · obtain ⟨e1, e2⟩ := hno (Or.inl h)
    exact jcall_no ho hx hm 1 e1 e2
  · rcases w_cases (aV s) h12 x with h | ⟨k, hk, rfl, hg⟩ | ⟨k, hk, rfl, hg⟩
    · obtain ⟨e1, e2⟩ := hno (Or.inr h)
      exact jcall_no ho hx hm 1 e1 e2
    · have o := sm_ofWord (k := k) (c := 0) (by omega) (by omega) 96 μ
      rw [sm_size hm.1.1 hk, hg] at o
      have w6 := sx_wrong6 hx.1 ho.1.2.2.2.1 hk hg 96
      have im := sm_isWordT hm.1.1 h12 hk 97
      refine jcall_no ho hx hm 6 (v := .inr (.inl jM.toInt64)) ?_ ?_
      · rw [e_X11_chain]; simp (disch := omega) only [jg_lit, jg_litL, jg_m1, jg_m1L, nI_add, lN_add, pk_mul, jg_sub, jg_subM, jg_addM, jg_addM', jg_negM, jt_in, jt_ix, jt_bi, jt_bl, jt_bv, jt_lt, jg_dT, jg_dF, jt_c, jt_cd, ru_I, ru_L, jg_leI, jg_ltI, jg_eqI, jg_M1, jg_M2, jg_M3, jg_M4, jg_M5, jg_M6, jg_ltT, jg_ltF, jg_leT, jg_leF, jg_eqT, jg_eqF, cond_true, cond_false, ne_eq, not_true_eq_false, not_false_eq_true, decide_true, decide_false, if_true, if_false, and_true, true_and, and_false, false_and, or_true, true_or, or_false, false_or, Nat.reduceEqDiff, reduceIte, Nat.reduceMul, Nat.reduceAdd, Nat.reduceSub, Nat.add_zero, Nat.zero_add, Nat.mul_zero, eq_self_iff_true, jg_not_lt, jg_not_le, sx_fail, w6]
      · rw [e_X12_chain]; simp (disch := omega) only [jg_lit, jg_litL, jg_m1, jg_m1L, nI_add, lN_add, pk_mul, jg_sub, jg_subM, jg_addM, jg_addM', jg_negM, jt_in, jt_ix, jt_bi, jt_bl, jt_bv, jt_lt, jg_dT, jg_dF, jt_c, jt_cd, ru_I, ru_L, jg_leI, jg_ltI, jg_eqI, jg_M1, jg_M2, jg_M3, jg_M4, jg_M5, jg_M6, jg_ltT, jg_ltF, jg_leT, jg_leF, jg_eqT, jg_eqF, cond_true, cond_false, ne_eq, not_true_eq_false, not_false_eq_true, decide_true, decide_false, if_true, if_false, and_true, true_and, and_false, false_and, or_true, true_or, or_false, false_or, Nat.reduceEqDiff, reduceIte, Nat.reduceMul, Nat.reduceAdd, Nat.reduceSub, Nat.add_zero, Nat.zero_add, Nat.mul_zero, eq_self_iff_true, jg_not_lt, jg_not_le, sm_refuse, im, o, List.length_nil]
    · have hok := ho.1.2.2.2.1.2.1 k hk
      have h8 := okW_8 hok.1
      have hl : 0 < (wL (gw (vlW (aV s)) k)).length := List.length_pos_iff.mpr hg
      have o := sm_ofWord (k := k) (c := 0) (by omega) (by omega) 96 μ
      rw [sm_size hm.1.1 hk] at o
      have w0 := sx_wrong0 hx.1 ho.1.2.2.2.1 hk hg 96
      have im := sm_isWordT hm.1.1 h12 hk 97
      have a1 := xA_0 hx ho 0
      have ho1 : okA (stV s (aV s) 0) := okA_V ho ho.1 0
      obtain ⟨m1, t1, t2, t3⟩ := sx_tryWord a1.1 h12 hk 96
      have a2 := xA_T a1 ho1 t3
      obtain ⟨m2, l1, l2⟩ := sx_chain_loop ho.1 hok hn (.inl (nI k)) (.inl (nI 0)) 93 n 0 m1 (by omega) a2.1.1 t2
      have a3 := xA_T a2 ho1 l2
      obtain ⟨n1, c1, c2, c3⟩ := sm_chainsWord ho.1 hm.1.1 hm.1.2.2.1 hm.1.2.2.2 hk 91
      have hc := c2 n (by omega)
      refine ⟨.inr (.inl (lN (enc (wL (wearN (aV s) (vlD (aV s)) (gw (vlW (aV s)) k) n))))), stV s (aV s) 0, m2, jm_sI n1 40 0 0 2 0, ho1, ?_, ?_, a3, mA_fin hm ho ho.1 (mF_Ch hm.1 ho.1 c3) (QM_Ch c3) 0⟩
      · rw [e_X11_chain]
        have t1' : jm_sem false 98 jn_X8_tryWord [.inr (.inr (.inl (10, 0, 0))), .inl (nI k)] (jm_sI μ 0 0 0 14 (nI 0)) = some (jm_j, m1) := t1
        simp (disch := omega) only [jg_lit, jg_litL, jg_m1, jg_m1L, nI_add, lN_add, pk_mul, jg_sub, jg_subM, jg_addM, jg_addM', jg_negM, jt_in, jt_ix, jt_bi, jt_bl, jt_bv, jt_lt, jg_dT, jg_dF, jt_c, jt_cd, ru_I, ru_L, jg_leI, jg_ltI, jg_eqI, jg_M1, jg_M2, jg_M3, jg_M4, jg_M5, jg_M6, jg_ltT, jg_ltF, jg_leT, jg_leF, jg_eqT, jg_eqF, cond_true, cond_false, ne_eq, not_true_eq_false, not_false_eq_true, decide_true, decide_false, if_true, if_false, and_true, true_and, and_false, false_and, or_true, true_or, or_false, false_or, Nat.reduceEqDiff, reduceIte, Nat.reduceMul, Nat.reduceAdd, Nat.reduceSub, Nat.add_zero, Nat.zero_add, Nat.mul_zero, eq_self_iff_true, jg_not_lt, jg_not_le, w0, t1']
        exact l1
      · rw [e_X12_chain]; simp (disch := omega) only [jg_lit, jg_litL, jg_m1, jg_m1L, nI_add, lN_add, pk_mul, jg_sub, jg_subM, jg_addM, jg_addM', jg_negM, jt_in, jt_ix, jt_bi, jt_bl, jt_bv, jt_lt, jg_dT, jg_dF, jt_c, jt_cd, ru_I, ru_L, jg_leI, jg_ltI, jg_eqI, jg_M1, jg_M2, jg_M3, jg_M4, jg_M5, jg_M6, jg_ltT, jg_ltF, jg_leT, jg_leF, jg_eqT, jg_eqF, cond_true, cond_false, ne_eq, not_true_eq_false, not_false_eq_true, decide_true, decide_false, if_true, if_false, and_true, true_and, and_false, false_and, or_true, true_or, or_false, false_or, Nat.reduceEqDiff, reduceIte, Nat.reduceMul, Nat.reduceAdd, Nat.reduceSub, Nat.add_zero, Nat.zero_add, Nat.mul_zero, eq_self_iff_true, jg_not_lt, jg_not_le, im, o, c1, hc, e_X12_givesLong]
/-- the first twin on the chain -/
def twF (V : Vl) (k0 : Nat) (w : Wd) : Nat → Nat → Option (Nat × Nat)
  | 0, _ => none
  | r + 1, k => match alk (vlW V) (wL (wearN V (vlD V) w k)) (some k0) (vlW V).length 0 with
    | some o => some (o, k)
    | none => twF V k0 w r (k + 1)
theorem alk_nil {ws : List Wd} {but : Option Nat} (r k : Nat) : alk ws [] but r k = none := by
  cases h : alk ws [] but r k with
  | none => rfl
  | some o =>
    obtain ⟨-, -, -, h3, h4⟩ := alk_some r k h
    exact absurd h4 h3
theorem wearN_nil {V : Vl} {day : Nat} {w : Wd} {k : Nat} (h : wL (wearN V day w k) = []) : wL (wearN V day w (k + 1)) = [] := by
  show wL (wearD V day (wearN V day w k)) = []
  unfold wearD
  rw [if_pos h]
  exact h
theorem twF_nil {V : Vl} {k0 : Nat} {w : Wd} : ∀ (r k : Nat), wL (wearN V (vlD V) w k) = [] → twF V k0 w r k = none
  | 0, _, _ => rfl
  | r + 1, k, h => by
    unfold twF
    rw [h, alk_nil]
    exact twF_nil r (k + 1) (wearN_nil h)
def twA (q : Option (Nat × Nat)) (what : Nat) : Int32 := match q with
  | none => jM
  | some (o, k) => if what = 0 then nI o else nI k
def twS (q : Option (Nat × Nat)) : Int32 := match q with
  | none => 6
  | some _ => 0
theorem sx_twin_loop {V : Vl} (ho : okV V) {w : Wd} (hw : okW2 w) {k0 : Nat} (hk0 : k0 < 12) {what : Nat} (hwh : what < 2) (z3 : jm_V) (d : Nat) : ∀ (r k : Nat) (z5 : jm_V) (m : jm_M), k + r = 41 → xV V 0 m → xW (wearN V (vlD V) w (k - 1)) 0 12 m → 1 ≤ k → ∃ m', jm_ev false (d + 5) 10 1 jc_X11_twin 40 [vX, .inl (nI k0), .inl (nI what), z3, .inl (nI k), z5] [] m = some (.inl (twA (twF V k0 w r k) what), jm_sI m' 0 0 0 14 (twS (twF V k0 w r k))) ∧ fr (PT 0) m m'
  | 0, k, z5, m, hr, h, hx, h1 => by
    refine ⟨m, ?_, .rf⟩
    rw [l_X11_twin_40]
    simp (disch := omega) only [jg_lit, jg_litL, jg_m1, jg_m1L, nI_add, lN_add, pk_mul, jg_sub, jg_subM, jg_addM, jg_addM', jg_negM, jt_in, jt_ix, jt_bi, jt_bl, jt_bv, jt_lt, jg_dT, jg_dF, jt_c, jt_cd, ru_I, ru_L, jg_leI, jg_ltI, jg_eqI, jg_M1, jg_M2, jg_M3, jg_M4, jg_M5, jg_M6, jg_ltT, jg_ltF, jg_leT, jg_leF, jg_eqT, jg_eqF, cond_true, cond_false, ne_eq, not_true_eq_false, not_false_eq_true, decide_true, decide_false, if_true, if_false, and_true, true_and, and_false, false_and, or_true, true_or, or_false, false_or, Nat.reduceEqDiff, reduceIte, Nat.reduceMul, Nat.reduceAdd, Nat.reduceSub, Nat.add_zero, Nat.zero_add, Nat.mul_zero, eq_self_iff_true, jg_not_lt, jg_not_le, sx_fail]
    rfl
  | r + 1, k, z5, m, hr, h, hx, h1 => by
    have h12 := ho.2.2.2.1.1
    have h6 := h.1.2.2.2.1
    obtain ⟨m1, e1, x1, f1⟩ := sx_wearTried h.1 ho hx (okW2_wearN ho.2.2.1 hw (k - 1)) (vlD V) d
    have hke : wearD V (vlD V) (wearN V (vlD V) w (k - 1)) = wearN V (vlD V) w k := by
      obtain ⟨q, rfl⟩ : ∃ q, k = q + 1 := ⟨k - 1, by omega⟩
      rfl
    rw [hke] at x1
    have hwk := okW2_wearN (V := V) ho.2.2.1 hw k
    have v1 := xV_T h h12 f1
    have al := sx_alikeTo v1 ho.2.2.2.1 hwk.1.1 (okW_8 hwk.1) (but := some k0) (fun q hq => by have := Option.some.inj hq; omega) (d + 3)
    have jk0 : jpl (some k0) = nI k0 := rfl
    rw [jk0] at al
    have x10 := x1.1
    unfold twF
    cases ha : alk (vlW V) (wL (wearN V (vlD V) w k)) (some k0) (vlW V).length 0 with
    | none =>
      rw [ha, show jpl none = jM from rfl] at al
      obtain ⟨m2, e2, f2⟩ := sx_twin_loop ho hw hk0 hwh z3 d r (k + 1) (.inl jM) m1 (by omega) v1 x1 (by omega)
      refine ⟨m2, ?_, f1.tr f2⟩
      rw [l_X11_twin_40]
      simp (disch := omega) only [jg_lit, jg_litL, jg_m1, jg_m1L, nI_add, lN_add, pk_mul, jg_sub, jg_subM, jg_addM, jg_addM', jg_negM, jt_in, jt_ix, jt_bi, jt_bl, jt_bv, jt_lt, jg_dT, jg_dF, jt_c, jt_cd, ru_I, ru_L, jg_leI, jg_ltI, jg_eqI, jg_M1, jg_M2, jg_M3, jg_M4, jg_M5, jg_M6, jg_ltT, jg_ltF, jg_leT, jg_leF, jg_eqT, jg_eqF, cond_true, cond_false, ne_eq, not_true_eq_false, not_false_eq_true, decide_true, decide_false, if_true, if_false, and_true, true_and, and_false, false_and, or_true, true_or, or_false, false_or, Nat.reduceEqDiff, reduceIte, Nat.reduceMul, Nat.reduceAdd, Nat.reduceSub, Nat.add_zero, Nat.zero_add, Nat.mul_zero, eq_self_iff_true, jg_not_lt, jg_not_le, h6, e1, x10, al]
      exact e2
    | some o =>
      obtain ⟨-, o1, -, -, -⟩ := alk_some _ _ ha
      rw [ha, show jpl (some o) = nI o from rfl] at al
      refine ⟨m1, ?_, f1⟩
      rw [l_X11_twin_40]
      have hwc : what = 0 ∨ what = 1 := by omega
      rcases hwc with rfl | rfl
      · simp (disch := omega) only [jg_lit, jg_litL, jg_m1, jg_m1L, nI_add, lN_add, pk_mul, jg_sub, jg_subM, jg_addM, jg_addM', jg_negM, jt_in, jt_ix, jt_bi, jt_bl, jt_bv, jt_lt, jg_dT, jg_dF, jt_c, jt_cd, ru_I, ru_L, jg_leI, jg_ltI, jg_eqI, jg_M1, jg_M2, jg_M3, jg_M4, jg_M5, jg_M6, jg_ltT, jg_ltF, jg_leT, jg_leF, jg_eqT, jg_eqF, cond_true, cond_false, ne_eq, not_true_eq_false, not_false_eq_true, decide_true, decide_false, if_true, if_false, and_true, true_and, and_false, false_and, or_true, true_or, or_false, false_or, Nat.reduceEqDiff, reduceIte, Nat.reduceMul, Nat.reduceAdd, Nat.reduceSub, Nat.add_zero, Nat.zero_add, Nat.mul_zero, eq_self_iff_true, jg_not_lt, jg_not_le, h6, e1, x10, al, sx_give]
        rfl
      · simp (disch := omega) only [jg_lit, jg_litL, jg_m1, jg_m1L, nI_add, lN_add, pk_mul, jg_sub, jg_subM, jg_addM, jg_addM', jg_negM, jt_in, jt_ix, jt_bi, jt_bl, jt_bv, jt_lt, jg_dT, jg_dF, jt_c, jt_cd, ru_I, ru_L, jg_leI, jg_ltI, jg_eqI, jg_M1, jg_M2, jg_M3, jg_M4, jg_M5, jg_M6, jg_ltT, jg_ltF, jg_leT, jg_leF, jg_eqT, jg_eqF, cond_true, cond_false, ne_eq, not_true_eq_false, not_false_eq_true, decide_true, decide_false, if_true, if_false, and_true, true_and, and_false, false_and, or_true, true_or, or_false, false_or, Nat.reduceEqDiff, reduceIte, Nat.reduceMul, Nat.reduceAdd, Nat.reduceSub, Nat.add_zero, Nat.zero_add, Nat.mul_zero, eq_self_iff_true, jg_not_lt, jg_not_le, h6, e1, x10, al, sx_give]
        rfl
theorem sm_twin_in {V : Vl} (ho : okV V) {f : Nat → List Nat} {k : Nat} (hf : okL (f k)) (hf8 : (f k).length ≤ 8) (hfn : f k ≠ []) (hk40 : k < 41) {k0 : Nat} (hk0 : k0 < 12) {what : Nat} (hwh : what < 2) (d : Nat) : ∀ (r j : Nat) (m : jm_M), j + r = (vlW V).length → mV V 0 m → mCh f 41 m → ∃ m', (match alk (vlW V) (f k) (some k0) r j with | none => jm_ev false (d + 3) 11 1 jc_X12_twin 66 [vM, .inl (nI k0), .inl (nI what), .inl (nI k), .inl (nI j)] [] m = jm_ev false (d + 3) 11 1 jc_X12_twin 46 [vM, .inl (nI k0), .inl (nI what), .inl (nI (k + 1)), .inl (nI (vlW V).length)] [] m' | some o => jm_ev false (d + 3) 11 1 jc_X12_twin 66 [vM, .inl (nI k0), .inl (nI what), .inl (nI k), .inl (nI j)] [] m = some (.inl (if what = 0 then nI o else nI k), jm_sI m' 40 0 0 2 0)) ∧ mV V 0 m' ∧ mCh f 41 m' ∧ jk PM_h m m'
  | 0, j, m, hr, h, hC => by
    have h12 := ho.2.2.2.1.1
    have h1 : m.1 41 0 0 1 = nI (vlW V).length := h.2.1
    refine ⟨m, ?_, h, hC, .rf⟩
    unfold alk
    have : j = (vlW V).length := by omega
    subst this
    show jm_ev _ _ _ _ _ _ _ _ _ = _
    rw [l_X12_twin_66]
    simp (disch := omega) only [jg_lit, jg_litL, jg_m1, jg_m1L, nI_add, lN_add, pk_mul, jg_sub, jg_subM, jg_addM, jg_addM', jg_negM, jt_in, jt_ix, jt_bi, jt_bl, jt_bv, jt_lt, jg_dT, jg_dF, jt_c, jt_cd, ru_I, ru_L, jg_leI, jg_ltI, jg_eqI, jg_M1, jg_M2, jg_M3, jg_M4, jg_M5, jg_M6, jg_ltT, jg_ltF, jg_leT, jg_leF, jg_eqT, jg_eqF, cond_true, cond_false, ne_eq, not_true_eq_false, not_false_eq_true, decide_true, decide_false, if_true, if_false, and_true, true_and, and_false, false_and, or_true, true_or, or_false, false_or, Nat.reduceEqDiff, reduceIte, Nat.reduceMul, Nat.reduceAdd, Nat.reduceSub, Nat.add_zero, Nat.zero_add, Nat.mul_zero, eq_self_iff_true, jg_not_lt, jg_not_le, h1]
  | r + 1, j, m, hr, h, hC => by
    have h12 := ho.2.2.2.1.1
    have h1 : m.1 41 0 0 1 = nI (vlW V).length := h.2.1
    have hj : j < (vlW V).length := by omega
    have hok := ho.2.2.2.1.2.1 j hj
    have h8 := okW_8 hok.1
    have o := sm_ofWord (k := j) (c := 0) (by omega) (by omega) (d + 1) m
    rw [sm_size h hj] at o
    unfold alk
    by_cases c1 : j = k0
    · rw [if_neg (fun z => z.1 (by rw [c1]))]
      obtain ⟨m', e1, e2⟩ := sm_twin_in ho hf hf8 hfn hk40 hk0 hwh d r (j + 1) m (by omega) h hC
      have heq : jm_ev false (d + 3) 11 1 jc_X12_twin 66 [vM, .inl (nI k0), .inl (nI what), .inl (nI k), .inl (nI j)] [] m = jm_ev false (d + 3) 11 1 jc_X12_twin 66 [vM, .inl (nI k0), .inl (nI what), .inl (nI k), .inl (nI (j + 1))] [] m := by
        rw [l_X12_twin_66]
        simp (disch := omega) only [jg_lit, jg_litL, jg_m1, jg_m1L, nI_add, lN_add, pk_mul, jg_sub, jg_subM, jg_addM, jg_addM', jg_negM, jt_in, jt_ix, jt_bi, jt_bl, jt_bv, jt_lt, jg_dT, jg_dF, jt_c, jt_cd, ru_I, ru_L, jg_leI, jg_ltI, jg_eqI, jg_M1, jg_M2, jg_M3, jg_M4, jg_M5, jg_M6, jg_ltT, jg_ltF, jg_leT, jg_leF, jg_eqT, jg_eqF, cond_true, cond_false, ne_eq, not_true_eq_false, not_false_eq_true, decide_true, decide_false, if_true, if_false, and_true, true_and, and_false, false_and, or_true, true_or, or_false, false_or, Nat.reduceEqDiff, reduceIte, Nat.reduceMul, Nat.reduceAdd, Nat.reduceSub, Nat.add_zero, Nat.zero_add, Nat.mul_zero, eq_self_iff_true, jg_not_lt, jg_not_le, h1]
      refine ⟨m', ?_, e2⟩
      rw [heq]
      exact e1
    · by_cases c2 : wL (gw (vlW V) j) = []
      · rw [if_neg (fun z => z.2.1 c2)]
        rw [c2] at o
        obtain ⟨m', e1, e2⟩ := sm_twin_in ho hf hf8 hfn hk40 hk0 hwh d r (j + 1) m (by omega) h hC
        have heq : jm_ev false (d + 3) 11 1 jc_X12_twin 66 [vM, .inl (nI k0), .inl (nI what), .inl (nI k), .inl (nI j)] [] m = jm_ev false (d + 3) 11 1 jc_X12_twin 66 [vM, .inl (nI k0), .inl (nI what), .inl (nI k), .inl (nI (j + 1))] [] m := by
          rw [l_X12_twin_66]
          simp (disch := omega) only [jg_lit, jg_litL, jg_m1, jg_m1L, nI_add, lN_add, pk_mul, jg_sub, jg_subM, jg_addM, jg_addM', jg_negM, jt_in, jt_ix, jt_bi, jt_bl, jt_bv, jt_lt, jg_dT, jg_dF, jt_c, jt_cd, ru_I, ru_L, jg_leI, jg_ltI, jg_eqI, jg_M1, jg_M2, jg_M3, jg_M4, jg_M5, jg_M6, jg_ltT, jg_ltF, jg_leT, jg_leF, jg_eqT, jg_eqF, cond_true, cond_false, ne_eq, not_true_eq_false, not_false_eq_true, decide_true, decide_false, if_true, if_false, and_true, true_and, and_false, false_and, or_true, true_or, or_false, false_or, Nat.reduceEqDiff, reduceIte, Nat.reduceMul, Nat.reduceAdd, Nat.reduceSub, Nat.add_zero, Nat.zero_add, Nat.mul_zero, eq_self_iff_true, jg_not_lt, jg_not_le, h1, o, List.length_nil]
        refine ⟨m', ?_, e2⟩
        rw [heq]
        exact e1
      · have hl : 0 < (wL (gw (vlW V) j)).length := List.length_pos_iff.mpr c2
        obtain ⟨m1, f1, f2, f3⟩ := sm_formOf (s := 0) (w := j) hok.1.1 (h.2.2.2.2 j hj).1 (by omega) (d + 1)
        have v1 : mV V 0 m1 := mV_k h ho.2.2.2.1 (PMh_41 f3)
        have C1 : mCh f 41 m1 := fun q hq => by rw [(f3 51 q (by unfold PM_h; omega) 0 0).2]; exact hC q hq
        have hc := C1 k hk40
        have a40 := enc_40 hok.1.1 h8
        have b40 := enc_40 hf hf8
        have ec : (lg_cmp (lN (enc (wL (gw (vlW V) j)))) (lN (enc (f k))) = nI 0) = (wL (gw (vlW V) j) = f k) := propext ((cmp_eq (by omega) (by omega)).trans (enc_inj hok.1.1 hf))
        by_cases c3 : wL (gw (vlW V) j) = f k
        · rw [if_pos ⟨fun z => c1 (Option.some.inj z), c2, c3⟩]
          have ec' := ec.trans (eq_true c3)
          refine ⟨m1, ?_, v1, C1, f3⟩
          show jm_ev _ _ _ _ _ _ _ _ _ = _
          rw [l_X12_twin_66]
          have hwc : what = 0 ∨ what = 1 := by omega
          rcases hwc with rfl | rfl
          · simp (disch := omega) only [jg_lit, jg_litL, jg_m1, jg_m1L, nI_add, lN_add, pk_mul, jg_sub, jg_subM, jg_addM, jg_addM', jg_negM, jt_in, jt_ix, jt_bi, jt_bl, jt_bv, jt_lt, jg_dT, jg_dF, jt_c, jt_cd, ru_I, ru_L, jg_leI, jg_ltI, jg_eqI, jg_M1, jg_M2, jg_M3, jg_M4, jg_M5, jg_M6, jg_ltT, jg_ltF, jg_leT, jg_leF, jg_eqT, jg_eqF, cond_true, cond_false, ne_eq, not_true_eq_false, not_false_eq_true, decide_true, decide_false, if_true, if_false, and_true, true_and, and_false, false_and, or_true, true_or, or_false, false_or, Nat.reduceEqDiff, reduceIte, Nat.reduceMul, Nat.reduceAdd, Nat.reduceSub, Nat.add_zero, Nat.zero_add, Nat.mul_zero, eq_self_iff_true, jg_not_lt, jg_not_le, h1, o, f1, hc, ec', sm_gives]
          · simp (disch := omega) only [jg_lit, jg_litL, jg_m1, jg_m1L, nI_add, lN_add, pk_mul, jg_sub, jg_subM, jg_addM, jg_addM', jg_negM, jt_in, jt_ix, jt_bi, jt_bl, jt_bv, jt_lt, jg_dT, jg_dF, jt_c, jt_cd, ru_I, ru_L, jg_leI, jg_ltI, jg_eqI, jg_M1, jg_M2, jg_M3, jg_M4, jg_M5, jg_M6, jg_ltT, jg_ltF, jg_leT, jg_leF, jg_eqT, jg_eqF, cond_true, cond_false, ne_eq, not_true_eq_false, not_false_eq_true, decide_true, decide_false, if_true, if_false, and_true, true_and, and_false, false_and, or_true, true_or, or_false, false_or, Nat.reduceEqDiff, reduceIte, Nat.reduceMul, Nat.reduceAdd, Nat.reduceSub, Nat.add_zero, Nat.zero_add, Nat.mul_zero, eq_self_iff_true, jg_not_lt, jg_not_le, h1, o, f1, hc, ec', sm_gives]
        · rw [if_neg (fun z => c3 z.2.2)]
          have ec' := ec.trans (eq_false c3)
          obtain ⟨m', e1, e2, e3, e4⟩ := sm_twin_in ho hf hf8 hfn hk40 hk0 hwh d r (j + 1) m1 (by omega) v1 C1
          have heq : jm_ev false (d + 3) 11 1 jc_X12_twin 66 [vM, .inl (nI k0), .inl (nI what), .inl (nI k), .inl (nI j)] [] m = jm_ev false (d + 3) 11 1 jc_X12_twin 66 [vM, .inl (nI k0), .inl (nI what), .inl (nI k), .inl (nI (j + 1))] [] m1 := by
            rw [l_X12_twin_66]
            simp (disch := omega) only [jg_lit, jg_litL, jg_m1, jg_m1L, nI_add, lN_add, pk_mul, jg_sub, jg_subM, jg_addM, jg_addM', jg_negM, jt_in, jt_ix, jt_bi, jt_bl, jt_bv, jt_lt, jg_dT, jg_dF, jt_c, jt_cd, ru_I, ru_L, jg_leI, jg_ltI, jg_eqI, jg_M1, jg_M2, jg_M3, jg_M4, jg_M5, jg_M6, jg_ltT, jg_ltF, jg_leT, jg_leF, jg_eqT, jg_eqF, cond_true, cond_false, ne_eq, not_true_eq_false, not_false_eq_true, decide_true, decide_false, if_true, if_false, and_true, true_and, and_false, false_and, or_true, true_or, or_false, false_or, Nat.reduceEqDiff, reduceIte, Nat.reduceMul, Nat.reduceAdd, Nat.reduceSub, Nat.add_zero, Nat.zero_add, Nat.mul_zero, eq_self_iff_true, jg_not_lt, jg_not_le, h1, o, f1, hc, ec']
          refine ⟨m', ?_, e2, e3, f3.tr e4⟩
          rw [heq]
          exact e1
theorem sm_twin_loop {V : Vl} (ho : okV V) {w : Wd} (hw : okW2 w) {k0 : Nat} (hk0 : k0 < 12) {what : Nat} (hwh : what < 2) (d : Nat) : ∀ (r k : Nat) (z4 : jm_V) (m : jm_M), k + r = 41 → mV V 0 m → mCh (fun n => wL (wearN V (vlD V) w n)) 41 m → 1 ≤ k → ∃ m', jm_ev false (d + 3) 11 1 jc_X12_twin 46 [vM, .inl (nI k0), .inl (nI what), .inl (nI k), z4] [] m = some (.inl (twA (twF V k0 w r k) what), jm_sI m' 40 0 0 2 (twS (twF V k0 w r k))) ∧ jk PM_h m m'
  | 0, k, z4, m, hr, h, hC, h1 => by
    refine ⟨m, ?_, .rf⟩
    rw [l_X12_twin_46]
    simp (disch := omega) only [jg_lit, jg_litL, jg_m1, jg_m1L, nI_add, lN_add, pk_mul, jg_sub, jg_subM, jg_addM, jg_addM', jg_negM, jt_in, jt_ix, jt_bi, jt_bl, jt_bv, jt_lt, jg_dT, jg_dF, jt_c, jt_cd, ru_I, ru_L, jg_leI, jg_ltI, jg_eqI, jg_M1, jg_M2, jg_M3, jg_M4, jg_M5, jg_M6, jg_ltT, jg_ltF, jg_leT, jg_leF, jg_eqT, jg_eqF, cond_true, cond_false, ne_eq, not_true_eq_false, not_false_eq_true, decide_true, decide_false, if_true, if_false, and_true, true_and, and_false, false_and, or_true, true_or, or_false, false_or, Nat.reduceEqDiff, reduceIte, Nat.reduceMul, Nat.reduceAdd, Nat.reduceSub, Nat.add_zero, Nat.zero_add, Nat.mul_zero, eq_self_iff_true, jg_not_lt, jg_not_le, sm_refuse]
    rfl
  | r + 1, k, z4, m, hr, h, hC, h1 => by
    have hwk := okW2_wearN (V := V) ho.2.2.1 hw k
    have hc := hC k (by omega)
    have a40 := enc_40 hwk.1.1 (okW_8 hwk.1)
    have ez : (lg_cmp (lN (enc (wL (wearN V (vlD V) w k)))) (lN 0) ≤ nI 0) = (wL (wearN V (vlD V) w k) = []) := propext ((cmp_pos (by omega)).1.trans (enc_0 hwk.1.1))
    by_cases c : wL (wearN V (vlD V) w k) = []
    · rw [twF_nil (r + 1) k c]
      have ez' := ez.trans (eq_true c)
      refine ⟨m, ?_, .rf⟩
      rw [l_X12_twin_46]
      simp (disch := omega) only [jg_lit, jg_litL, jg_m1, jg_m1L, nI_add, lN_add, pk_mul, jg_sub, jg_subM, jg_addM, jg_addM', jg_negM, jt_in, jt_ix, jt_bi, jt_bl, jt_bv, jt_lt, jg_dT, jg_dF, jt_c, jt_cd, ru_I, ru_L, jg_leI, jg_ltI, jg_eqI, jg_M1, jg_M2, jg_M3, jg_M4, jg_M5, jg_M6, jg_ltT, jg_ltF, jg_leT, jg_leF, jg_eqT, jg_eqF, cond_true, cond_false, ne_eq, not_true_eq_false, not_false_eq_true, decide_true, decide_false, if_true, if_false, and_true, true_and, and_false, false_and, or_true, true_or, or_false, false_or, Nat.reduceEqDiff, reduceIte, Nat.reduceMul, Nat.reduceAdd, Nat.reduceSub, Nat.add_zero, Nat.zero_add, Nat.mul_zero, eq_self_iff_true, jg_not_lt, jg_not_le, hc, ez', sm_refuse]
      rfl
    · have ez' := ez.trans (eq_false c)
      obtain ⟨m1, e1, v1, C1, f1⟩ := sm_twin_in ho (f := fun n => wL (wearN V (vlD V) w n)) hwk.1.1 (okW_8 hwk.1) c (show k < 41 by omega) hk0 hwh d (vlW V).length 0 m (by omega) h hC
      have heq : jm_ev false (d + 3) 11 1 jc_X12_twin 46 [vM, .inl (nI k0), .inl (nI what), .inl (nI k), z4] [] m = jm_ev false (d + 3) 11 1 jc_X12_twin 66 [vM, .inl (nI k0), .inl (nI what), .inl (nI k), .inl (nI 0)] [] m := by
        rw [l_X12_twin_46]
        simp (disch := omega) only [jg_lit, jg_litL, jg_m1, jg_m1L, nI_add, lN_add, pk_mul, jg_sub, jg_subM, jg_addM, jg_addM', jg_negM, jt_in, jt_ix, jt_bi, jt_bl, jt_bv, jt_lt, jg_dT, jg_dF, jt_c, jt_cd, ru_I, ru_L, jg_leI, jg_ltI, jg_eqI, jg_M1, jg_M2, jg_M3, jg_M4, jg_M5, jg_M6, jg_ltT, jg_ltF, jg_leT, jg_leF, jg_eqT, jg_eqF, cond_true, cond_false, ne_eq, not_true_eq_false, not_false_eq_true, decide_true, decide_false, if_true, if_false, and_true, true_and, and_false, false_and, or_true, true_or, or_false, false_or, Nat.reduceEqDiff, reduceIte, Nat.reduceMul, Nat.reduceAdd, Nat.reduceSub, Nat.add_zero, Nat.zero_add, Nat.mul_zero, eq_self_iff_true, jg_not_lt, jg_not_le, hc, ez']
      unfold twF
      cases ha : alk (vlW V) (wL (wearN V (vlD V) w k)) (some k0) (vlW V).length 0 with
      | none =>
        rw [ha] at e1
        obtain ⟨m2, e2, f2⟩ := sm_twin_loop ho hw hk0 hwh d r (k + 1) (.inl (nI (vlW V).length)) m1 (by omega) v1 C1 (by omega)
        refine ⟨m2, ?_, f1.tr f2⟩
        rw [heq, e1]
        exact e2
      | some o =>
        rw [ha] at e1
        refine ⟨m1, ?_, f1⟩
        rw [heq, e1]
        rfl
theorem c_twin (x y : Int32) : jcall jn_X11_twin jn_X12_twin [.inl x, .inl y] := by
  intro s μ ho hx hm
  have h12 := ho.1.2.2.2.1.1
  have hno : (e : (y < 0 ∨ nI 2 ≤ y) ∨ (x < 0 ∨ nI (vlW (aV s)).length ≤ x)) → jm_sem false 99 jn_X11_twin [vX, .inl x, .inl y] μ = some (.inl jM, jm_sI μ 0 0 0 14 1) ∧ jm_sem false 99 jn_X12_twin [vM, .inl x, .inl y] μ = some (.inl jM, jm_sI μ 40 0 0 2 1) := by
    intro e
    constructor
    · rw [e_X11_twin]
      by_cases c : y < 0
      · rw [dec_T c]; simp (disch := omega) only [jg_lit, jg_litL, jg_m1, jg_m1L, nI_add, lN_add, pk_mul, jg_sub, jg_subM, jg_addM, jg_addM', jg_negM, jt_in, jt_ix, jt_bi, jt_bl, jt_bv, jt_lt, jg_dT, jg_dF, jt_c, jt_cd, ru_I, ru_L, jg_leI, jg_ltI, jg_eqI, jg_M1, jg_M2, jg_M3, jg_M4, jg_M5, jg_M6, jg_ltT, jg_ltF, jg_leT, jg_leF, jg_eqT, jg_eqF, cond_true, cond_false, ne_eq, not_true_eq_false, not_false_eq_true, decide_true, decide_false, if_true, if_false, and_true, true_and, and_false, false_and, or_true, true_or, or_false, false_or, Nat.reduceEqDiff, reduceIte, Nat.reduceMul, Nat.reduceAdd, Nat.reduceSub, Nat.add_zero, Nat.zero_add, Nat.mul_zero, eq_self_iff_true, jg_not_lt, jg_not_le, sx_fail]
      · rw [dec_F c]
        by_cases c2 : y ≤ 1
        · have e : x < 0 ∨ nI (vlW (aV s)).length ≤ x := e.resolve_left (fun z => not_in z c (by decide) (show 1 < 2 by decide) c2)
          have w1 := sx_wrong1 hx.1 e 96
          rw [jt_dt c2, w1]; simp (disch := omega) only [jg_lit, jg_litL, jg_m1, jg_m1L, nI_add, lN_add, pk_mul, jg_sub, jg_subM, jg_addM, jg_addM', jg_negM, jt_in, jt_ix, jt_bi, jt_bl, jt_bv, jt_lt, jg_dT, jg_dF, jt_c, jt_cd, ru_I, ru_L, jg_leI, jg_ltI, jg_eqI, jg_M1, jg_M2, jg_M3, jg_M4, jg_M5, jg_M6, jg_ltT, jg_ltF, jg_leT, jg_leF, jg_eqT, jg_eqF, cond_true, cond_false, ne_eq, not_true_eq_false, not_false_eq_true, decide_true, decide_false, if_true, if_false, and_true, true_and, and_false, false_and, or_true, true_or, or_false, false_or, Nat.reduceEqDiff, reduceIte, Nat.reduceMul, Nat.reduceAdd, Nat.reduceSub, Nat.add_zero, Nat.zero_add, Nat.mul_zero, eq_self_iff_true, jg_not_lt, jg_not_le, sx_fail]
        · rw [jt_df c2]; simp (disch := omega) only [jg_lit, jg_litL, jg_m1, jg_m1L, nI_add, lN_add, pk_mul, jg_sub, jg_subM, jg_addM, jg_addM', jg_negM, jt_in, jt_ix, jt_bi, jt_bl, jt_bv, jt_lt, jg_dT, jg_dF, jt_c, jt_cd, ru_I, ru_L, jg_leI, jg_ltI, jg_eqI, jg_M1, jg_M2, jg_M3, jg_M4, jg_M5, jg_M6, jg_ltT, jg_ltF, jg_leT, jg_leF, jg_eqT, jg_eqF, cond_true, cond_false, ne_eq, not_true_eq_false, not_false_eq_true, decide_true, decide_false, if_true, if_false, and_true, true_and, and_false, false_and, or_true, true_or, or_false, false_or, Nat.reduceEqDiff, reduceIte, Nat.reduceMul, Nat.reduceAdd, Nat.reduceSub, Nat.add_zero, Nat.zero_add, Nat.mul_zero, eq_self_iff_true, jg_not_lt, jg_not_le, sx_fail]
    · rw [e_X12_twin]
      rcases in_cases x (show (vlW (aV s)).length < 2 ^ 31 by omega) with h | ⟨k, hk, rfl⟩
      · rw [sm_isWordF hm.1.1 h]; simp (disch := omega) only [jg_lit, jg_litL, jg_m1, jg_m1L, nI_add, lN_add, pk_mul, jg_sub, jg_subM, jg_addM, jg_addM', jg_negM, jt_in, jt_ix, jt_bi, jt_bl, jt_bv, jt_lt, jg_dT, jg_dF, jt_c, jt_cd, ru_I, ru_L, jg_leI, jg_ltI, jg_eqI, jg_M1, jg_M2, jg_M3, jg_M4, jg_M5, jg_M6, jg_ltT, jg_ltF, jg_leT, jg_leF, jg_eqT, jg_eqF, cond_true, cond_false, ne_eq, not_true_eq_false, not_false_eq_true, decide_true, decide_false, if_true, if_false, and_true, true_and, and_false, false_and, or_true, true_or, or_false, false_or, Nat.reduceEqDiff, reduceIte, Nat.reduceMul, Nat.reduceAdd, Nat.reduceSub, Nat.add_zero, Nat.zero_add, Nat.mul_zero, eq_self_iff_true, jg_not_lt, jg_not_le, sm_refuse]
      · have e : y < 0 ∨ nI 2 ≤ y := e.resolve_right (fun z => by
          rcases z with z | z
          · exact nI_pos (by omega) z
          · exact nI_ge hk (by omega) z)
        rw [sm_isWordT hm.1.1 h12 hk]
        by_cases c : y < 0
        · rw [dec_T c]; simp (disch := omega) only [jg_lit, jg_litL, jg_m1, jg_m1L, nI_add, lN_add, pk_mul, jg_sub, jg_subM, jg_addM, jg_addM', jg_negM, jt_in, jt_ix, jt_bi, jt_bl, jt_bv, jt_lt, jg_dT, jg_dF, jt_c, jt_cd, ru_I, ru_L, jg_leI, jg_ltI, jg_eqI, jg_M1, jg_M2, jg_M3, jg_M4, jg_M5, jg_M6, jg_ltT, jg_ltF, jg_leT, jg_leF, jg_eqT, jg_eqF, cond_true, cond_false, ne_eq, not_true_eq_false, not_false_eq_true, decide_true, decide_false, if_true, if_false, and_true, true_and, and_false, false_and, or_true, true_or, or_false, false_or, Nat.reduceEqDiff, reduceIte, Nat.reduceMul, Nat.reduceAdd, Nat.reduceSub, Nat.add_zero, Nat.zero_add, Nat.mul_zero, eq_self_iff_true, jg_not_lt, jg_not_le, sm_refuse]
        · rw [dec_F c, jt_df (show ¬ y ≤ 1 from not_in e c (by decide) (show 1 < 2 by decide))]; simp (disch := omega) only [jg_lit, jg_litL, jg_m1, jg_m1L, nI_add, lN_add, pk_mul, jg_sub, jg_subM, jg_addM, jg_addM', jg_negM, jt_in, jt_ix, jt_bi, jt_bl, jt_bv, jt_lt, jg_dT, jg_dF, jt_c, jt_cd, ru_I, ru_L, jg_leI, jg_ltI, jg_eqI, jg_M1, jg_M2, jg_M3, jg_M4, jg_M5, jg_M6, jg_ltT, jg_ltF, jg_leT, jg_leF, jg_eqT, jg_eqF, cond_true, cond_false, ne_eq, not_true_eq_false, not_false_eq_true, decide_true, decide_false, if_true, if_false, and_true, true_and, and_false, false_and, or_true, true_or, or_false, false_or, Nat.reduceEqDiff, reduceIte, Nat.reduceMul, Nat.reduceAdd, Nat.reduceSub, Nat.add_zero, Nat.zero_add, Nat.mul_zero, eq_self_iff_true, jg_not_lt, jg_not_le, sm_refuse]
  rcases in_cases y (show 2 < 2 ^ 31 by omega) with h | ⟨n, hn, rfl⟩
  · obtain ⟨e1, e2⟩ := hno (Or.inl h)
    exact jcall_no ho hx hm 1 e1 e2
  · rcases w_cases (aV s) h12 x with h | ⟨k, hk, rfl, hg⟩ | ⟨k, hk, rfl, hg⟩
    · obtain ⟨e1, e2⟩ := hno (Or.inr h)
      exact jcall_no ho hx hm 1 e1 e2
    · have o := sm_ofWord (k := k) (c := 0) (by omega) (by omega) 96 μ
      rw [sm_size hm.1.1 hk, hg] at o
      have w6 := sx_wrong6 hx.1 ho.1.2.2.2.1 hk hg 96
      have im := sm_isWordT hm.1.1 h12 hk 97
      refine jcall_no ho hx hm 6 (v := .inl jM) ?_ ?_
      · rw [e_X11_twin]; simp (disch := omega) only [jg_lit, jg_litL, jg_m1, jg_m1L, nI_add, lN_add, pk_mul, jg_sub, jg_subM, jg_addM, jg_addM', jg_negM, jt_in, jt_ix, jt_bi, jt_bl, jt_bv, jt_lt, jg_dT, jg_dF, jt_c, jt_cd, ru_I, ru_L, jg_leI, jg_ltI, jg_eqI, jg_M1, jg_M2, jg_M3, jg_M4, jg_M5, jg_M6, jg_ltT, jg_ltF, jg_leT, jg_leF, jg_eqT, jg_eqF, cond_true, cond_false, ne_eq, not_true_eq_false, not_false_eq_true, decide_true, decide_false, if_true, if_false, and_true, true_and, and_false, false_and, or_true, true_or, or_false, false_or, Nat.reduceEqDiff, reduceIte, Nat.reduceMul, Nat.reduceAdd, Nat.reduceSub, Nat.add_zero, Nat.zero_add, Nat.mul_zero, eq_self_iff_true, jg_not_lt, jg_not_le, sx_fail, w6]
      · rw [e_X12_twin]; simp (disch := omega) only [jg_lit, jg_litL, jg_m1, jg_m1L, nI_add, lN_add, pk_mul, jg_sub, jg_subM, jg_addM, jg_addM', jg_negM, jt_in, jt_ix, jt_bi, jt_bl, jt_bv, jt_lt, jg_dT, jg_dF, jt_c, jt_cd, ru_I, ru_L, jg_leI, jg_ltI, jg_eqI, jg_M1, jg_M2, jg_M3, jg_M4, jg_M5, jg_M6, jg_ltT, jg_ltF, jg_leT, jg_leF, jg_eqT, jg_eqF, cond_true, cond_false, ne_eq, not_true_eq_false, not_false_eq_true, decide_true, decide_false, if_true, if_false, and_true, true_and, and_false, false_and, or_true, true_or, or_false, false_or, Nat.reduceEqDiff, reduceIte, Nat.reduceMul, Nat.reduceAdd, Nat.reduceSub, Nat.add_zero, Nat.zero_add, Nat.mul_zero, eq_self_iff_true, jg_not_lt, jg_not_le, sm_refuse, im, o, List.length_nil]
    · have hok := ho.1.2.2.2.1.2.1 k hk
      have h8 := okW_8 hok.1
      have hl : 0 < (wL (gw (vlW (aV s)) k)).length := List.length_pos_iff.mpr hg
      have o := sm_ofWord (k := k) (c := 0) (by omega) (by omega) 96 μ
      rw [sm_size hm.1.1 hk] at o
      have w0 := sx_wrong0 hx.1 ho.1.2.2.2.1 hk hg 96
      have im := sm_isWordT hm.1.1 h12 hk 97
      obtain ⟨m1, t1, t2, t3⟩ := sx_tryWord hx.1 h12 hk 96
      have v1 := xV_T hx.1 h12 t3
      obtain ⟨m2, l1, l2⟩ := sx_twin_loop ho.1 hok (show k < 12 by omega) hn (.inl (nI 0)) 93 40 1 jm_j m1 (by omega) v1 t2 (by omega)
      obtain ⟨n1, c1, c2, c3⟩ := sm_chainsWord ho.1 hm.1.1 hm.1.2.2.1 hm.1.2.2.2 hk 91
      have f1 := mF_Ch hm.1 ho.1 c3
      obtain ⟨n2, b1, b2⟩ := sm_twin_loop ho.1 hok (show k < 12 by omega) hn 95 40 1 jm_j n1 (by omega) f1.1 c2 (by omega)
      refine jcall_V ho hx hm ho.1 (twS (twF (aV s) k (gw (vlW (aV s)) k) 40 1)) (v := .inl (twA (twF (aV s) k (gw (vlW (aV s)) k) 40 1) n)) (ma := m2) (mb := n2) (xV_T v1 h12 l2) ((QX_T t3).tr (QX_T l2)) (mF_Ch f1 ho.1 (jk_PMh b2)) ((QM_Ch c3).tr (QM_Ch (jk_PMh b2))) ?_ ?_
      · rw [e_X11_twin]; simp (disch := omega) only [jg_lit, jg_litL, jg_m1, jg_m1L, nI_add, lN_add, pk_mul, jg_sub, jg_subM, jg_addM, jg_addM', jg_negM, jt_in, jt_ix, jt_bi, jt_bl, jt_bv, jt_lt, jg_dT, jg_dF, jt_c, jt_cd, ru_I, ru_L, jg_leI, jg_ltI, jg_eqI, jg_M1, jg_M2, jg_M3, jg_M4, jg_M5, jg_M6, jg_ltT, jg_ltF, jg_leT, jg_leF, jg_eqT, jg_eqF, cond_true, cond_false, ne_eq, not_true_eq_false, not_false_eq_true, decide_true, decide_false, if_true, if_false, and_true, true_and, and_false, false_and, or_true, true_or, or_false, false_or, Nat.reduceEqDiff, reduceIte, Nat.reduceMul, Nat.reduceAdd, Nat.reduceSub, Nat.add_zero, Nat.zero_add, Nat.mul_zero, eq_self_iff_true, jg_not_lt, jg_not_le, w0, t1]; exact l1
      · rw [e_X12_twin]; simp (disch := omega) only [jg_lit, jg_litL, jg_m1, jg_m1L, nI_add, lN_add, pk_mul, jg_sub, jg_subM, jg_addM, jg_addM', jg_negM, jt_in, jt_ix, jt_bi, jt_bl, jt_bv, jt_lt, jg_dT, jg_dF, jt_c, jt_cd, ru_I, ru_L, jg_leI, jg_ltI, jg_eqI, jg_M1, jg_M2, jg_M3, jg_M4, jg_M5, jg_M6, jg_ltT, jg_ltF, jg_leT, jg_leF, jg_eqT, jg_eqF, cond_true, cond_false, ne_eq, not_true_eq_false, not_false_eq_true, decide_true, decide_false, if_true, if_false, and_true, true_and, and_false, false_and, or_true, true_or, or_false, false_or, Nat.reduceEqDiff, reduceIte, Nat.reduceMul, Nat.reduceAdd, Nat.reduceSub, Nat.add_zero, Nat.zero_add, Nat.mul_zero, eq_self_iff_true, jg_not_lt, jg_not_le, im, o, c1]; exact b1
