/-! ===== cut: the reference ===== -/
theorem sm_free_loop {V : Vl} {m : jm_M} (h : mV V 0 m) (ho : okWs (vlW V)) (x1 x3 x5 : Int32) (z2 z4 z7 z8 : jm_V) (d : Nat) : ∀ (r k : Nat), k + r = (vlW V).length → frN (vlW V) r k < 12 → jm_ev false (d + 2) 11 1 jc_X12_cut 146 [vM, .inl x1, z2, .inl x3, z4, .inl x5, .inl (nI k), z7, z8] [] m = jm_ev false (d + 2) 11 1 jc_X12_cut 195 [vM, .inl x1, z2, .inl x3, z4, .inl x5, .inl (nI (frN (vlW V) r k)), .inl (nI (0 + 10 + 40 * frN (vlW V) r k)), .inl (nI 0)] [] (jm_sI m 41 0 0 (0 + 10 + 40 * frN (vlW V) r k) (m.1 40 0 0 26))
  | 0, k, hr, hf => by
    have h12 := ho.1
    have h4 : m.1 41 0 0 1 = nI (vlW V).length := h.2.1
    unfold frN at hf ⊢
    rw [l_X12_cut_146]
    simp (disch := omega) only [jg_lit, jg_litL, jg_m1, jg_m1L, nI_add, lN_add, pk_mul, jg_sub, jg_subM, jg_addM, jg_addM', jg_negM, jt_in, jt_ix, jt_bi, jt_bl, jt_bv, jt_lt, jg_dT, jg_dF, jt_c, jt_cd, ru_I, ru_L, jg_leI, jg_ltI, jg_eqI, jg_M1, jg_M2, jg_M3, jg_M4, jg_M5, jg_M6, jg_ltT, jg_ltF, jg_leT, jg_leF, jg_eqT, jg_eqF, cond_true, cond_false, ne_eq, not_true_eq_false, not_false_eq_true, decide_true, decide_false, if_true, if_false, and_true, true_and, and_false, false_and, or_true, true_or, or_false, false_or, Nat.reduceEqDiff, reduceIte, Nat.reduceMul, Nat.reduceAdd, Nat.reduceSub, Nat.add_zero, Nat.zero_add, Nat.mul_zero, eq_self_iff_true, jg_not_lt, jg_not_le, h4, sm_rowOf]
  | r + 1, k, hr, hf => by
    have h12 := ho.1
    have h4 : m.1 41 0 0 1 = nI (vlW V).length := h.2.1
    have hk : k < (vlW V).length := by omega
    have k8 := okW_8 (ho.2.1 k hk).1
    have o := sm_ofWord (k := k) (c := 0) (by omega) (by omega) d m
    rw [sm_size h hk] at o
    unfold frN at hf ⊢
    by_cases c : wL (gw (vlW V) k) = []
    · rw [if_pos c]
      rw [c] at o
      rw [l_X12_cut_146]
      simp (disch := omega) only [jg_lit, jg_litL, jg_m1, jg_m1L, nI_add, lN_add, pk_mul, jg_sub, jg_subM, jg_addM, jg_addM', jg_negM, jt_in, jt_ix, jt_bi, jt_bl, jt_bv, jt_lt, jg_dT, jg_dF, jt_c, jt_cd, ru_I, ru_L, jg_leI, jg_ltI, jg_eqI, jg_M1, jg_M2, jg_M3, jg_M4, jg_M5, jg_M6, jg_ltT, jg_ltF, jg_leT, jg_leF, jg_eqT, jg_eqF, cond_true, cond_false, ne_eq, not_true_eq_false, not_false_eq_true, decide_true, decide_false, if_true, if_false, and_true, true_and, and_false, false_and, or_true, true_or, or_false, false_or, Nat.reduceEqDiff, reduceIte, Nat.reduceMul, Nat.reduceAdd, Nat.reduceSub, Nat.add_zero, Nat.zero_add, Nat.mul_zero, eq_self_iff_true, jg_not_lt, jg_not_le, h4, o, sm_rowOf, List.length_nil]
    · rw [if_neg c] at hf ⊢
      have hl : 0 < (wL (gw (vlW V) k)).length := List.length_pos_iff.mpr c
      rw [← sm_free_loop h ho x1 x3 x5 z2 z4 z7 z8 d r (k + 1) (by omega) hf, l_X12_cut_146]
      simp (disch := omega) only [jg_lit, jg_litL, jg_m1, jg_m1L, nI_add, lN_add, pk_mul, jg_sub, jg_subM, jg_addM, jg_addM', jg_negM, jt_in, jt_ix, jt_bi, jt_bl, jt_bv, jt_lt, jg_dT, jg_dF, jt_c, jt_cd, ru_I, ru_L, jg_leI, jg_ltI, jg_eqI, jg_M1, jg_M2, jg_M3, jg_M4, jg_M5, jg_M6, jg_ltT, jg_ltF, jg_leT, jg_leF, jg_eqT, jg_eqF, cond_true, cond_false, ne_eq, not_true_eq_false, not_false_eq_true, decide_true, decide_false, if_true, if_false, and_true, true_and, and_false, false_and, or_true, true_or, or_false, false_or, Nat.reduceEqDiff, reduceIte, Nat.reduceMul, Nat.reduceAdd, Nat.reduceSub, Nat.add_zero, Nat.zero_add, Nat.mul_zero, eq_self_iff_true, jg_not_lt, jg_not_le, h4, o]
theorem sm_row_loop {ls : List Nat} {b : Nat} (hb : b + 40 ≤ 8600) (x1 x3 x5 x6 : Int32) (z2 z4 : jm_V) (d : Nat) : ∀ (r k : Nat) (m : jm_M), k + r = ls.length → mH ls m → m.1 41 0 0 b = nI ls.length → (∀ q, q < k → m.1 41 0 0 (b + 1 + q) = nI (ls.getD q 0)) → ∃ m', jm_ev false d 11 1 jc_X12_cut 195 [vM, .inl x1, z2, .inl x3, z4, .inl x5, .inl x6, .inl (nI b), .inl (nI k)] [] m = jm_ev false d 11 1 jc_X12_cut 195 [vM, .inl x1, z2, .inl x3, z4, .inl x5, .inl x6, .inl (nI b), .inl (nI ls.length)] [] m' ∧ mR ls b m' ∧ mH ls m' ∧ fr (PA b 40) m m'
  | 0, k, m, hr, hH, hl, hq => by
    have e : k = ls.length := by omega
    subst e
    exact ⟨m, rfl, ⟨hH.1, hl, fun q hq' => hq q hq'⟩, hH, .rf⟩
  | r + 1, k, m, hr, hH, hl, hq => by
    have h8 := hH.1
    have s := hH.2.1
    have p := hH.2.2 k (by omega)
    obtain ⟨m', e1, e2, e3, e4⟩ := sm_row_loop hb x1 x3 x5 x6 z2 z4 d r (k + 1) (jm_sI m 41 0 0 (b + 1 + k) (nI (ls.getD k 0))) (by omega) ⟨h8, by rw [rd_II, if_neg (by omega)]; exact s, fun q hq' => by rw [rd_II, if_neg (by omega)]; exact hH.2.2 q hq'⟩ (by rw [rd_II, if_neg (by omega)]; exact hl) (fun q hq' => by
      rw [rd_II]
      by_cases e : q = k
      · rw [if_pos ⟨rfl, rfl, rfl, by omega⟩, e]
      · rw [if_neg (by omega)]; exact hq q (by omega))
    refine ⟨m', ?_, e2, e3, (fr_I (show PA b 40 41 0 0 (b + 1 + k) from ⟨rfl, by omega, by omega⟩)).tr e4⟩
    rw [← e1]
    refine (l_X12_cut_195 _ _ _ _ _ _ _ _ _ _).trans ?_
    simp (disch := omega) only [jg_lit, jg_litL, jg_m1, jg_m1L, nI_add, lN_add, pk_mul, jg_sub, jg_subM, jg_addM, jg_addM', jg_negM, jt_in, jt_ix, jt_bi, jt_bl, jt_bv, jt_lt, jg_dT, jg_dF, jt_c, jt_cd, ru_I, ru_L, jg_leI, jg_ltI, jg_eqI, jg_M1, jg_M2, jg_M3, jg_M4, jg_M5, jg_M6, jg_ltT, jg_ltF, jg_leT, jg_leF, jg_eqT, jg_eqF, cond_true, cond_false, ne_eq, not_true_eq_false, not_false_eq_true, decide_true, decide_false, if_true, if_false, and_true, true_and, and_false, false_and, or_true, true_or, or_false, false_or, Nat.reduceEqDiff, reduceIte, Nat.reduceMul, Nat.reduceAdd, Nat.reduceSub, Nat.add_zero, Nat.zero_add, Nat.mul_zero, eq_self_iff_true, jg_not_lt, jg_not_le, s, p]
def P42 (n K _i _j k : Nat) : Prop := K = 42 ∧ k % 12 = n ∧ k < 48
theorem sm_cnames_loop {ls : List Nat} (ho : okL ls) {n : Nat} (hn : n < 12) (x1 x3 : Int32) (z2 z4 z5 z7 : jm_V) (d : Nat) : ∀ (r s : Nat) (m : jm_M), s + r = 4 → mH ls m → (∀ q, q < s → m.2 42 0 0 (12 * q + n) = lN (enc ls)) → ∃ m', jm_ev false (d + 1) 11 1 jc_X12_cut 263 [vM, .inl x1, z2, .inl x3, z4, z5, .inl (nI n), z7, .inl (nI s)] [] m = jm_ev false (d + 1) 11 1 jc_X12_cut 263 [vM, .inl x1, z2, .inl x3, z4, z5, .inl (nI n), z7, .inl (nI 4)] [] m' ∧ (∀ q, q < 4 → m'.2 42 0 0 (12 * q + n) = lN (enc ls)) ∧ fr (P42 n) m m'
  | 0, s, m, hr, hH, hq => by
    have e : s = 4 := by omega
    subst e
    exact ⟨m, rfl, fun q hq' => hq q hq', .rf⟩
  | r + 1, s, m, hr, hH, hq => by
    have nh := sm_numberHere ho hH d
    obtain ⟨m', e1, e2, e3⟩ := sm_cnames_loop ho hn x1 x3 z2 z4 z5 z7 d r (s + 1) (jm_sL m 42 0 0 (12 * s + n) (lN (enc ls))) (by omega) hH (fun q hq' => by
      rw [rd_LL]
      by_cases e : q = s
      · rw [if_pos ⟨rfl, rfl, rfl, by rw [e]⟩]
      · rw [if_neg (by omega)]; exact hq q (by omega))
    refine ⟨m', ?_, e2, (fr_L (show P42 n 42 0 0 (12 * s + n) from ⟨rfl, by omega, by omega⟩)).tr e3⟩
    rw [← e1]
    refine (l_X12_cut_263 _ _ _ _ _ _ _ _ _ _).trans ?_
    simp (disch := omega) only [jg_lit, jg_litL, jg_m1, jg_m1L, nI_add, lN_add, pk_mul, jg_sub, jg_subM, jg_addM, jg_addM', jg_negM, jt_in, jt_ix, jt_bi, jt_bl, jt_bv, jt_lt, jg_dT, jg_dF, jt_c, jt_cd, ru_I, ru_L, jg_leI, jg_ltI, jg_eqI, jg_M1, jg_M2, jg_M3, jg_M4, jg_M5, jg_M6, jg_ltT, jg_ltF, jg_leT, jg_leF, jg_eqT, jg_eqF, cond_true, cond_false, ne_eq, not_true_eq_false, not_false_eq_true, decide_true, decide_false, if_true, if_false, and_true, true_and, and_false, false_and, or_true, true_or, or_false, false_or, Nat.reduceEqDiff, reduceIte, Nat.reduceMul, Nat.reduceAdd, Nat.reduceSub, Nat.add_zero, Nat.zero_add, Nat.mul_zero, eq_self_iff_true, jg_not_lt, jg_not_le, nh]
theorem sm_cut_new {V : Vl} {m : jm_M} (hF : mF V m) (ho : okV V) {ls : List Nat} (c1 : okL ls) (hH : mH ls m) {g : Nat} (hg : g < 12) (hn : nLive (vlW V) ≠ 12) (x1 x3 : Int32) (z2 z4 z7 z8 : jm_V) (d : Nat) : ∃ m' z5' z7', jm_ev false (d + 2) 11 1 jc_X12_cut 146 [vM, .inl x1, z2, .inl x3, z4, .inl (nI g), .inl (nI 0), z7, z8] [] m = jm_ev false (d + 2) 11 1 jc_X12_cut 263 [vM, .inl x1, z2, .inl x3, z4, z5', .inl (nI (freeN (vlW V))), z7', .inl (nI 4)] [] m' ∧ mF (cutV V (freeN (vlW V)) ls g) m' ∧ fr QM m m' := by
  have h12 := ho.2.2.2.1.1
  have hP := ho.2.1
  have n12 := freeN_lt h12 hn
  have nle := freeN_le (vlW V)
  have lp := sm_free_loop hF.1 ho.2.2.2.1 x1 x3 (nI g) z2 z4 z7 z8 d (vlW V).length 0 (by omega) n12
  have lp : jm_ev false (d + 2) 11 1 jc_X12_cut 146 [vM, .inl x1, z2, .inl x3, z4, .inl (nI g), .inl (nI 0), z7, z8] [] m = jm_ev false (d + 2) 11 1 jc_X12_cut 195 [vM, .inl x1, z2, .inl x3, z4, .inl (nI g), .inl (nI (freeN (vlW V))), .inl (nI (0 + 10 + 40 * freeN (vlW V))), .inl (nI 0)] [] (jm_sI m 41 0 0 (0 + 10 + 40 * freeN (vlW V)) (m.1 40 0 0 26)) := lp
  generalize freeN (vlW V) = n at *
  have h8 := hH.1
  obtain ⟨m1, e1, e2, e3, e4⟩ := sm_row_loop (ls := ls) (b := 0 + 10 + 40 * n) (by omega) x1 x3 (nI g) (nI n) z2 z4 (d + 2) ls.length 0 (jm_sI m 41 0 0 (0 + 10 + 40 * n) (m.1 40 0 0 26)) (by omega) ⟨h8, by rw [rd_II, if_neg (by omega)]; exact hH.2.1, fun q hq' => by rw [rd_II, if_neg (by omega)]; exact hH.2.2 q hq'⟩ (by rw [rd_II, if_pos ⟨rfl, rfl, rfl, rfl⟩]; exact hH.2.1) (fun q hq => by omega)
  obtain ⟨m2, f1, f2, f3⟩ := sm_fresh (b := 0 + 10 + 40 * n) (by omega) e2 (d + 1) (2 ^ g)
  have g0 : fr (PA (0 + 10 + 40 * n) 40) m m2 := ((fr_I (show PA (0 + 10 + 40 * n) 40 41 0 0 (0 + 10 + 40 * n) from ⟨rfl, by omega, by omega⟩)).tr e4).tr f3
  have h2H : mH ls m2 := ⟨h8, by rw [(f3 40 0 0 26 (by unfold PA; omega)).1]; exact e3.2.1, fun q hq => by rw [(f3 49 0 0 q (by unfold PA; omega)).1]; exact e3.2.2 q hq⟩
  have s1 : m2.1 41 0 0 1 = nI (vlW V).length := by rw [(g0 41 0 0 1 (by unfold PA; omega)).1]; exact hF.1.2.1
  have step : ∃ m3, jm_ev false (d + 2) 11 1 jc_X12_cut 195 [vM, .inl x1, z2, .inl x3, z4, .inl (nI g), .inl (nI n), .inl (nI (0 + 10 + 40 * n)), .inl (nI ls.length)] [] m1 = jm_ev false (d + 2) 11 1 jc_X12_cut 263 [vM, .inl x1, z2, .inl x3, z4, .inl (nI g), .inl (nI n), .inl (nI (0 + 10 + 40 * n)), .inl (nI 0)] [] m3 ∧ m3.1 41 0 0 1 = nI (max (vlW V).length (n + 1)) ∧ (∀ K i j k, ¬ (K = 41 ∧ k = 1) → m3.1 K i j k = m2.1 K i j k ∧ m3.2 K i j k = m2.2 K i j k) := by
    have sz := e3.2.1
    by_cases c : n = (vlW V).length
    · refine ⟨jm_sI m2 41 0 0 1 (nI ((vlW V).length + 1)), ?_, by rw [rd_II, if_pos ⟨rfl, rfl, rfl, rfl⟩, show max (vlW V).length (n + 1) = (vlW V).length + 1 by omega], fun K i j k hk => ⟨by rw [rd_II, if_neg (fun z => hk ⟨z.1, z.2.2.2⟩)], rfl⟩⟩
      rw [l_X12_cut_195]
      simp (disch := omega) only [jg_lit, jg_litL, jg_m1, jg_m1L, nI_add, lN_add, pk_mul, jg_sub, jg_subM, jg_addM, jg_addM', jg_negM, jt_in, jt_ix, jt_bi, jt_bl, jt_bv, jt_lt, jg_dT, jg_dF, jt_c, jt_cd, ru_I, ru_L, jg_leI, jg_ltI, jg_eqI, jg_M1, jg_M2, jg_M3, jg_M4, jg_M5, jg_M6, jg_ltT, jg_ltF, jg_leT, jg_leF, jg_eqT, jg_eqF, cond_true, cond_false, ne_eq, not_true_eq_false, not_false_eq_true, decide_true, decide_false, if_true, if_false, and_true, true_and, and_false, false_and, or_true, true_or, or_false, false_or, Nat.reduceEqDiff, reduceIte, Nat.reduceMul, Nat.reduceAdd, Nat.reduceSub, Nat.add_zero, Nat.zero_add, Nat.mul_zero, eq_self_iff_true, jg_not_lt, jg_not_le, sz, f1, s1, shl_n]
    · refine ⟨m2, ?_, by rw [s1, show max (vlW V).length (n + 1) = (vlW V).length by omega], fun K i j k hk => ⟨rfl, rfl⟩⟩
      rw [l_X12_cut_195]
      simp (disch := omega) only [jg_lit, jg_litL, jg_m1, jg_m1L, nI_add, lN_add, pk_mul, jg_sub, jg_subM, jg_addM, jg_addM', jg_negM, jt_in, jt_ix, jt_bi, jt_bl, jt_bv, jt_lt, jg_dT, jg_dF, jt_c, jt_cd, ru_I, ru_L, jg_leI, jg_ltI, jg_eqI, jg_M1, jg_M2, jg_M3, jg_M4, jg_M5, jg_M6, jg_ltT, jg_ltF, jg_leT, jg_leF, jg_eqT, jg_eqF, cond_true, cond_false, ne_eq, not_true_eq_false, not_false_eq_true, decide_true, decide_false, if_true, if_false, and_true, true_and, and_false, false_and, or_true, true_or, or_false, false_or, Nat.reduceEqDiff, reduceIte, Nat.reduceMul, Nat.reduceAdd, Nat.reduceSub, Nat.add_zero, Nat.zero_add, Nat.mul_zero, eq_self_iff_true, jg_not_lt, jg_not_le, sz, f1, s1, shl_n]
  obtain ⟨m3, u1, u2, u3⟩ := step
  have h3H : mH ls m3 := ⟨h8, by rw [(u3 40 0 0 26 (by omega)).1]; exact h2H.2.1, fun q hq => by rw [(u3 49 0 0 q (by omega)).1]; exact h2H.2.2 q hq⟩
  obtain ⟨m4, v1, v2, v3⟩ := sm_cnames_loop c1 n12 x1 x3 z2 z4 (.inl (nI g)) (.inl (nI (0 + 10 + 40 * n))) (d + 1) 4 0 m3 (by omega) h3H (fun q hq => by omega)
  have far : ∀ K i j k, ¬ PA (0 + 10 + 40 * n) 40 K i j k → ¬ (K = 41 ∧ k = 1) → ¬ P42 n K i j k → m4.1 K i j k = m.1 K i j k ∧ m4.2 K i j k = m.2 K i j k := fun K i j k z1 z2 z3 => by
    have a1 := v3 K i j k z3
    have a2 := u3 K i j k z2
    have a3 := g0 K i j k z1
    exact ⟨(a1.1.trans a2.1).trans a3.1, (a1.2.trans a2.2).trans a3.2⟩
  have hl := putW_len nle (wNew ls (2 ^ g))
  refine ⟨m4, _, _, by rw [lp, e1, u1]; exact v1, ?_, fun K i j k hq => far K i j k (fun z => hq (by unfold QM SM; unfold PA at z; omega)) (fun z => hq (by unfold QM SM; omega)) (fun z => hq (by unfold QM SM; unfold P42 at z; omega))⟩
  obtain ⟨hv, hN, hS, hL⟩ := hF
  have q41 := fun k (hk : k ≠ 1) (hk2 : k < 0 + 10 + 40 * n ∨ 0 + 10 + 40 * n + 40 ≤ k) => (far 41 0 0 k (by unfold PA; omega) (by omega) (by unfold P42; omega)).1
  have hr := ho.2.2.2.2.2.2
  have hr1 := hr.1
  have hr2 := hr.2.1
  refine ⟨⟨by rw [q41 0 (by omega) (by omega)]; exact hv.1, ?_, by rw [q41 2 (by omega) (by omega)]; exact hv.2.2.1, by rw [q41 4 (by omega) (by omega)]; exact hv.2.2.2.1, fun j hj => ?_⟩, fun s w hs hw => ?_, fun c k1 k2 => by rw [q41 _ (by omega) (by omega)]; exact hS c k1 k2, by rw [q41 3 (by omega) (by omega)]; exact hL.1, fun k hk => by rw [q41 _ (by omega) (by omega)]; exact hL.2.1 k hk, fun r hr => ?_⟩
  · rw [(v3 41 0 0 (0 + 1) (by unfold P42; omega)).1]
    show _ = nI (putW (vlW V) n (wNew ls (2 ^ g))).length
    rw [hl]; exact u2
  · have hj : j < (putW (vlW V) n (wNew ls (2 ^ g))).length := hj
    show mW (gw (putW (vlW V) n (wNew ls (2 ^ g))) j) (0 + 10 + 40 * j) m4
    rw [putW_gw nle]
    by_cases c : j = n
    · rw [if_pos c, c]
      refine mW_cp f2 (by show 0 ≤ 8; decide) (fun k hk => ?_)
      rw [(v3 41 0 0 _ (by unfold P42; omega)).1, (u3 41 0 0 _ (by omega)).1]
    · rw [if_neg c]
      have okj := ho.2.2.2.1.2.1 j (by omega)
      refine mW_cp (hv.2.2.2.2 j (by omega)) (by have := okj.1.2.1; omega) (fun k hk => q41 _ (by omega) (by omega))
  · have hw : w < (putW (vlW V) n (wNew ls (2 ^ g))).length := hw
    have hs : s < vlP V := hs
    show m4.2 42 0 0 (0 + 12 * s + w) = lN (enc (if w = n then ls else vlK V s w))
    by_cases c : w = n
    · rw [if_pos c, c, show 0 + 12 * s + n = 12 * s + n by omega]; exact v2 s (by omega)
    · rw [if_neg c, (far 42 0 0 (0 + 12 * s + w) (by unfold PA; omega) (by omega) (by unfold P42; omega)).2]
      exact hN s w hs (by omega)
  · rw [q41 _ (by omega) (by omega), q41 _ (by omega) (by omega), q41 _ (by omega) (by omega)]
    exact hL.2.2 r hr
theorem sm_sayIf {V : Vl} {m : jm_M} (h : mF V m) (ho : okV V) {b : Nat} (hb : b < (vlW V).length) (d : Nat) : (wL (gw (vlW V) b) = [] ∧ sayIf V b = V ∧ jm_sem false (d + 6) jn_X12_ofWord [vM, .inl (nI b), .inl (nI 0)] m = some (.inl (nI 0), m)) ∨ (wL (gw (vlW V) b) ≠ [] ∧ (∃ l, 0 < l ∧ l ≤ 8 ∧ jm_sem false (d + 6) jn_X12_ofWord [vM, .inl (nI b), .inl (nI 0)] m = some (.inl (nI l), m)) ∧ ∃ x m', jm_sem false (d + 6) jn_X12_says [vM, .inl (nI 0), .inl (nI b)] m = some (.inl x, m') ∧ mF (sayIf V b) (jm_sI m' 40 0 0 28 x) ∧ fr QM m (jm_sI m' 40 0 0 28 x)) := by
  have h12 := ho.2.2.2.1.1
  have o := sm_ofWord (k := b) (c := 0) (by omega) (by omega) (d + 4) m
  rw [sm_size h.1 hb] at o
  by_cases c : wL (gw (vlW V) b) = []
  · rw [c] at o
    exact Or.inl ⟨c, if_pos c, o⟩
  · obtain ⟨n1, b1, b2, b3⟩ := sm_says (s := 0) h.1 (by omega) ho h.2.2.1 h.2.2.2 hb c d
    refine Or.inr ⟨c, ⟨_, List.length_pos_iff.mpr c, okW_8 (ho.2.2.2.1.2.1 b hb).1, o⟩, _, n1, b1, ?_, QM_28 (QM_S0 b3) _⟩
    rw [show sayIf V b = vlSet V (sayWs V b) from if_neg c]
    exact mF_28 (mF_say h ho b2 (sayWs_len _ _) b3) _ (okV_say ho hb c)
theorem sm_cut_end {V : Vl} {m : jm_M} (h : mF V m) (ho : okV V) {a b : Nat} (ha : a < (vlW V).length) (hb : b < (vlW V).length) (hga : wL (gw (vlW V) a) ≠ []) (n : Nat) (z2 z4 z5 z7 : jm_V) (d : Nat) : ∃ m', jm_ev false (d + 6) 11 1 jc_X12_cut 263 [vM, .inl (nI a), z2, .inl (nI b), z4, z5, .inl (nI n), z7, .inl (nI 4)] [] m = some (.inl (nI n), jm_sI m' 40 0 0 2 0) ∧ mF (sayIf (sayIf V a) b) m' ∧ fr QM m m' := by
  rcases sm_sayIf h ho ha d with ⟨u, -, -⟩ | ⟨-, ⟨l, l0, l8, o⟩, x, m1, e1, e2, e3⟩
  · exact absurd u hga
  · have ho2 := okV_sayIf ho ha
    rcases sm_sayIf e2 ho2 (b := b) (by rw [sayIf_len]; exact hb) d with ⟨-, u1, u2⟩ | ⟨-, ⟨l', l0', l8', o'⟩, x', m2, f1, f2, f3⟩
    · refine ⟨jm_sI m1 40 0 0 28 x, ?_, by rw [u1]; exact e2, e3⟩
      rw [l_X12_cut_263]
      simp (disch := omega) only [jg_lit, jg_litL, jg_m1, jg_m1L, nI_add, lN_add, pk_mul, jg_sub, jg_subM, jg_addM, jg_addM', jg_negM, jt_in, jt_ix, jt_bi, jt_bl, jt_bv, jt_lt, jg_dT, jg_dF, jt_c, jt_cd, ru_I, ru_L, jg_leI, jg_ltI, jg_eqI, jg_M1, jg_M2, jg_M3, jg_M4, jg_M5, jg_M6, jg_ltT, jg_ltF, jg_leT, jg_leF, jg_eqT, jg_eqF, cond_true, cond_false, ne_eq, not_true_eq_false, not_false_eq_true, decide_true, decide_false, if_true, if_false, and_true, true_and, and_false, false_and, or_true, true_or, or_false, false_or, Nat.reduceEqDiff, reduceIte, Nat.reduceMul, Nat.reduceAdd, Nat.reduceSub, Nat.add_zero, Nat.zero_add, Nat.mul_zero, eq_self_iff_true, jg_not_lt, jg_not_le, o, e1, u2, sm_gives]
    · refine ⟨jm_sI m2 40 0 0 28 x', ?_, f2, e3.tr f3⟩
      rw [l_X12_cut_263]
      simp (disch := omega) only [jg_lit, jg_litL, jg_m1, jg_m1L, nI_add, lN_add, pk_mul, jg_sub, jg_subM, jg_addM, jg_addM', jg_negM, jt_in, jt_ix, jt_bi, jt_bl, jt_bv, jt_lt, jg_dT, jg_dF, jt_c, jt_cd, ru_I, ru_L, jg_leI, jg_ltI, jg_eqI, jg_M1, jg_M2, jg_M3, jg_M4, jg_M5, jg_M6, jg_ltT, jg_ltF, jg_leT, jg_leF, jg_eqT, jg_eqF, cond_true, cond_false, ne_eq, not_true_eq_false, not_false_eq_true, decide_true, decide_false, if_true, if_false, and_true, true_and, and_false, false_and, or_true, true_or, or_false, false_or, Nat.reduceEqDiff, reduceIte, Nat.reduceMul, Nat.reduceAdd, Nat.reduceSub, Nat.add_zero, Nat.zero_add, Nat.mul_zero, eq_self_iff_true, jg_not_lt, jg_not_le, o, e1, o', f1, sm_gives]
