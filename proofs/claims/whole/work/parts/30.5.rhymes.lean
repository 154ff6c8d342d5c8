/-! ===== rhymes ===== -/
def endL (ls : List Nat) (n : Nat) : List Nat := ls.drop (ls.length - n)
theorem endL_ok {ls : List Nat} (h : okL ls) (n : Nat) : okL (endL ls n) := okL_sub (fun _ hc => List.mem_of_mem_drop hc) h
theorem endL_len (ls : List Nat) (n : Nat) : (endL ls n).length ≤ ls.length := by unfold endL; rw [List.length_drop]; omega
def rhB (ws : List Wd) (w n k : Nat) : Bool := decide (k ≠ w ∧ n ≤ (wL (gw ws k)).length ∧ endL (wL (gw ws k)) n = endL (wL (gw ws w)) n)
theorem endL_step {ls : List Nat} {k : Nat} (h : k < ls.length) : endL ls (k + 1) = ls.getD (ls.length - 1 - k) 0 :: endL ls k := by
  unfold endL
  rw [drop_cons (show ls.length - (k + 1) < ls.length by omega)]
  rw [show ls.length - (k + 1) = ls.length - 1 - k by omega, show ls.length - 1 - k + 1 = ls.length - k by omega]
theorem endL_mono {a b : List Nat} {k n : Nat} (hkn : k ≤ n) (ha : n ≤ a.length) (hb : n ≤ b.length) (h : endL a n = endL b n) : endL a k = endL b k := by
  unfold endL at h ⊢
  have := congrArg (List.drop (n - k)) h
  rw [List.drop_drop, List.drop_drop] at this
  rw [show a.length - n + (n - k) = a.length - k by omega, show b.length - n + (n - k) = b.length - k by omega] at this
  exact this
theorem sm_rhyme_loop {a b : List Nat} (oa : okL a) (ob : okL b) {b1 b2 n : Nat} (h1 : b1 + 9 ≤ 8600) (h2 : b2 + 9 ≤ 8600) (ha : n ≤ a.length) (hb : n ≤ b.length) {m : jm_M} (ra : mR a b1 m) (rb : mR b b2 m) (d : Nat) : ∀ (r k : Nat), k + r = n → endL a k = endL b k → jm_ev false d 11 2 jc_X12_rhyme 15 [vM, .inl (nI b1), .inl (nI b2), .inl (nI n), .inl (nI k)] [] m = some (.inl (bI (decide (endL b n = endL a n))), m)
  | 0, k, hr, he => by
    have h8 := ra.1
    have e : k = n := by omega
    subst e
    rw [l_X12_rhyme_15, dec_T he.symm]
    simp (disch := omega) only [jg_lit, jg_litL, jg_m1, jg_m1L, nI_add, lN_add, pk_mul, jg_sub, jg_subM, jg_addM, jg_addM', jg_negM, jt_in, jt_ix, jt_bi, jt_bl, jt_bv, jt_lt, jg_dT, jg_dF, jt_c, jt_cd, ru_I, ru_L, jg_leI, jg_ltI, jg_eqI, jg_M1, jg_M2, jg_M3, jg_M4, jg_M5, jg_M6, jg_ltT, jg_ltF, jg_leT, jg_leF, jg_eqT, jg_eqF, cond_true, cond_false, ne_eq, not_true_eq_false, not_false_eq_true, decide_true, decide_false, if_true, if_false, and_true, true_and, and_false, false_and, or_true, true_or, or_false, false_or, Nat.reduceEqDiff, reduceIte, Nat.reduceMul, Nat.reduceAdd, Nat.reduceSub, Nat.add_zero, Nat.zero_add, Nat.mul_zero, eq_self_iff_true, jg_not_lt, jg_not_le, bI_T]
  | r + 1, k, hr, he => by
    have h8 := ra.1
    have h8' := rb.1
    have q0 := ra.2.1
    have q1 := rb.2.1
    have p0 := ra.2.2 (a.length - 1 - k) (by omega)
    have p1 := rb.2.2 (b.length - 1 - k) (by omega)
    rw [show b1 + 1 + (a.length - 1 - k) = b1 + a.length - k by omega] at p0
    rw [show b2 + 1 + (b.length - 1 - k) = b2 + b.length - k by omega] at p1
    have l0 := okL_31 oa (a.length - 1 - k)
    have l1 := okL_31 ob (b.length - 1 - k)
    rw [l_X12_rhyme_15]
    by_cases c : a.getD (a.length - 1 - k) 0 = b.getD (b.length - 1 - k) 0
    · simp (disch := omega) only [jg_lit, jg_litL, jg_m1, jg_m1L, nI_add, lN_add, pk_mul, jg_sub, jg_subM, jg_addM, jg_addM', jg_negM, jt_in, jt_ix, jt_bi, jt_bl, jt_bv, jt_lt, jg_dT, jg_dF, jt_c, jt_cd, ru_I, ru_L, jg_leI, jg_ltI, jg_eqI, jg_M1, jg_M2, jg_M3, jg_M4, jg_M5, jg_M6, jg_ltT, jg_ltF, jg_leT, jg_leF, jg_eqT, jg_eqF, cond_true, cond_false, ne_eq, not_true_eq_false, not_false_eq_true, decide_true, decide_false, if_true, if_false, and_true, true_and, and_false, false_and, or_true, true_or, or_false, false_or, Nat.reduceEqDiff, reduceIte, Nat.reduceMul, Nat.reduceAdd, Nat.reduceSub, Nat.add_zero, Nat.zero_add, Nat.mul_zero, eq_self_iff_true, jg_not_lt, jg_not_le, q0, q1, p0, p1]
      exact sm_rhyme_loop oa ob h1 h2 ha hb ra rb d r (k + 1) (by omega) (by rw [endL_step (by omega), endL_step (by omega), c, he])
    · have hF : ¬ endL b n = endL a n := fun z => by
        have := endL_mono (show k + 1 ≤ n by omega) hb ha z
        rw [endL_step (by omega), endL_step (by omega)] at this
        exact c (List.cons.inj this).1.symm
      rw [dec_F hF]
      simp (disch := omega) only [jg_lit, jg_litL, jg_m1, jg_m1L, nI_add, lN_add, pk_mul, jg_sub, jg_subM, jg_addM, jg_addM', jg_negM, jt_in, jt_ix, jt_bi, jt_bl, jt_bv, jt_lt, jg_dT, jg_dF, jt_c, jt_cd, ru_I, ru_L, jg_leI, jg_ltI, jg_eqI, jg_M1, jg_M2, jg_M3, jg_M4, jg_M5, jg_M6, jg_ltT, jg_ltF, jg_leT, jg_leF, jg_eqT, jg_eqF, cond_true, cond_false, ne_eq, not_true_eq_false, not_false_eq_true, decide_true, decide_false, if_true, if_false, and_true, true_and, and_false, false_and, or_true, true_or, or_false, false_or, Nat.reduceEqDiff, reduceIte, Nat.reduceMul, Nat.reduceAdd, Nat.reduceSub, Nat.add_zero, Nat.zero_add, Nat.mul_zero, eq_self_iff_true, jg_not_lt, jg_not_le, q0, q1, p0, p1, bI_F]
theorem sm_rhyme {a b : List Nat} (oa : okL a) (ob : okL b) {b1 b2 n : Nat} (h1 : b1 + 9 ≤ 8600) (h2 : b2 + 9 ≤ 8600) (ha : n ≤ a.length) {m : jm_M} (ra : mR a b1 m) (rb : mR b b2 m) (d : Nat) : jm_sem false (d + 1) jn_X12_rhyme [vM, .inl (nI b1), .inl (nI b2), .inl (nI n)] m = some (.inl (bI (decide (n ≤ b.length ∧ endL b n = endL a n))), m) := by
  have h8 := ra.1
  have h8' := rb.1
  have q1 := rb.2.1
  rw [e_X12_rhyme]
  by_cases c : n ≤ b.length
  · have z0 : endL a 0 = endL b 0 := by unfold endL; rw [Nat.sub_zero, Nat.sub_zero, List.drop_length, List.drop_length]
    have := sm_rhyme_loop oa ob h1 h2 ha c ra rb d n 0 (by omega) z0
    simp (disch := omega) only [jg_lit, jg_litL, jg_m1, jg_m1L, nI_add, lN_add, pk_mul, jg_sub, jg_subM, jg_addM, jg_addM', jg_negM, jt_in, jt_ix, jt_bi, jt_bl, jt_bv, jt_lt, jg_dT, jg_dF, jt_c, jt_cd, ru_I, ru_L, jg_leI, jg_ltI, jg_eqI, jg_M1, jg_M2, jg_M3, jg_M4, jg_M5, jg_M6, jg_ltT, jg_ltF, jg_leT, jg_leF, jg_eqT, jg_eqF, cond_true, cond_false, ne_eq, not_true_eq_false, not_false_eq_true, decide_true, decide_false, if_true, if_false, and_true, true_and, and_false, false_and, or_true, true_or, or_false, false_or, Nat.reduceEqDiff, reduceIte, Nat.reduceMul, Nat.reduceAdd, Nat.reduceSub, Nat.add_zero, Nat.zero_add, Nat.mul_zero, eq_self_iff_true, jg_not_lt, jg_not_le, q1]
    rw [this]
  · rw [dec_F (fun z => c z.1)]
    simp (disch := omega) only [jg_lit, jg_litL, jg_m1, jg_m1L, nI_add, lN_add, pk_mul, jg_sub, jg_subM, jg_addM, jg_addM', jg_negM, jt_in, jt_ix, jt_bi, jt_bl, jt_bv, jt_lt, jg_dT, jg_dF, jt_c, jt_cd, ru_I, ru_L, jg_leI, jg_ltI, jg_eqI, jg_M1, jg_M2, jg_M3, jg_M4, jg_M5, jg_M6, jg_ltT, jg_ltF, jg_leT, jg_leF, jg_eqT, jg_eqF, cond_true, cond_false, ne_eq, not_true_eq_false, not_false_eq_true, decide_true, decide_false, if_true, if_false, and_true, true_and, and_false, false_and, or_true, true_or, or_false, false_or, Nat.reduceEqDiff, reduceIte, Nat.reduceMul, Nat.reduceAdd, Nat.reduceSub, Nat.add_zero, Nat.zero_add, Nat.mul_zero, eq_self_iff_true, jg_not_lt, jg_not_le, q1, bI_F]
theorem rhB_T {ws : List Wd} {w n k : Nat} (h1 : k ≠ w) (h2 : n ≤ (wL (gw ws k)).length) (h3 : endL (wL (gw ws k)) n = endL (wL (gw ws w)) n) : rhB ws w n k = true := decide_eq_true ⟨h1, h2, h3⟩
theorem rhB_F {ws : List Wd} {w n k : Nat} (h : ¬ (k ≠ w ∧ n ≤ (wL (gw ws k)).length ∧ endL (wL (gw ws k)) n = endL (wL (gw ws w)) n)) : rhB ws w n k = false := decide_eq_false h
theorem if_T0 {a b : Nat} : (if (true : Bool) = true then a else b) = a := rfl
theorem if_F0 {a b : Nat} : (if (false : Bool) = true then a else b) = b := rfl
theorem sx_rhymes_loop {V : Vl} {m : jm_M} (h : xV V 0 m) (ho : okWs (vlW V)) {w n : Nat} (hw : w < (vlW V).length) (hn : n ≤ (wL (gw (vlW V) w)).length) (d : Nat) : ∀ (r k v : Nat), k + r = (vlW V).length → jm_ev false (d + 1) 7 1 jc_X8_rhymesOf 20 [.inr (.inr (.inl (10, 0, 0))), .inl (nI w), .inl (nI n), .inr (.inl (lN (enc (endL (wL (gw (vlW V) w)) n)))), jm_j, .inl (nI v), .inl (nI k)] [] m = some (.inl (nI (bsW (rhB (vlW V) w n) r k v)), m)
  | 0, k, v, hr => by
    have h12 := ho.1
    have h4 := h.1.2.1
    rw [l_X8_rhymesOf_20]
    simp (disch := omega) only [jg_lit, jg_litL, jg_m1, jg_m1L, nI_add, lN_add, pk_mul, jg_sub, jg_subM, jg_addM, jg_addM', jg_negM, jt_in, jt_ix, jt_bi, jt_bl, jt_bv, jt_lt, jg_dT, jg_dF, jt_c, jt_cd, ru_I, ru_L, jg_leI, jg_ltI, jg_eqI, jg_M1, jg_M2, jg_M3, jg_M4, jg_M5, jg_M6, jg_ltT, jg_ltF, jg_leT, jg_leF, jg_eqT, jg_eqF, cond_true, cond_false, ne_eq, not_true_eq_false, not_false_eq_true, decide_true, decide_false, if_true, if_false, and_true, true_and, and_false, false_and, or_true, true_or, or_false, false_or, Nat.reduceEqDiff, reduceIte, Nat.reduceMul, Nat.reduceAdd, Nat.reduceSub, Nat.add_zero, Nat.zero_add, Nat.mul_zero, eq_self_iff_true, jg_not_lt, jg_not_le, h4]
    rfl
  | r + 1, k, v, hr => by
    have h12 := ho.1
    have h4 := h.1.2.1
    have hk : k < (vlW V).length := by omega
    have ok := ho.2.1 k hk
    have okw := ho.2.1 w hw
    have k8 := okW_8 ok.1
    have w8 := okW_8 okw.1
    have x0 := (h.2 k hk).1
    have x1 := (h.2 k hk).2.1
    have ih := fun v => sx_rhymes_loop h ho hw hn d r (k + 1) v (by omega)
    rw [l_X8_rhymesOf_20]
    unfold bsW
    by_cases c : k = w
    · rw [rhB_F (fun z => z.1 c), if_F0]
      simp (disch := omega) only [jg_lit, jg_litL, jg_m1, jg_m1L, nI_add, lN_add, pk_mul, jg_sub, jg_subM, jg_addM, jg_addM', jg_negM, jt_in, jt_ix, jt_bi, jt_bl, jt_bv, jt_lt, jg_dT, jg_dF, jt_c, jt_cd, ru_I, ru_L, jg_leI, jg_ltI, jg_eqI, jg_M1, jg_M2, jg_M3, jg_M4, jg_M5, jg_M6, jg_ltT, jg_ltF, jg_leT, jg_leF, jg_eqT, jg_eqF, cond_true, cond_false, ne_eq, not_true_eq_false, not_false_eq_true, decide_true, decide_false, if_true, if_false, and_true, true_and, and_false, false_and, or_true, true_or, or_false, false_or, Nat.reduceEqDiff, reduceIte, Nat.reduceMul, Nat.reduceAdd, Nat.reduceSub, Nat.add_zero, Nat.zero_add, Nat.mul_zero, eq_self_iff_true, jg_not_lt, jg_not_le, h4]
      exact ih v
    · by_cases c2 : n ≤ (wL (gw (vlW V) k)).length
      · have lo := sx_lastOf ok.1.1 k8 c2 d m
        have ce := cmp_eq (a := enc (endL (wL (gw (vlW V) k)) n)) (b := enc (endL (wL (gw (vlW V) w)) n)) (Nat.lt_trans (enc_40 (endL_ok ok.1.1 n) (Nat.le_trans (endL_len _ _) k8)) (by decide)) (Nat.lt_trans (enc_40 (endL_ok okw.1.1 n) (Nat.le_trans (endL_len _ _) w8)) (by decide))
        rw [enc_inj (endL_ok ok.1.1 n) (endL_ok okw.1.1 n)] at ce
        have lo' : jm_sem false (d + 1) jn_X4_lastOf [.inr (.inl (lN (enc (wL (gw (vlW V) k))))), .inl (nI n)] m = some (.inr (.inl (lN (enc (endL (wL (gw (vlW V) k)) n)))), m) := lo
        by_cases c3 : endL (wL (gw (vlW V) k)) n = endL (wL (gw (vlW V) w)) n
        · rw [rhB_T c c2 c3, if_T0]
          have ce : lg_cmp (lN (enc (endL (wL (gw (vlW V) k)) n))) (lN (enc (endL (wL (gw (vlW V) w)) n))) = nI 0 := ce.mpr c3
          simp (disch := omega) only [jg_lit, jg_litL, jg_m1, jg_m1L, nI_add, lN_add, pk_mul, jg_sub, jg_subM, jg_addM, jg_addM', jg_negM, jt_in, jt_ix, jt_bi, jt_bl, jt_bv, jt_lt, jg_dT, jg_dF, jt_c, jt_cd, ru_I, ru_L, jg_leI, jg_ltI, jg_eqI, jg_M1, jg_M2, jg_M3, jg_M4, jg_M5, jg_M6, jg_ltT, jg_ltF, jg_leT, jg_leF, jg_eqT, jg_eqF, cond_true, cond_false, ne_eq, not_true_eq_false, not_false_eq_true, decide_true, decide_false, if_true, if_false, and_true, true_and, and_false, false_and, or_true, true_or, or_false, false_or, Nat.reduceEqDiff, reduceIte, Nat.reduceMul, Nat.reduceAdd, Nat.reduceSub, Nat.add_zero, Nat.zero_add, Nat.mul_zero, eq_self_iff_true, jg_not_lt, jg_not_le, h4, x0, x1, lo', ce, Bool.and_true, shl_n, fb_orI]
          exact ih _
        · rw [rhB_F (fun z => c3 z.2.2), if_F0]
          have ce : (lg_cmp (lN (enc (endL (wL (gw (vlW V) k)) n))) (lN (enc (endL (wL (gw (vlW V) w)) n))) = nI 0) = False := eq_false (fun z => c3 (ce.mp z))
          simp (disch := omega) only [jg_lit, jg_litL, jg_m1, jg_m1L, nI_add, lN_add, pk_mul, jg_sub, jg_subM, jg_addM, jg_addM', jg_negM, jt_in, jt_ix, jt_bi, jt_bl, jt_bv, jt_lt, jg_dT, jg_dF, jt_c, jt_cd, ru_I, ru_L, jg_leI, jg_ltI, jg_eqI, jg_M1, jg_M2, jg_M3, jg_M4, jg_M5, jg_M6, jg_ltT, jg_ltF, jg_leT, jg_leF, jg_eqT, jg_eqF, cond_true, cond_false, ne_eq, not_true_eq_false, not_false_eq_true, decide_true, decide_false, if_true, if_false, and_true, true_and, and_false, false_and, or_true, true_or, or_false, false_or, Nat.reduceEqDiff, reduceIte, Nat.reduceMul, Nat.reduceAdd, Nat.reduceSub, Nat.add_zero, Nat.zero_add, Nat.mul_zero, eq_self_iff_true, jg_not_lt, jg_not_le, h4, x0, x1, lo', ce, Bool.and_true]
          exact ih v
      · rw [rhB_F (fun z => c2 z.2.1), if_F0]
        simp (disch := omega) only [jg_lit, jg_litL, jg_m1, jg_m1L, nI_add, lN_add, pk_mul, jg_sub, jg_subM, jg_addM, jg_addM', jg_negM, jt_in, jt_ix, jt_bi, jt_bl, jt_bv, jt_lt, jg_dT, jg_dF, jt_c, jt_cd, ru_I, ru_L, jg_leI, jg_ltI, jg_eqI, jg_M1, jg_M2, jg_M3, jg_M4, jg_M5, jg_M6, jg_ltT, jg_ltF, jg_leT, jg_leF, jg_eqT, jg_eqF, cond_true, cond_false, ne_eq, not_true_eq_false, not_false_eq_true, decide_true, decide_false, if_true, if_false, and_true, true_and, and_false, false_and, or_true, true_or, or_false, false_or, Nat.reduceEqDiff, reduceIte, Nat.reduceMul, Nat.reduceAdd, Nat.reduceSub, Nat.add_zero, Nat.zero_add, Nat.mul_zero, eq_self_iff_true, jg_not_lt, jg_not_le, h4, x0, x1, Bool.and_true]
        exact ih v
theorem sx_rhymesOf {V : Vl} {m : jm_M} (h : xV V 0 m) (ho : okWs (vlW V)) {w n : Nat} (hw : w < (vlW V).length) (hn : n ≤ (wL (gw (vlW V) w)).length) (d : Nat) : jm_sem false (d + 2) jn_X8_rhymesOf [.inr (.inr (.inl (10, 0, 0))), .inl (nI w), .inl (nI n)] m = some (.inl (nI (bsW (rhB (vlW V) w n) (vlW V).length 0 0)), m) := by
  have h12 := ho.1
  have okw := ho.2.1 w hw
  have w8 := okW_8 okw.1
  have x0 := (h.2 w hw).1
  have lo' : jm_sem false (d + 1) jn_X4_lastOf [.inr (.inl (lN (enc (wL (gw (vlW V) w))))), .inl (nI n)] m = some (.inr (.inl (lN (enc (endL (wL (gw (vlW V) w)) n)))), m) := sx_lastOf okw.1.1 w8 hn d m
  have := sx_rhymes_loop h ho hw hn d (vlW V).length 0 0 (by omega)
  rw [e_X8_rhymesOf]
  simp (disch := omega) only [jg_lit, jg_litL, jg_m1, jg_m1L, nI_add, lN_add, pk_mul, jg_sub, jg_subM, jg_addM, jg_addM', jg_negM, jt_in, jt_ix, jt_bi, jt_bl, jt_bv, jt_lt, jg_dT, jg_dF, jt_c, jt_cd, ru_I, ru_L, jg_leI, jg_ltI, jg_eqI, jg_M1, jg_M2, jg_M3, jg_M4, jg_M5, jg_M6, jg_ltT, jg_ltF, jg_leT, jg_leF, jg_eqT, jg_eqF, cond_true, cond_false, ne_eq, not_true_eq_false, not_false_eq_true, decide_true, decide_false, if_true, if_false, and_true, true_and, and_false, false_and, or_true, true_or, or_false, false_or, Nat.reduceEqDiff, reduceIte, Nat.reduceMul, Nat.reduceAdd, Nat.reduceSub, Nat.add_zero, Nat.zero_add, Nat.mul_zero, eq_self_iff_true, jg_not_lt, jg_not_le, x0, lo', Bool.and_true]
  exact this
theorem sm_rhymes_loop {V : Vl} {m : jm_M} (h : mV V 0 m) (ho : okWs (vlW V)) {w n : Nat} (hw : w < (vlW V).length) (hn : n ≤ (wL (gw (vlW V) w)).length) (d : Nat) : ∀ (r k v : Nat), k + r = (vlW V).length → jm_ev false (d + 1) 11 1 jc_X12_rhymes 63 [vM, .inl (nI w), .inl (nI n), .inl (nI v), .inl (nI k)] [] m = some (.inl (nI (bsW (rhB (vlW V) w n) r k v)), jm_sI m 40 0 0 2 0)
  | 0, k, v, hr => by
    have h12 := ho.1
    have h4 : m.1 41 0 0 1 = nI (vlW V).length := h.2.1
    rw [l_X12_rhymes_63]
    simp (disch := omega) only [jg_lit, jg_litL, jg_m1, jg_m1L, nI_add, lN_add, pk_mul, jg_sub, jg_subM, jg_addM, jg_addM', jg_negM, jt_in, jt_ix, jt_bi, jt_bl, jt_bv, jt_lt, jg_dT, jg_dF, jt_c, jt_cd, ru_I, ru_L, jg_leI, jg_ltI, jg_eqI, jg_M1, jg_M2, jg_M3, jg_M4, jg_M5, jg_M6, jg_ltT, jg_ltF, jg_leT, jg_leF, jg_eqT, jg_eqF, cond_true, cond_false, ne_eq, not_true_eq_false, not_false_eq_true, decide_true, decide_false, if_true, if_false, and_true, true_and, and_false, false_and, or_true, true_or, or_false, false_or, Nat.reduceEqDiff, reduceIte, Nat.reduceMul, Nat.reduceAdd, Nat.reduceSub, Nat.add_zero, Nat.zero_add, Nat.mul_zero, eq_self_iff_true, jg_not_lt, jg_not_le, h4, sm_gives]
    rfl
  | r + 1, k, v, hr => by
    have h12 := ho.1
    have h4 : m.1 41 0 0 1 = nI (vlW V).length := h.2.1
    have hk : k < (vlW V).length := by omega
    have ok := ho.2.1 k hk
    have okw := ho.2.1 w hw
    have ih := fun v => sm_rhymes_loop h ho hw hn d r (k + 1) v (by omega)
    have ro := fun q => sm_rowOf d 0 q m
    have rh := sm_rhyme okw.1.1 ok.1.1 (b1 := 0 + 10 + 40 * w) (b2 := 0 + 10 + 40 * k) (by omega) (by omega) hn (h.2.2.2.2 w hw).1 (h.2.2.2.2 k hk).1 d
    rw [l_X12_rhymes_63]
    unfold bsW
    by_cases c : k = w
    · rw [rhB_F (fun z => z.1 c), if_F0]
      simp (disch := omega) only [jg_lit, jg_litL, jg_m1, jg_m1L, nI_add, lN_add, pk_mul, jg_sub, jg_subM, jg_addM, jg_addM', jg_negM, jt_in, jt_ix, jt_bi, jt_bl, jt_bv, jt_lt, jg_dT, jg_dF, jt_c, jt_cd, ru_I, ru_L, jg_leI, jg_ltI, jg_eqI, jg_M1, jg_M2, jg_M3, jg_M4, jg_M5, jg_M6, jg_ltT, jg_ltF, jg_leT, jg_leF, jg_eqT, jg_eqF, cond_true, cond_false, ne_eq, not_true_eq_false, not_false_eq_true, decide_true, decide_false, if_true, if_false, and_true, true_and, and_false, false_and, or_true, true_or, or_false, false_or, Nat.reduceEqDiff, reduceIte, Nat.reduceMul, Nat.reduceAdd, Nat.reduceSub, Nat.add_zero, Nat.zero_add, Nat.mul_zero, eq_self_iff_true, jg_not_lt, jg_not_le, h4, or0]
      exact ih v
    · by_cases c2 : n ≤ (wL (gw (vlW V) k)).length ∧ endL (wL (gw (vlW V) k)) n = endL (wL (gw (vlW V) w)) n
      · rw [rhB_T c c2.1 c2.2, if_T0]
        rw [dec_T c2, bI_T] at rh
        simp (disch := omega) only [jg_lit, jg_litL, jg_m1, jg_m1L, nI_add, lN_add, pk_mul, jg_sub, jg_subM, jg_addM, jg_addM', jg_negM, jt_in, jt_ix, jt_bi, jt_bl, jt_bv, jt_lt, jg_dT, jg_dF, jt_c, jt_cd, ru_I, ru_L, jg_leI, jg_ltI, jg_eqI, jg_M1, jg_M2, jg_M3, jg_M4, jg_M5, jg_M6, jg_ltT, jg_ltF, jg_leT, jg_leF, jg_eqT, jg_eqF, cond_true, cond_false, ne_eq, not_true_eq_false, not_false_eq_true, decide_true, decide_false, if_true, if_false, and_true, true_and, and_false, false_and, or_true, true_or, or_false, false_or, Nat.reduceEqDiff, reduceIte, Nat.reduceMul, Nat.reduceAdd, Nat.reduceSub, Nat.add_zero, Nat.zero_add, Nat.mul_zero, eq_self_iff_true, jg_not_lt, jg_not_le, h4, sm_rowOf, rh, shl_n, fb_orI]
        exact ih _
      · rw [rhB_F (fun z => c2 z.2), if_F0]
        rw [dec_F c2, bI_F] at rh
        simp (disch := omega) only [jg_lit, jg_litL, jg_m1, jg_m1L, nI_add, lN_add, pk_mul, jg_sub, jg_subM, jg_addM, jg_addM', jg_negM, jt_in, jt_ix, jt_bi, jt_bl, jt_bv, jt_lt, jg_dT, jg_dF, jt_c, jt_cd, ru_I, ru_L, jg_leI, jg_ltI, jg_eqI, jg_M1, jg_M2, jg_M3, jg_M4, jg_M5, jg_M6, jg_ltT, jg_ltF, jg_leT, jg_leF, jg_eqT, jg_eqF, cond_true, cond_false, ne_eq, not_true_eq_false, not_false_eq_true, decide_true, decide_false, if_true, if_false, and_true, true_and, and_false, false_and, or_true, true_or, or_false, false_or, Nat.reduceEqDiff, reduceIte, Nat.reduceMul, Nat.reduceAdd, Nat.reduceSub, Nat.add_zero, Nat.zero_add, Nat.mul_zero, eq_self_iff_true, jg_not_lt, jg_not_le, h4, sm_rowOf, rh, or0]
        exact ih v
theorem c_rhymes (x y : Int32) : jcall jn_X11_rhymes jn_X12_rhymes [.inl x, .inl y] := by
  intro s μ ho hx hm
  have h12 := ho.1.2.2.2.1.1
  rcases in_range y 1 8 (by decide) (by decide) with h | ⟨n, hn1, hn8, rfl⟩
  · refine jcall_no ho hx hm 1 (v := .inl jM) ?_ ?_
    · rw [e_X11_rhymes]
      by_cases c : y < 1
      · rw [jt_dt c]; simp (disch := omega) only [jg_lit, jg_litL, jg_m1, jg_m1L, nI_add, lN_add, pk_mul, jg_sub, jg_subM, jg_addM, jg_addM', jg_negM, jt_in, jt_ix, jt_bi, jt_bl, jt_bv, jt_lt, jg_dT, jg_dF, jt_c, jt_cd, ru_I, ru_L, jg_leI, jg_ltI, jg_eqI, jg_M1, jg_M2, jg_M3, jg_M4, jg_M5, jg_M6, jg_ltT, jg_ltF, jg_leT, jg_leF, jg_eqT, jg_eqF, cond_true, cond_false, ne_eq, not_true_eq_false, not_false_eq_true, decide_true, decide_false, if_true, if_false, and_true, true_and, and_false, false_and, or_true, true_or, or_false, false_or, Nat.reduceEqDiff, reduceIte, Nat.reduceMul, Nat.reduceAdd, Nat.reduceSub, Nat.add_zero, Nat.zero_add, Nat.mul_zero, eq_self_iff_true, jg_not_lt, jg_not_le, sx_fail]
      · rw [jt_df c, jt_df (show ¬ y ≤ 8 from Int32.not_le.mpr (h.resolve_left c))]; simp (disch := omega) only [jg_lit, jg_litL, jg_m1, jg_m1L, nI_add, lN_add, pk_mul, jg_sub, jg_subM, jg_addM, jg_addM', jg_negM, jt_in, jt_ix, jt_bi, jt_bl, jt_bv, jt_lt, jg_dT, jg_dF, jt_c, jt_cd, ru_I, ru_L, jg_leI, jg_ltI, jg_eqI, jg_M1, jg_M2, jg_M3, jg_M4, jg_M5, jg_M6, jg_ltT, jg_ltF, jg_leT, jg_leF, jg_eqT, jg_eqF, cond_true, cond_false, ne_eq, not_true_eq_false, not_false_eq_true, decide_true, decide_false, if_true, if_false, and_true, true_and, and_false, false_and, or_true, true_or, or_false, false_or, Nat.reduceEqDiff, reduceIte, Nat.reduceMul, Nat.reduceAdd, Nat.reduceSub, Nat.add_zero, Nat.zero_add, Nat.mul_zero, eq_self_iff_true, jg_not_lt, jg_not_le, sx_fail]
    · rw [e_X12_rhymes]
      rcases in_cases x (show (vlW (aV s)).length < 2 ^ 31 by omega) with h' | ⟨k, hk, rfl⟩
      · rw [sm_isWordF hm.1.1 h']; simp (disch := omega) only [jg_lit, jg_litL, jg_m1, jg_m1L, nI_add, lN_add, pk_mul, jg_sub, jg_subM, jg_addM, jg_addM', jg_negM, jt_in, jt_ix, jt_bi, jt_bl, jt_bv, jt_lt, jg_dT, jg_dF, jt_c, jt_cd, ru_I, ru_L, jg_leI, jg_ltI, jg_eqI, jg_M1, jg_M2, jg_M3, jg_M4, jg_M5, jg_M6, jg_ltT, jg_ltF, jg_leT, jg_leF, jg_eqT, jg_eqF, cond_true, cond_false, ne_eq, not_true_eq_false, not_false_eq_true, decide_true, decide_false, if_true, if_false, and_true, true_and, and_false, false_and, or_true, true_or, or_false, false_or, Nat.reduceEqDiff, reduceIte, Nat.reduceMul, Nat.reduceAdd, Nat.reduceSub, Nat.add_zero, Nat.zero_add, Nat.mul_zero, eq_self_iff_true, jg_not_lt, jg_not_le, sm_refuse]
      · rw [sm_isWordT hm.1.1 h12 hk]
        by_cases c : y < 1
        · rw [jt_dt c]; simp (disch := omega) only [jg_lit, jg_litL, jg_m1, jg_m1L, nI_add, lN_add, pk_mul, jg_sub, jg_subM, jg_addM, jg_addM', jg_negM, jt_in, jt_ix, jt_bi, jt_bl, jt_bv, jt_lt, jg_dT, jg_dF, jt_c, jt_cd, ru_I, ru_L, jg_leI, jg_ltI, jg_eqI, jg_M1, jg_M2, jg_M3, jg_M4, jg_M5, jg_M6, jg_ltT, jg_ltF, jg_leT, jg_leF, jg_eqT, jg_eqF, cond_true, cond_false, ne_eq, not_true_eq_false, not_false_eq_true, decide_true, decide_false, if_true, if_false, and_true, true_and, and_false, false_and, or_true, true_or, or_false, false_or, Nat.reduceEqDiff, reduceIte, Nat.reduceMul, Nat.reduceAdd, Nat.reduceSub, Nat.add_zero, Nat.zero_add, Nat.mul_zero, eq_self_iff_true, jg_not_lt, jg_not_le, sm_refuse]
        · rw [jt_df c, jt_df (show ¬ y ≤ 8 from Int32.not_le.mpr (h.resolve_left c))]; simp (disch := omega) only [jg_lit, jg_litL, jg_m1, jg_m1L, nI_add, lN_add, pk_mul, jg_sub, jg_subM, jg_addM, jg_addM', jg_negM, jt_in, jt_ix, jt_bi, jt_bl, jt_bv, jt_lt, jg_dT, jg_dF, jt_c, jt_cd, ru_I, ru_L, jg_leI, jg_ltI, jg_eqI, jg_M1, jg_M2, jg_M3, jg_M4, jg_M5, jg_M6, jg_ltT, jg_ltF, jg_leT, jg_leF, jg_eqT, jg_eqF, cond_true, cond_false, ne_eq, not_true_eq_false, not_false_eq_true, decide_true, decide_false, if_true, if_false, and_true, true_and, and_false, false_and, or_true, true_or, or_false, false_or, Nat.reduceEqDiff, reduceIte, Nat.reduceMul, Nat.reduceAdd, Nat.reduceSub, Nat.add_zero, Nat.zero_add, Nat.mul_zero, eq_self_iff_true, jg_not_lt, jg_not_le, sm_refuse]
  · rcases w_cases (aV s) h12 x with h | ⟨k, hk, rfl, hg⟩ | ⟨k, hk, rfl, hg⟩
    · have w1 := sx_wrong1 hx.1 h 96
      have i1 := sm_isWordF hm.1.1 h 97
      refine jcall_no ho hx hm 1 (v := .inl jM) ?_ ?_
      · rw [e_X11_rhymes]; simp (disch := omega) only [jg_lit, jg_litL, jg_m1, jg_m1L, nI_add, lN_add, pk_mul, jg_sub, jg_subM, jg_addM, jg_addM', jg_negM, jt_in, jt_ix, jt_bi, jt_bl, jt_bv, jt_lt, jg_dT, jg_dF, jt_c, jt_cd, ru_I, ru_L, jg_leI, jg_ltI, jg_eqI, jg_M1, jg_M2, jg_M3, jg_M4, jg_M5, jg_M6, jg_ltT, jg_ltF, jg_leT, jg_leF, jg_eqT, jg_eqF, cond_true, cond_false, ne_eq, not_true_eq_false, not_false_eq_true, decide_true, decide_false, if_true, if_false, and_true, true_and, and_false, false_and, or_true, true_or, or_false, false_or, Nat.reduceEqDiff, reduceIte, Nat.reduceMul, Nat.reduceAdd, Nat.reduceSub, Nat.add_zero, Nat.zero_add, Nat.mul_zero, eq_self_iff_true, jg_not_lt, jg_not_le, w1, sx_fail]
      · rw [e_X12_rhymes]; simp (disch := omega) only [jg_lit, jg_litL, jg_m1, jg_m1L, nI_add, lN_add, pk_mul, jg_sub, jg_subM, jg_addM, jg_addM', jg_negM, jt_in, jt_ix, jt_bi, jt_bl, jt_bv, jt_lt, jg_dT, jg_dF, jt_c, jt_cd, ru_I, ru_L, jg_leI, jg_ltI, jg_eqI, jg_M1, jg_M2, jg_M3, jg_M4, jg_M5, jg_M6, jg_ltT, jg_ltF, jg_leT, jg_leF, jg_eqT, jg_eqF, cond_true, cond_false, ne_eq, not_true_eq_false, not_false_eq_true, decide_true, decide_false, if_true, if_false, and_true, true_and, and_false, false_and, or_true, true_or, or_false, false_or, Nat.reduceEqDiff, reduceIte, Nat.reduceMul, Nat.reduceAdd, Nat.reduceSub, Nat.add_zero, Nat.zero_add, Nat.mul_zero, eq_self_iff_true, jg_not_lt, jg_not_le, i1, sm_refuse]
    · have o := sm_ofWord (k := k) (c := 0) (by omega) (by omega) 96 μ
      rw [sm_size hm.1.1 hk, hg] at o
      have w6 := sx_wrong6 hx.1 ho.1.2.2.2.1 hk hg 96
      have im := sm_isWordT hm.1.1 h12 hk 97
      refine jcall_no ho hx hm 6 (v := .inl jM) ?_ ?_
      · rw [e_X11_rhymes]; simp (disch := omega) only [jg_lit, jg_litL, jg_m1, jg_m1L, nI_add, lN_add, pk_mul, jg_sub, jg_subM, jg_addM, jg_addM', jg_negM, jt_in, jt_ix, jt_bi, jt_bl, jt_bv, jt_lt, jg_dT, jg_dF, jt_c, jt_cd, ru_I, ru_L, jg_leI, jg_ltI, jg_eqI, jg_M1, jg_M2, jg_M3, jg_M4, jg_M5, jg_M6, jg_ltT, jg_ltF, jg_leT, jg_leF, jg_eqT, jg_eqF, cond_true, cond_false, ne_eq, not_true_eq_false, not_false_eq_true, decide_true, decide_false, if_true, if_false, and_true, true_and, and_false, false_and, or_true, true_or, or_false, false_or, Nat.reduceEqDiff, reduceIte, Nat.reduceMul, Nat.reduceAdd, Nat.reduceSub, Nat.add_zero, Nat.zero_add, Nat.mul_zero, eq_self_iff_true, jg_not_lt, jg_not_le, sx_fail, w6]
      · rw [e_X12_rhymes]; simp (disch := omega) only [jg_lit, jg_litL, jg_m1, jg_m1L, nI_add, lN_add, pk_mul, jg_sub, jg_subM, jg_addM, jg_addM', jg_negM, jt_in, jt_ix, jt_bi, jt_bl, jt_bv, jt_lt, jg_dT, jg_dF, jt_c, jt_cd, ru_I, ru_L, jg_leI, jg_ltI, jg_eqI, jg_M1, jg_M2, jg_M3, jg_M4, jg_M5, jg_M6, jg_ltT, jg_ltF, jg_leT, jg_leF, jg_eqT, jg_eqF, cond_true, cond_false, ne_eq, not_true_eq_false, not_false_eq_true, decide_true, decide_false, if_true, if_false, and_true, true_and, and_false, false_and, or_true, true_or, or_false, false_or, Nat.reduceEqDiff, reduceIte, Nat.reduceMul, Nat.reduceAdd, Nat.reduceSub, Nat.add_zero, Nat.zero_add, Nat.mul_zero, eq_self_iff_true, jg_not_lt, jg_not_le, sm_refuse, im, o, List.length_nil]
    · have hok := ho.1.2.2.2.1.2.1 k hk
      have h8 := okW_8 hok.1
      have hl : 0 < (wL (gw (vlW (aV s)) k)).length := List.length_pos_iff.mpr hg
      have o := sm_ofWord (k := k) (c := 0) (by omega) (by omega) 96 μ
      rw [sm_size hm.1.1 hk] at o
      have w0 := sx_wrong0 hx.1 ho.1.2.2.2.1 hk hg 96
      have im := sm_isWordT hm.1.1 h12 hk 97
      have x1 : μ.1 12 0 k 1 = nI (wL (gw (vlW (aV s)) k)).length := (hx.1.2 k hk).2.1
      by_cases c : n ≤ (wL (gw (vlW (aV s)) k)).length
      · have rx := sx_rhymesOf hx.1 ho.1.2.2.2.1 hk c 96
        have rm := sm_rhymes_loop hm.1.1 ho.1.2.2.2.1 hk c 97 (vlW (aV s)).length 0 0 (by omega)
        refine jcall_no ho hx hm 0 (v := .inl (nI (bsW (rhB (vlW (aV s)) k n) (vlW (aV s)).length 0 0))) ?_ ?_
        · rw [e_X11_rhymes]; simp (disch := omega) only [jg_lit, jg_litL, jg_m1, jg_m1L, nI_add, lN_add, pk_mul, jg_sub, jg_subM, jg_addM, jg_addM', jg_negM, jt_in, jt_ix, jt_bi, jt_bl, jt_bv, jt_lt, jg_dT, jg_dF, jt_c, jt_cd, ru_I, ru_L, jg_leI, jg_ltI, jg_eqI, jg_M1, jg_M2, jg_M3, jg_M4, jg_M5, jg_M6, jg_ltT, jg_ltF, jg_leT, jg_leF, jg_eqT, jg_eqF, cond_true, cond_false, ne_eq, not_true_eq_false, not_false_eq_true, decide_true, decide_false, if_true, if_false, and_true, true_and, and_false, false_and, or_true, true_or, or_false, false_or, Nat.reduceEqDiff, reduceIte, Nat.reduceMul, Nat.reduceAdd, Nat.reduceSub, Nat.add_zero, Nat.zero_add, Nat.mul_zero, eq_self_iff_true, jg_not_lt, jg_not_le, w0, x1, rx, sx_give, Bool.and_true]
        · rw [e_X12_rhymes]; simp (disch := omega) only [jg_lit, jg_litL, jg_m1, jg_m1L, nI_add, lN_add, pk_mul, jg_sub, jg_subM, jg_addM, jg_addM', jg_negM, jt_in, jt_ix, jt_bi, jt_bl, jt_bv, jt_lt, jg_dT, jg_dF, jt_c, jt_cd, ru_I, ru_L, jg_leI, jg_ltI, jg_eqI, jg_M1, jg_M2, jg_M3, jg_M4, jg_M5, jg_M6, jg_ltT, jg_ltF, jg_leT, jg_leF, jg_eqT, jg_eqF, cond_true, cond_false, ne_eq, not_true_eq_false, not_false_eq_true, decide_true, decide_false, if_true, if_false, and_true, true_and, and_false, false_and, or_true, true_or, or_false, false_or, Nat.reduceEqDiff, reduceIte, Nat.reduceMul, Nat.reduceAdd, Nat.reduceSub, Nat.add_zero, Nat.zero_add, Nat.mul_zero, eq_self_iff_true, jg_not_lt, jg_not_le, im, o, rm]
      · refine jcall_no ho hx hm 7 (v := .inl jM) ?_ ?_
        · rw [e_X11_rhymes]; simp (disch := omega) only [jg_lit, jg_litL, jg_m1, jg_m1L, nI_add, lN_add, pk_mul, jg_sub, jg_subM, jg_addM, jg_addM', jg_negM, jt_in, jt_ix, jt_bi, jt_bl, jt_bv, jt_lt, jg_dT, jg_dF, jt_c, jt_cd, ru_I, ru_L, jg_leI, jg_ltI, jg_eqI, jg_M1, jg_M2, jg_M3, jg_M4, jg_M5, jg_M6, jg_ltT, jg_ltF, jg_leT, jg_leF, jg_eqT, jg_eqF, cond_true, cond_false, ne_eq, not_true_eq_false, not_false_eq_true, decide_true, decide_false, if_true, if_false, and_true, true_and, and_false, false_and, or_true, true_or, or_false, false_or, Nat.reduceEqDiff, reduceIte, Nat.reduceMul, Nat.reduceAdd, Nat.reduceSub, Nat.add_zero, Nat.zero_add, Nat.mul_zero, eq_self_iff_true, jg_not_lt, jg_not_le, w0, x1, sx_fail, Bool.and_true]
        · rw [e_X12_rhymes]; simp (disch := omega) only [jg_lit, jg_litL, jg_m1, jg_m1L, nI_add, lN_add, pk_mul, jg_sub, jg_subM, jg_addM, jg_addM', jg_negM, jt_in, jt_ix, jt_bi, jt_bl, jt_bv, jt_lt, jg_dT, jg_dF, jt_c, jt_cd, ru_I, ru_L, jg_leI, jg_ltI, jg_eqI, jg_M1, jg_M2, jg_M3, jg_M4, jg_M5, jg_M6, jg_ltT, jg_ltF, jg_leT, jg_leF, jg_eqT, jg_eqF, cond_true, cond_false, ne_eq, not_true_eq_false, not_false_eq_true, decide_true, decide_false, if_true, if_false, and_true, true_and, and_false, false_and, or_true, true_or, or_false, false_or, Nat.reduceEqDiff, reduceIte, Nat.reduceMul, Nat.reduceAdd, Nat.reduceSub, Nat.add_zero, Nat.zero_add, Nat.mul_zero, eq_self_iff_true, jg_not_lt, jg_not_le, im, o, sm_refuse]
