/-! ===== counts and sets of words ===== -/
def ctW (p : Nat → Bool) : Nat → Nat → Nat → Nat
  | 0, _, v => v
  | r + 1, k, v => ctW p r (k + 1) (if p k then v + 1 else v)
def bsW (p : Nat → Bool) : Nat → Nat → Nat → Nat
  | 0, _, v => v
  | r + 1, k, v => bsW p r (k + 1) (if p k then v ||| 2 ^ k else v)
theorem ctW_le (p : Nat → Bool) : ∀ (r k v : Nat), ctW p r k v ≤ v + r
  | 0, _, v => Nat.le_refl _
  | r + 1, k, v => by
    have := ctW_le p r (k + 1) (if p k then v + 1 else v)
    unfold ctW
    split at this <;> split <;> simp_all <;> omega
theorem bsW_bit (p : Nat → Bool) (q : Nat) : ∀ (r k v : Nat), (bsW p r k v).testBit q = (v.testBit q || (decide (k ≤ q) && decide (q < k + r) && p q))
  | 0, k, v => by
    unfold bsW
    have : (decide (k ≤ q) && decide (q < k + 0)) = false := by
      by_cases h : k ≤ q
      · simp [h]
      · simp [h]
    rw [this]
    simp
  | r + 1, k, v => by
    unfold bsW
    rw [bsW_bit p q r (k + 1)]
    by_cases e : q = k
    · subst e
      cases hp : p q with
      | true => simp [Nat.testBit_or, Nat.testBit_two_pow_self, hp]
      | false => simp [hp]
    · have e1 : decide (k + 1 ≤ q) = decide (k ≤ q) := by
        by_cases h : k ≤ q
        · rw [decide_eq_true h, decide_eq_true (by omega)]
        · rw [decide_eq_false h, decide_eq_false (by omega)]
      have e2 : decide (q < k + 1 + r) = decide (q < k + (r + 1)) := by rw [show k + 1 + r = k + (r + 1) by omega]
      rw [e1, e2]
      cases hp : p k with
      | true =>
        simp only [if_true, Nat.testBit_or]
        rw [Nat.testBit_two_pow_of_ne (fun z => e z.symm)]
        simp
      | false => simp
theorem bsW_lt (p : Nat → Bool) {n : Nat} (h : n ≤ 12) : bsW p n 0 0 < 4096 := by
  apply Nat.lt_pow_two_of_testBit (n := 12)
  intro i hi
  rw [bsW_bit]
  simp
  omega
theorem bsW_lt' (p : Nat → Bool) {r k v : Nat} (h : k + r ≤ 12) (hv : v < 4096) : bsW p r k v < 4096 := by
  apply Nat.lt_pow_two_of_testBit (n := 12)
  intro i hi
  rw [bsW_bit, Nat.testBit_lt_two_pow (Nat.lt_of_lt_of_le hv (Nat.pow_le_pow_right (by decide) hi : 2 ^ 12 ≤ 2 ^ i))]
  simp
  omega
theorem sm_mod : ∀ c, c < 32 → ((nI c &&& 31).toBitVec.smod 32).toNat = c := by decide +kernel
theorem bit_I {v c : Nat} (hv : v < 2 ^ 31) (hc : c < 32) : (nI v >>> (nI c &&& 31)) &&& 1 = bI (v.testBit c) := by
  rw [pk_shrN hv _ c (sm_mod c hc), jt_and1, Nat.testBit_eq_decide_div_mod_eq]
  have : v / 2 ^ c % 2 = 0 ∨ v / 2 ^ c % 2 = 1 := by omega
  rcases this with h | h
  · rw [h]; rfl
  · rw [h]; rfl
theorem bit_In {v c : Nat} (hv : v < 2 ^ 31) (hc : c < 32) : (nI v >>> (nI c &&& nI 31)) &&& nI 1 = bI (v.testBit c) := bit_I hv hc
theorem bI_T : bI true = nI 1 := rfl
theorem bI_F : bI false = nI 0 := rfl
theorem shl_n : ∀ c, c < 32 → nI 1 <<< (nI c &&& nI 31) = nI (2 ^ c) := jt_1shl
def liveB (ws : List Wd) (k : Nat) : Bool := decide (wL (gw ws k) ≠ [])
def nLive (ws : List Wd) : Nat := ctW (liveB ws) ws.length 0 0
theorem liveB_T {ws : List Wd} {k : Nat} (h : wL (gw ws k) ≠ []) : liveB ws k = true := decide_eq_true h
theorem liveB_F {ws : List Wd} {k : Nat} (h : wL (gw ws k) = []) : liveB ws k = false := decide_eq_false (fun z => z h)
theorem sx_isGoneF {w : Wd} {i j : Nat} {m : jm_M} (h : xW w i j m) (h8 : (wL w).length ≤ 8) (hn : wL w ≠ []) (d : Nat) : jm_sem false (d + 1) jn_X10_isGone [.inr (.inr (.inl (12, i, j)))] m = some (.inl (nI 0), m) := by
  rw [sx_isGone h h8, if_neg hn]; rfl
theorem sx_isGoneT {w : Wd} {i j : Nat} {m : jm_M} (h : xW w i j m) (h8 : (wL w).length ≤ 8) (hn : wL w = []) (d : Nat) : jm_sem false (d + 1) jn_X10_isGone [.inr (.inr (.inl (12, i, j)))] m = some (.inl (nI 1), m) := by
  rw [sx_isGone h h8, if_pos hn]; rfl
theorem sx_live_loop {V : Vl} {i : Nat} {m : jm_M} (h : xV V i m) (ho : okWs (vlW V)) (d : Nat) : ∀ (r k v : Nat), k + r = (vlW V).length → v ≤ k → jm_ev false (d + 1) 7 1 jc_X8_countLiving 4 [.inr (.inr (.inl (10, i, 0))), .inl (nI v), .inl (nI k)] [] m = some (.inl (nI (ctW (liveB (vlW V)) r k v)), m)
  | 0, k, v, hr, hv => by
    have h12 := ho.1
    have h4 := h.1.2.1
    rw [l_X8_countLiving_4]
    simp (disch := omega) only [jg_lit, jg_litL, jg_m1, jg_m1L, nI_add, lN_add, pk_mul, jg_sub, jg_subM, jg_addM, jg_addM', jg_negM, jt_in, jt_ix, jt_bi, jt_bl, jt_bv, jt_lt, jg_dT, jg_dF, jt_c, jt_cd, ru_I, ru_L, jg_leI, jg_ltI, jg_eqI, jg_M1, jg_M2, jg_M3, jg_M4, jg_M5, jg_M6, jg_ltT, jg_ltF, jg_leT, jg_leF, jg_eqT, jg_eqF, cond_true, cond_false, ne_eq, not_true_eq_false, not_false_eq_true, decide_true, decide_false, if_true, if_false, and_true, true_and, and_false, false_and, or_true, true_or, or_false, false_or, Nat.reduceEqDiff, reduceIte, Nat.reduceMul, Nat.reduceAdd, Nat.reduceSub, Nat.add_zero, Nat.zero_add, Nat.mul_zero, eq_self_iff_true, jg_not_lt, jg_not_le, h4]
    rfl
  | r + 1, k, v, hr, hv => by
    have h12 := ho.1
    have h4 := h.1.2.1
    have hk : k < (vlW V).length := by omega
    have h8 := okW_8 (ho.2.1 k hk).1
    rw [l_X8_countLiving_4]
    unfold ctW
    by_cases c : wL (gw (vlW V) k) = []
    · have g := sx_isGoneT (h.2 k hk) h8 c d
      rw [liveB_F c]
      simp (disch := omega) only [jg_lit, jg_litL, jg_m1, jg_m1L, nI_add, lN_add, pk_mul, jg_sub, jg_subM, jg_addM, jg_addM', jg_negM, jt_in, jt_ix, jt_bi, jt_bl, jt_bv, jt_lt, jg_dT, jg_dF, jt_c, jt_cd, ru_I, ru_L, jg_leI, jg_ltI, jg_eqI, jg_M1, jg_M2, jg_M3, jg_M4, jg_M5, jg_M6, jg_ltT, jg_ltF, jg_leT, jg_leF, jg_eqT, jg_eqF, cond_true, cond_false, ne_eq, not_true_eq_false, not_false_eq_true, decide_true, decide_false, if_true, if_false, and_true, true_and, and_false, false_and, or_true, true_or, or_false, false_or, Nat.reduceEqDiff, reduceIte, Nat.reduceMul, Nat.reduceAdd, Nat.reduceSub, Nat.add_zero, Nat.zero_add, Nat.mul_zero, eq_self_iff_true, jg_not_lt, jg_not_le, h4, Bool.and_true, g]
      exact sx_live_loop h ho d r (k + 1) v (by omega) (by omega)
    · have g := sx_isGoneF (h.2 k hk) h8 c d
      rw [liveB_T c]
      simp (disch := omega) only [jg_lit, jg_litL, jg_m1, jg_m1L, nI_add, lN_add, pk_mul, jg_sub, jg_subM, jg_addM, jg_addM', jg_negM, jt_in, jt_ix, jt_bi, jt_bl, jt_bv, jt_lt, jg_dT, jg_dF, jt_c, jt_cd, ru_I, ru_L, jg_leI, jg_ltI, jg_eqI, jg_M1, jg_M2, jg_M3, jg_M4, jg_M5, jg_M6, jg_ltT, jg_ltF, jg_leT, jg_leF, jg_eqT, jg_eqF, cond_true, cond_false, ne_eq, not_true_eq_false, not_false_eq_true, decide_true, decide_false, if_true, if_false, and_true, true_and, and_false, false_and, or_true, true_or, or_false, false_or, Nat.reduceEqDiff, reduceIte, Nat.reduceMul, Nat.reduceAdd, Nat.reduceSub, Nat.add_zero, Nat.zero_add, Nat.mul_zero, eq_self_iff_true, jg_not_lt, jg_not_le, h4, Bool.and_true, g]
      exact sx_live_loop h ho d r (k + 1) (v + 1) (by omega) (by omega)
theorem sx_countLiving {V : Vl} {i : Nat} {m : jm_M} (h : xV V i m) (ho : okWs (vlW V)) (d : Nat) : jm_sem false (d + 2) jn_X8_countLiving [.inr (.inr (.inl (10, i, 0)))] m = some (.inl (nI (nLive (vlW V))), m) := by
  rw [e_X8_countLiving]
  exact sx_live_loop h ho d _ 0 0 (by omega) (by omega)
theorem sm_live_loop {V : Vl} {s : Nat} {m : jm_M} (h : mV V s m) (hs : s + 490 ≤ 8600) (ho : okWs (vlW V)) (d : Nat) : ∀ (r k v : Nat), k + r = (vlW V).length → v ≤ k → jm_ev false (d + 1) 11 1 jc_X12_leftIn 4 [vM, .inl (nI s), .inl (nI v), .inl (nI k)] [] m = some (.inl (nI (ctW (liveB (vlW V)) r k v)), m)
  | 0, k, v, hr, hv => by
    have h12 := ho.1
    have h4 := h.2.1
    rw [l_X12_leftIn_4]
    simp (disch := omega) only [jg_lit, jg_litL, jg_m1, jg_m1L, nI_add, lN_add, pk_mul, jg_sub, jg_subM, jg_addM, jg_addM', jg_negM, jt_in, jt_ix, jt_bi, jt_bl, jt_bv, jt_lt, jg_dT, jg_dF, jt_c, jt_cd, ru_I, ru_L, jg_leI, jg_ltI, jg_eqI, jg_M1, jg_M2, jg_M3, jg_M4, jg_M5, jg_M6, jg_ltT, jg_ltF, jg_leT, jg_leF, jg_eqT, jg_eqF, cond_true, cond_false, ne_eq, not_true_eq_false, not_false_eq_true, decide_true, decide_false, if_true, if_false, and_true, true_and, and_false, false_and, or_true, true_or, or_false, false_or, Nat.reduceEqDiff, reduceIte, Nat.reduceMul, Nat.reduceAdd, Nat.reduceSub, Nat.add_zero, Nat.zero_add, Nat.mul_zero, eq_self_iff_true, jg_not_lt, jg_not_le, h4]
    rfl
  | r + 1, k, v, hr, hv => by
    have h12 := ho.1
    have h4 := h.2.1
    have hk : k < (vlW V).length := by omega
    have h8 := okW_8 (ho.2.1 k hk).1
    have hl := (h.2.2.2.2 k hk).1.2.1
    have ro := fun m => sm_rowOf d s k m
    rw [l_X12_leftIn_4]
    unfold ctW
    by_cases c : wL (gw (vlW V) k) = []
    · rw [liveB_F c]
      rw [c] at hl
      simp (disch := omega) only [jg_lit, jg_litL, jg_m1, jg_m1L, nI_add, lN_add, pk_mul, jg_sub, jg_subM, jg_addM, jg_addM', jg_negM, jt_in, jt_ix, jt_bi, jt_bl, jt_bv, jt_lt, jg_dT, jg_dF, jt_c, jt_cd, ru_I, ru_L, jg_leI, jg_ltI, jg_eqI, jg_M1, jg_M2, jg_M3, jg_M4, jg_M5, jg_M6, jg_ltT, jg_ltF, jg_leT, jg_leF, jg_eqT, jg_eqF, cond_true, cond_false, ne_eq, not_true_eq_false, not_false_eq_true, decide_true, decide_false, if_true, if_false, and_true, true_and, and_false, false_and, or_true, true_or, or_false, false_or, Nat.reduceEqDiff, reduceIte, Nat.reduceMul, Nat.reduceAdd, Nat.reduceSub, Nat.add_zero, Nat.zero_add, Nat.mul_zero, eq_self_iff_true, jg_not_lt, jg_not_le, h4, ro, hl, List.length_nil]
      exact sm_live_loop h hs ho d r (k + 1) v (by omega) (by omega)
    · rw [liveB_T c]
      have hp : 0 < (wL (gw (vlW V) k)).length := List.length_pos_iff.mpr c
      simp (disch := omega) only [jg_lit, jg_litL, jg_m1, jg_m1L, nI_add, lN_add, pk_mul, jg_sub, jg_subM, jg_addM, jg_addM', jg_negM, jt_in, jt_ix, jt_bi, jt_bl, jt_bv, jt_lt, jg_dT, jg_dF, jt_c, jt_cd, ru_I, ru_L, jg_leI, jg_ltI, jg_eqI, jg_M1, jg_M2, jg_M3, jg_M4, jg_M5, jg_M6, jg_ltT, jg_ltF, jg_leT, jg_leF, jg_eqT, jg_eqF, cond_true, cond_false, ne_eq, not_true_eq_false, not_false_eq_true, decide_true, decide_false, if_true, if_false, and_true, true_and, and_false, false_and, or_true, true_or, or_false, false_or, Nat.reduceEqDiff, reduceIte, Nat.reduceMul, Nat.reduceAdd, Nat.reduceSub, Nat.add_zero, Nat.zero_add, Nat.mul_zero, eq_self_iff_true, jg_not_lt, jg_not_le, h4, ro, hl]
      exact sm_live_loop h hs ho d r (k + 1) (v + 1) (by omega) (by omega)
theorem sm_leftIn {V : Vl} {s : Nat} {m : jm_M} (h : mV V s m) (hs : s + 490 ≤ 8600) (ho : okWs (vlW V)) (d : Nat) : jm_sem false (d + 2) jn_X12_leftIn [vM, .inl (nI s)] m = some (.inl (nI (nLive (vlW V))), m) := by
  rw [e_X12_leftIn]
  exact sm_live_loop h hs ho d _ 0 0 (by omega) (by omega)
/-- words that have a meaning -/
def hasB (ws : List Wd) (g k : Nat) : Bool := (wM (gw ws k)).testBit g
def wWith (ws : List Wd) (g : Nat) : Nat := bsW (hasB ws g) ws.length 0 0
theorem hasB_live {ws : List Wd} {k : Nat} (h : okW2 (gw ws k)) {g : Nat} (hb : hasB ws g k = true) : wL (gw ws k) ≠ [] := fun z => by
  have := (h.1.2.2.2.2.2.2 z).1
  unfold hasB at hb
  rw [this, Nat.zero_testBit] at hb
  cases hb
theorem or0 (v : Nat) : nI v ||| nI 0 = nI v := by rw [fb_orI, Nat.or_zero]
theorem sx_with_loop {V : Vl} {i : Nat} {m : jm_M} (h : xV V i m) (ho : okWs (vlW V)) {g : Nat} (hg : g < 32) (d : Nat) : ∀ (r k v : Nat), k + r = (vlW V).length → jm_ev false (d + 1) 7 1 jc_X8_wordsWith 4 [.inr (.inr (.inl (10, i, 0))), .inl (nI g), .inl (nI v), .inl (nI k)] [] m = some (.inl (nI (bsW (hasB (vlW V) g) r k v)), m)
  | 0, k, v, hr => by
    have h12 := ho.1
    have h4 := h.1.2.1
    rw [l_X8_wordsWith_4]
    simp (disch := omega) only [jg_lit, jg_litL, jg_m1, jg_m1L, nI_add, lN_add, pk_mul, jg_sub, jg_subM, jg_addM, jg_addM', jg_negM, jt_in, jt_ix, jt_bi, jt_bl, jt_bv, jt_lt, jg_dT, jg_dF, jt_c, jt_cd, ru_I, ru_L, jg_leI, jg_ltI, jg_eqI, jg_M1, jg_M2, jg_M3, jg_M4, jg_M5, jg_M6, jg_ltT, jg_ltF, jg_leT, jg_leF, jg_eqT, jg_eqF, cond_true, cond_false, ne_eq, not_true_eq_false, not_false_eq_true, decide_true, decide_false, if_true, if_false, and_true, true_and, and_false, false_and, or_true, true_or, or_false, false_or, Nat.reduceEqDiff, reduceIte, Nat.reduceMul, Nat.reduceAdd, Nat.reduceSub, Nat.add_zero, Nat.zero_add, Nat.mul_zero, eq_self_iff_true, jg_not_lt, jg_not_le, h4]
    rfl
  | r + 1, k, v, hr => by
    have h12 := ho.1
    have h4 := h.1.2.1
    have hk : k < (vlW V).length := by omega
    have hM := (ho.2.1 k hk).1.2.2.2.1
    have h2 := (h.2 k hk).2.2.1
    have hb := bit_In (v := wM (gw (vlW V) k)) (c := g) (by omega) hg
    rw [l_X8_wordsWith_4]
    unfold bsW
    cases c : hasB (vlW V) g k with
    | false =>
      have c' : (wM (gw (vlW V) k)).testBit g = false := c
      rw [c'] at hb
      simp (disch := omega) only [jg_lit, jg_litL, jg_m1, jg_m1L, nI_add, lN_add, pk_mul, jg_sub, jg_subM, jg_addM, jg_addM', jg_negM, jt_in, jt_ix, jt_bi, jt_bl, jt_bv, jt_lt, jg_dT, jg_dF, jt_c, jt_cd, ru_I, ru_L, jg_leI, jg_ltI, jg_eqI, jg_M1, jg_M2, jg_M3, jg_M4, jg_M5, jg_M6, jg_ltT, jg_ltF, jg_leT, jg_leF, jg_eqT, jg_eqF, cond_true, cond_false, ne_eq, not_true_eq_false, not_false_eq_true, decide_true, decide_false, if_true, if_false, and_true, true_and, and_false, false_and, or_true, true_or, or_false, false_or, Nat.reduceEqDiff, reduceIte, Nat.reduceMul, Nat.reduceAdd, Nat.reduceSub, Nat.add_zero, Nat.zero_add, Nat.mul_zero, eq_self_iff_true, jg_not_lt, jg_not_le, h4, Bool.and_true, h2, hb, bI_F]
      exact sx_with_loop h ho hg d r (k + 1) v (by omega)
    | true =>
      have c' : (wM (gw (vlW V) k)).testBit g = true := c
      rw [c'] at hb
      simp (disch := omega) only [jg_lit, jg_litL, jg_m1, jg_m1L, nI_add, lN_add, pk_mul, jg_sub, jg_subM, jg_addM, jg_addM', jg_negM, jt_in, jt_ix, jt_bi, jt_bl, jt_bv, jt_lt, jg_dT, jg_dF, jt_c, jt_cd, ru_I, ru_L, jg_leI, jg_ltI, jg_eqI, jg_M1, jg_M2, jg_M3, jg_M4, jg_M5, jg_M6, jg_ltT, jg_ltF, jg_leT, jg_leF, jg_eqT, jg_eqF, cond_true, cond_false, ne_eq, not_true_eq_false, not_false_eq_true, decide_true, decide_false, if_true, if_false, and_true, true_and, and_false, false_and, or_true, true_or, or_false, false_or, Nat.reduceEqDiff, reduceIte, Nat.reduceMul, Nat.reduceAdd, Nat.reduceSub, Nat.add_zero, Nat.zero_add, Nat.mul_zero, eq_self_iff_true, jg_not_lt, jg_not_le, h4, Bool.and_true, h2, hb, bI_T, shl_n, fb_orI]
      exact sx_with_loop h ho hg d r (k + 1) (v ||| 2 ^ k) (by omega)
theorem sx_wordsWith {V : Vl} {i : Nat} {m : jm_M} (h : xV V i m) (ho : okWs (vlW V)) {g : Nat} (hg : g < 32) (d : Nat) : jm_sem false (d + 2) jn_X8_wordsWith [.inr (.inr (.inl (10, i, 0))), .inl (nI g)] m = some (.inl (nI (wWith (vlW V) g)), m) := by
  rw [e_X8_wordsWith]
  exact sx_with_loop h ho hg d _ 0 0 (by omega)
theorem sm_of_loop {V : Vl} {s : Nat} {m : jm_M} (h : mV V s m) (hs : s + 490 ≤ 8600) (ho : okWs (vlW V)) {g : Nat} (hg : g < 32) (d : Nat) : ∀ (r k v : Nat), k + r = (vlW V).length → jm_ev false (d + 1) 11 1 jc_X12_wordsOf 5 [vM, .inl (nI s), .inl (nI g), .inl (nI v), .inl (nI k)] [] m = some (.inl (nI (bsW (hasB (vlW V) g) r k v)), m)
  | 0, k, v, hr => by
    have h12 := ho.1
    have h4 := h.2.1
    rw [l_X12_wordsOf_5]
    simp (disch := omega) only [jg_lit, jg_litL, jg_m1, jg_m1L, nI_add, lN_add, pk_mul, jg_sub, jg_subM, jg_addM, jg_addM', jg_negM, jt_in, jt_ix, jt_bi, jt_bl, jt_bv, jt_lt, jg_dT, jg_dF, jt_c, jt_cd, ru_I, ru_L, jg_leI, jg_ltI, jg_eqI, jg_M1, jg_M2, jg_M3, jg_M4, jg_M5, jg_M6, jg_ltT, jg_ltF, jg_leT, jg_leF, jg_eqT, jg_eqF, cond_true, cond_false, ne_eq, not_true_eq_false, not_false_eq_true, decide_true, decide_false, if_true, if_false, and_true, true_and, and_false, false_and, or_true, true_or, or_false, false_or, Nat.reduceEqDiff, reduceIte, Nat.reduceMul, Nat.reduceAdd, Nat.reduceSub, Nat.add_zero, Nat.zero_add, Nat.mul_zero, eq_self_iff_true, jg_not_lt, jg_not_le, h4]
    rfl
  | r + 1, k, v, hr => by
    have h12 := ho.1
    have h4 := h.2.1
    have hk : k < (vlW V).length := by omega
    have hM := (ho.2.1 k hk).1.2.2.2.1
    have h8 := okW_8 (ho.2.1 k hk).1
    have hl := (h.2.2.2.2 k hk).1.2.1
    have h9 := (h.2.2.2.2 k hk).2.1
    have ro := fun m => sm_rowOf d s k m
    have hb := bit_In (v := wM (gw (vlW V) k)) (c := g) (by omega) hg
    rw [l_X12_wordsOf_5]
    unfold bsW
    cases c : hasB (vlW V) g k with
    | false =>
      have c' : (wM (gw (vlW V) k)).testBit g = false := c
      rw [c'] at hb
      by_cases e : wL (gw (vlW V) k) = []
      · rw [e] at hl
        simp (disch := omega) only [jg_lit, jg_litL, jg_m1, jg_m1L, nI_add, lN_add, pk_mul, jg_sub, jg_subM, jg_addM, jg_addM', jg_negM, jt_in, jt_ix, jt_bi, jt_bl, jt_bv, jt_lt, jg_dT, jg_dF, jt_c, jt_cd, ru_I, ru_L, jg_leI, jg_ltI, jg_eqI, jg_M1, jg_M2, jg_M3, jg_M4, jg_M5, jg_M6, jg_ltT, jg_ltF, jg_leT, jg_leF, jg_eqT, jg_eqF, cond_true, cond_false, ne_eq, not_true_eq_false, not_false_eq_true, decide_true, decide_false, if_true, if_false, and_true, true_and, and_false, false_and, or_true, true_or, or_false, false_or, Nat.reduceEqDiff, reduceIte, Nat.reduceMul, Nat.reduceAdd, Nat.reduceSub, Nat.add_zero, Nat.zero_add, Nat.mul_zero, eq_self_iff_true, jg_not_lt, jg_not_le, h4, ro, hl, List.length_nil, or0]
        exact sm_of_loop h hs ho hg d r (k + 1) v (by omega)
      · have hp : 0 < (wL (gw (vlW V) k)).length := List.length_pos_iff.mpr e
        simp (disch := omega) only [jg_lit, jg_litL, jg_m1, jg_m1L, nI_add, lN_add, pk_mul, jg_sub, jg_subM, jg_addM, jg_addM', jg_negM, jt_in, jt_ix, jt_bi, jt_bl, jt_bv, jt_lt, jg_dT, jg_dF, jt_c, jt_cd, ru_I, ru_L, jg_leI, jg_ltI, jg_eqI, jg_M1, jg_M2, jg_M3, jg_M4, jg_M5, jg_M6, jg_ltT, jg_ltF, jg_leT, jg_leF, jg_eqT, jg_eqF, cond_true, cond_false, ne_eq, not_true_eq_false, not_false_eq_true, decide_true, decide_false, if_true, if_false, and_true, true_and, and_false, false_and, or_true, true_or, or_false, false_or, Nat.reduceEqDiff, reduceIte, Nat.reduceMul, Nat.reduceAdd, Nat.reduceSub, Nat.add_zero, Nat.zero_add, Nat.mul_zero, eq_self_iff_true, jg_not_lt, jg_not_le, h4, ro, hl, h9, hb, bI_F, or0]
        exact sm_of_loop h hs ho hg d r (k + 1) v (by omega)
    | true =>
      have e := hasB_live (ho.2.1 k hk) c
      have c' : (wM (gw (vlW V) k)).testBit g = true := c
      rw [c'] at hb
      have hp : 0 < (wL (gw (vlW V) k)).length := List.length_pos_iff.mpr e
      simp (disch := omega) only [jg_lit, jg_litL, jg_m1, jg_m1L, nI_add, lN_add, pk_mul, jg_sub, jg_subM, jg_addM, jg_addM', jg_negM, jt_in, jt_ix, jt_bi, jt_bl, jt_bv, jt_lt, jg_dT, jg_dF, jt_c, jt_cd, ru_I, ru_L, jg_leI, jg_ltI, jg_eqI, jg_M1, jg_M2, jg_M3, jg_M4, jg_M5, jg_M6, jg_ltT, jg_ltF, jg_leT, jg_leF, jg_eqT, jg_eqF, cond_true, cond_false, ne_eq, not_true_eq_false, not_false_eq_true, decide_true, decide_false, if_true, if_false, and_true, true_and, and_false, false_and, or_true, true_or, or_false, false_or, Nat.reduceEqDiff, reduceIte, Nat.reduceMul, Nat.reduceAdd, Nat.reduceSub, Nat.add_zero, Nat.zero_add, Nat.mul_zero, eq_self_iff_true, jg_not_lt, jg_not_le, h4, ro, hl, h9, hb, bI_T, shl_n, fb_orI]
      exact sm_of_loop h hs ho hg d r (k + 1) (v ||| 2 ^ k) (by omega)
theorem sm_wordsOf {V : Vl} {s : Nat} {m : jm_M} (h : mV V s m) (hs : s + 490 ≤ 8600) (ho : okWs (vlW V)) {g : Nat} (hg : g < 32) (d : Nat) : jm_sem false (d + 2) jn_X12_wordsOf [vM, .inl (nI s), .inl (nI g)] m = some (.inl (nI (wWith (vlW V) g)), m) := by
  rw [e_X12_wordsOf]
  exact sm_of_loop h hs ho hg d _ 0 0 (by omega)
/-- the cheap word: the best so far -/
def chW (ws : List Wd) (g : Nat) : Nat → Nat → Option Nat → Option Nat
  | 0, _, b => b
  | r + 1, k, b => chW ws g r (k + 1) (if hasB ws g k = true ∧ (match b with | none => true | some q => decide ((wL (gw ws q)).length < (wL (gw ws k)).length)) = true then some k else b)
def cheapW (ws : List Wd) (g : Nat) : Option Nat := chW ws g ws.length 0 none
theorem chW_lt {ws : List Wd} {g : Nat} (hw : ∀ j, j < ws.length → okW2 (gw ws j)) : ∀ (r k : Nat) (b : Option Nat), k + r = ws.length → (∀ q, b = some q → q < ws.length ∧ hasB ws g q = true) → ∀ q, chW ws g r k b = some q → q < ws.length ∧ hasB ws g q = true
  | 0, _, b, _, hb, q, h => hb q h
  | r + 1, k, b, hr, hb, q, h => by
    unfold chW at h
    refine chW_lt hw r (k + 1) _ (by omega) (fun q' hq' => ?_) q h
    split at hq'
    · split at hq'
      · rename_i hc
        have := Option.some.inj hq'
        subst this
        exact ⟨by omega, hc.1⟩
      · cases hq'
    · split at hq'
      · rename_i hc
        have := Option.some.inj hq'
        subst this
        exact ⟨by omega, hc.1⟩
      · exact hb q' hq'
theorem cheapW_lt {ws : List Wd} {g : Nat} (hw : ∀ j, j < ws.length → okW2 (gw ws j)) {q : Nat} (h : cheapW ws g = some q) : q < ws.length ∧ wL (gw ws q) ≠ [] := by
  have := chW_lt hw ws.length 0 none (by omega) (fun q h => by cases h) q h
  exact ⟨this.1, hasB_live (hw q this.1) this.2⟩
def mostW (ws : List Wd) (b : Option Nat) : Nat := match b with
  | none => 0
  | some q => (wL (gw ws q)).length
theorem sx_cheap_loop {V : Vl} {i : Nat} {m : jm_M} (h : xV V i m) (ho : okWs (vlW V)) {g : Nat} (hg : g < 32) (z1 : jm_V) (d : Nat) : ∀ (r k : Nat) (b : Option Nat), k + r = (vlW V).length → (∀ q, b = some q → q < (vlW V).length) → jm_ev false (d + 1) 7 1 jc_X8_cheapWord 14 [.inr (.inr (.inl (10, i, 0))), z1, .inl (nI (wWith (vlW V) g)), .inl (jpl b), .inl (nI (mostW (vlW V) b)), .inl (nI k)] [] m = some (.inl (jpl (chW (vlW V) g r k b)), m)
  | 0, k, b, hr, hb => by
    have h12 := ho.1
    have h4 := h.1.2.1
    rw [l_X8_cheapWord_14]
    simp (disch := omega) only [jg_lit, jg_litL, jg_m1, jg_m1L, nI_add, lN_add, pk_mul, jg_sub, jg_subM, jg_addM, jg_addM', jg_negM, jt_in, jt_ix, jt_bi, jt_bl, jt_bv, jt_lt, jg_dT, jg_dF, jt_c, jt_cd, ru_I, ru_L, jg_leI, jg_ltI, jg_eqI, jg_M1, jg_M2, jg_M3, jg_M4, jg_M5, jg_M6, jg_ltT, jg_ltF, jg_leT, jg_leF, jg_eqT, jg_eqF, cond_true, cond_false, ne_eq, not_true_eq_false, not_false_eq_true, decide_true, decide_false, if_true, if_false, and_true, true_and, and_false, false_and, or_true, true_or, or_false, false_or, Nat.reduceEqDiff, reduceIte, Nat.reduceMul, Nat.reduceAdd, Nat.reduceSub, Nat.add_zero, Nat.zero_add, Nat.mul_zero, eq_self_iff_true, jg_not_lt, jg_not_le, h4]
    rfl
  | r + 1, k, b, hr, hb => by
    have h12 := ho.1
    have h4 := h.1.2.1
    have hk : k < (vlW V).length := by omega
    have h8 := okW_8 (ho.2.1 k hk).1
    have h1 := (h.2 k hk).2.1
    have hlt := bsW_lt (hasB (vlW V) g) h12
    have hb0 := bit_In (v := wWith (vlW V) g) (c := k) (by unfold wWith; omega) (by omega)
    have hbb : (wWith (vlW V) g).testBit k = hasB (vlW V) g k := by
      unfold wWith
      rw [bsW_bit]
      simp
      omega
    rw [hbb] at hb0
    have hm8 : mostW (vlW V) b ≤ 8 := by
      cases b with
      | none => exact Nat.zero_le _
      | some q => exact okW_8 (ho.2.1 q (hb q rfl)).1
    rw [l_X8_cheapWord_14]
    unfold chW
    cases c : hasB (vlW V) g k with
    | false =>
      rw [c] at hb0
      rw [if_neg (fun z => by cases z.1)]
      simp (disch := omega) only [jg_lit, jg_litL, jg_m1, jg_m1L, nI_add, lN_add, pk_mul, jg_sub, jg_subM, jg_addM, jg_addM', jg_negM, jt_in, jt_ix, jt_bi, jt_bl, jt_bv, jt_lt, jg_dT, jg_dF, jt_c, jt_cd, ru_I, ru_L, jg_leI, jg_ltI, jg_eqI, jg_M1, jg_M2, jg_M3, jg_M4, jg_M5, jg_M6, jg_ltT, jg_ltF, jg_leT, jg_leF, jg_eqT, jg_eqF, cond_true, cond_false, ne_eq, not_true_eq_false, not_false_eq_true, decide_true, decide_false, if_true, if_false, and_true, true_and, and_false, false_and, or_true, true_or, or_false, false_or, Nat.reduceEqDiff, reduceIte, Nat.reduceMul, Nat.reduceAdd, Nat.reduceSub, Nat.add_zero, Nat.zero_add, Nat.mul_zero, eq_self_iff_true, jg_not_lt, jg_not_le, h4, hb0, bI_F]
      exact sx_cheap_loop h ho hg z1 d r (k + 1) b (by omega) hb
    | true =>
      rw [c] at hb0
      have e := hasB_live (ho.2.1 k hk) c
      have hp : 0 < (wL (gw (vlW V) k)).length := List.length_pos_iff.mpr e
      by_cases cc : mostW (vlW V) b < (wL (gw (vlW V) k)).length
      · rw [if_pos ⟨rfl, by cases b with | none => rfl | some q => exact decide_eq_true cc⟩]
        simp (disch := omega) only [jg_lit, jg_litL, jg_m1, jg_m1L, nI_add, lN_add, pk_mul, jg_sub, jg_subM, jg_addM, jg_addM', jg_negM, jt_in, jt_ix, jt_bi, jt_bl, jt_bv, jt_lt, jg_dT, jg_dF, jt_c, jt_cd, ru_I, ru_L, jg_leI, jg_ltI, jg_eqI, jg_M1, jg_M2, jg_M3, jg_M4, jg_M5, jg_M6, jg_ltT, jg_ltF, jg_leT, jg_leF, jg_eqT, jg_eqF, cond_true, cond_false, ne_eq, not_true_eq_false, not_false_eq_true, decide_true, decide_false, if_true, if_false, and_true, true_and, and_false, false_and, or_true, true_or, or_false, false_or, Nat.reduceEqDiff, reduceIte, Nat.reduceMul, Nat.reduceAdd, Nat.reduceSub, Nat.add_zero, Nat.zero_add, Nat.mul_zero, eq_self_iff_true, jg_not_lt, jg_not_le, h4, hb0, bI_T, Bool.and_true, h1]
        exact sx_cheap_loop h ho hg z1 d r (k + 1) (some k) (by omega) (fun q hq => by have := Option.some.inj hq; omega)
      · rw [if_neg (fun z => by
          have z2 := z.2
          cases b with
          | none => exact cc hp
          | some q => exact cc (of_decide_eq_true z2))]
        simp (disch := omega) only [jg_lit, jg_litL, jg_m1, jg_m1L, nI_add, lN_add, pk_mul, jg_sub, jg_subM, jg_addM, jg_addM', jg_negM, jt_in, jt_ix, jt_bi, jt_bl, jt_bv, jt_lt, jg_dT, jg_dF, jt_c, jt_cd, ru_I, ru_L, jg_leI, jg_ltI, jg_eqI, jg_M1, jg_M2, jg_M3, jg_M4, jg_M5, jg_M6, jg_ltT, jg_ltF, jg_leT, jg_leF, jg_eqT, jg_eqF, cond_true, cond_false, ne_eq, not_true_eq_false, not_false_eq_true, decide_true, decide_false, if_true, if_false, and_true, true_and, and_false, false_and, or_true, true_or, or_false, false_or, Nat.reduceEqDiff, reduceIte, Nat.reduceMul, Nat.reduceAdd, Nat.reduceSub, Nat.add_zero, Nat.zero_add, Nat.mul_zero, eq_self_iff_true, jg_not_lt, jg_not_le, h4, hb0, bI_T, Bool.and_true, h1]
        exact sx_cheap_loop h ho hg z1 d r (k + 1) b (by omega) hb
theorem sx_cheapWord {V : Vl} {i : Nat} {m : jm_M} (h : xV V i m) (ho : okWs (vlW V)) {g : Nat} (hg : g < 32) (d : Nat) : jm_sem false (d + 3) jn_X8_cheapWord [.inr (.inr (.inl (10, i, 0))), .inl (nI g)] m = some (.inl (jpl (cheapW (vlW V) g)), m) := by
  rw [e_X8_cheapWord, sx_wordsWith h ho hg, jt_bi]
  exact sx_cheap_loop h ho hg (.inl (nI g)) (d + 1) (vlW V).length 0 none (by omega) (fun q hq => by cases hq)
theorem sm_cheap_loop {V : Vl} {s : Nat} {m : jm_M} (h : mV V s m) (hs : s + 490 ≤ 8600) (ho : okWs (vlW V)) {g : Nat} (hg : g < 32) (d : Nat) : ∀ (r k : Nat) (b : Option Nat) (z5 : jm_V), k + r = (vlW V).length → (∀ q, b = some q → q < (vlW V).length) → jm_ev false (d + 1) 11 1 jc_X12_cheapIn 5 [vM, .inl (nI s), .inl (nI g), .inl (jpl b), .inl (nI k), z5] [] m = some (.inl (jpl (chW (vlW V) g r k b)), m)
  | 0, k, b, z5, hr, hb => by
    have h12 := ho.1
    have h4 := h.2.1
    rw [l_X12_cheapIn_5]
    simp (disch := omega) only [jg_lit, jg_litL, jg_m1, jg_m1L, nI_add, lN_add, pk_mul, jg_sub, jg_subM, jg_addM, jg_addM', jg_negM, jt_in, jt_ix, jt_bi, jt_bl, jt_bv, jt_lt, jg_dT, jg_dF, jt_c, jt_cd, ru_I, ru_L, jg_leI, jg_ltI, jg_eqI, jg_M1, jg_M2, jg_M3, jg_M4, jg_M5, jg_M6, jg_ltT, jg_ltF, jg_leT, jg_leF, jg_eqT, jg_eqF, cond_true, cond_false, ne_eq, not_true_eq_false, not_false_eq_true, decide_true, decide_false, if_true, if_false, and_true, true_and, and_false, false_and, or_true, true_or, or_false, false_or, Nat.reduceEqDiff, reduceIte, Nat.reduceMul, Nat.reduceAdd, Nat.reduceSub, Nat.add_zero, Nat.zero_add, Nat.mul_zero, eq_self_iff_true, jg_not_lt, jg_not_le, h4]
    rfl
  | r + 1, k, b, z5, hr, hb => by
    have h12 := ho.1
    have h4 := h.2.1
    have hk : k < (vlW V).length := by omega
    have hM := (ho.2.1 k hk).1.2.2.2.1
    have h8 := okW_8 (ho.2.1 k hk).1
    have hl := (h.2.2.2.2 k hk).1.2.1
    have h9 := (h.2.2.2.2 k hk).2.1
    have ro := fun k m => sm_rowOf d s k m
    have hbt := bit_In (v := wM (gw (vlW V) k)) (c := g) (by omega) hg
    rw [l_X12_cheapIn_5]
    unfold chW
    cases c : hasB (vlW V) g k with
    | false =>
      have c' : (wM (gw (vlW V) k)).testBit g = false := c
      rw [c'] at hbt
      rw [if_neg (fun z => by cases z.1)]
      by_cases e : wL (gw (vlW V) k) = []
      · rw [e] at hl
        simp (disch := omega) only [jg_lit, jg_litL, jg_m1, jg_m1L, nI_add, lN_add, pk_mul, jg_sub, jg_subM, jg_addM, jg_addM', jg_negM, jt_in, jt_ix, jt_bi, jt_bl, jt_bv, jt_lt, jg_dT, jg_dF, jt_c, jt_cd, ru_I, ru_L, jg_leI, jg_ltI, jg_eqI, jg_M1, jg_M2, jg_M3, jg_M4, jg_M5, jg_M6, jg_ltT, jg_ltF, jg_leT, jg_leF, jg_eqT, jg_eqF, cond_true, cond_false, ne_eq, not_true_eq_false, not_false_eq_true, decide_true, decide_false, if_true, if_false, and_true, true_and, and_false, false_and, or_true, true_or, or_false, false_or, Nat.reduceEqDiff, reduceIte, Nat.reduceMul, Nat.reduceAdd, Nat.reduceSub, Nat.add_zero, Nat.zero_add, Nat.mul_zero, eq_self_iff_true, jg_not_lt, jg_not_le, h4, ro, hl, List.length_nil]
        exact sm_cheap_loop h hs ho hg d r (k + 1) b _ (by omega) hb
      · have hp : 0 < (wL (gw (vlW V) k)).length := List.length_pos_iff.mpr e
        simp (disch := omega) only [jg_lit, jg_litL, jg_m1, jg_m1L, nI_add, lN_add, pk_mul, jg_sub, jg_subM, jg_addM, jg_addM', jg_negM, jt_in, jt_ix, jt_bi, jt_bl, jt_bv, jt_lt, jg_dT, jg_dF, jt_c, jt_cd, ru_I, ru_L, jg_leI, jg_ltI, jg_eqI, jg_M1, jg_M2, jg_M3, jg_M4, jg_M5, jg_M6, jg_ltT, jg_ltF, jg_leT, jg_leF, jg_eqT, jg_eqF, cond_true, cond_false, ne_eq, not_true_eq_false, not_false_eq_true, decide_true, decide_false, if_true, if_false, and_true, true_and, and_false, false_and, or_true, true_or, or_false, false_or, Nat.reduceEqDiff, reduceIte, Nat.reduceMul, Nat.reduceAdd, Nat.reduceSub, Nat.add_zero, Nat.zero_add, Nat.mul_zero, eq_self_iff_true, jg_not_lt, jg_not_le, h4, ro, hl, h9, hbt, bI_F]
        exact sm_cheap_loop h hs ho hg d r (k + 1) b _ (by omega) hb
    | true =>
      have e := hasB_live (ho.2.1 k hk) c
      have c' : (wM (gw (vlW V) k)).testBit g = true := c
      rw [c'] at hbt
      have hp : 0 < (wL (gw (vlW V) k)).length := List.length_pos_iff.mpr e
      cases b with
      | none =>
        rw [if_pos ⟨rfl, rfl⟩]
        have j0 : jpl none = jM := rfl
        rw [j0]
        simp (disch := omega) only [jg_lit, jg_litL, jg_m1, jg_m1L, nI_add, lN_add, pk_mul, jg_sub, jg_subM, jg_addM, jg_addM', jg_negM, jt_in, jt_ix, jt_bi, jt_bl, jt_bv, jt_lt, jg_dT, jg_dF, jt_c, jt_cd, ru_I, ru_L, jg_leI, jg_ltI, jg_eqI, jg_M1, jg_M2, jg_M3, jg_M4, jg_M5, jg_M6, jg_ltT, jg_ltF, jg_leT, jg_leF, jg_eqT, jg_eqF, cond_true, cond_false, ne_eq, not_true_eq_false, not_false_eq_true, decide_true, decide_false, if_true, if_false, and_true, true_and, and_false, false_and, or_true, true_or, or_false, false_or, Nat.reduceEqDiff, reduceIte, Nat.reduceMul, Nat.reduceAdd, Nat.reduceSub, Nat.add_zero, Nat.zero_add, Nat.mul_zero, eq_self_iff_true, jg_not_lt, jg_not_le, h4, ro, hl, h9, hbt, bI_T]
        exact sm_cheap_loop h hs ho hg d r (k + 1) (some k) _ (by omega) (fun q hq => by have := Option.some.inj hq; omega)
      | some q =>
        have hq := hb q rfl
        have hlq := (h.2.2.2.2 q hq).1.2.1
        have hq8 := okW_8 (ho.2.1 q hq).1
        have j0 : jpl (some q) = nI q := rfl
        by_cases cc : (wL (gw (vlW V) q)).length < (wL (gw (vlW V) k)).length
        · rw [if_pos ⟨rfl, decide_eq_true cc⟩, j0]
          simp (disch := omega) only [jg_lit, jg_litL, jg_m1, jg_m1L, nI_add, lN_add, pk_mul, jg_sub, jg_subM, jg_addM, jg_addM', jg_negM, jt_in, jt_ix, jt_bi, jt_bl, jt_bv, jt_lt, jg_dT, jg_dF, jt_c, jt_cd, ru_I, ru_L, jg_leI, jg_ltI, jg_eqI, jg_M1, jg_M2, jg_M3, jg_M4, jg_M5, jg_M6, jg_ltT, jg_ltF, jg_leT, jg_leF, jg_eqT, jg_eqF, cond_true, cond_false, ne_eq, not_true_eq_false, not_false_eq_true, decide_true, decide_false, if_true, if_false, and_true, true_and, and_false, false_and, or_true, true_or, or_false, false_or, Nat.reduceEqDiff, reduceIte, Nat.reduceMul, Nat.reduceAdd, Nat.reduceSub, Nat.add_zero, Nat.zero_add, Nat.mul_zero, eq_self_iff_true, jg_not_lt, jg_not_le, h4, ro, hl, h9, hbt, bI_T, hlq]
          exact sm_cheap_loop h hs ho hg d r (k + 1) (some k) _ (by omega) (fun q hq => by have := Option.some.inj hq; omega)
        · rw [if_neg (fun z => cc (of_decide_eq_true z.2)), j0]
          simp (disch := omega) only [jg_lit, jg_litL, jg_m1, jg_m1L, nI_add, lN_add, pk_mul, jg_sub, jg_subM, jg_addM, jg_addM', jg_negM, jt_in, jt_ix, jt_bi, jt_bl, jt_bv, jt_lt, jg_dT, jg_dF, jt_c, jt_cd, ru_I, ru_L, jg_leI, jg_ltI, jg_eqI, jg_M1, jg_M2, jg_M3, jg_M4, jg_M5, jg_M6, jg_ltT, jg_ltF, jg_leT, jg_leF, jg_eqT, jg_eqF, cond_true, cond_false, ne_eq, not_true_eq_false, not_false_eq_true, decide_true, decide_false, if_true, if_false, and_true, true_and, and_false, false_and, or_true, true_or, or_false, false_or, Nat.reduceEqDiff, reduceIte, Nat.reduceMul, Nat.reduceAdd, Nat.reduceSub, Nat.add_zero, Nat.zero_add, Nat.mul_zero, eq_self_iff_true, jg_not_lt, jg_not_le, h4, ro, hl, h9, hbt, bI_T, hlq]
          exact sm_cheap_loop h hs ho hg d r (k + 1) (some q) _ (by omega) hb
theorem sm_cheapIn {V : Vl} {s : Nat} {m : jm_M} (h : mV V s m) (hs : s + 490 ≤ 8600) (ho : okWs (vlW V)) {g : Nat} (hg : g < 32) (d : Nat) : jm_sem false (d + 2) jn_X12_cheapIn [vM, .inl (nI s), .inl (nI g)] m = some (.inl (jpl (cheapW (vlW V) g)), m) := by
  rw [e_X12_cheapIn]
  exact sm_cheap_loop h hs ho hg d (vlW V).length 0 none _ (by omega) (fun q hq => by cases hq)
