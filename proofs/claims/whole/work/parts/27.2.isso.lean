/-! ===== what a piece asks (class) ===== -/
theorem jt_and31L (n : Nat) : (lN n &&& (31 : Int64)).toInt32 = nI (n % 32) := by
  rw [show (31 : Int64) = lN (2 ^ 5 - 1) from rfl, fb_maskL, lN_i]
theorem jt_shr5L {n : Nat} (h : n < 2 ^ 62) : lN n >>> ((5 : Int32).toInt64 &&& 63) = lN (n / 32) := by
  have e : (5 : Int32).toInt64 &&& 63 = lN 5 := by decide
  rw [e, pf_shr (jt_smod (by decide)) h]
theorem jt_1shl : ∀ c, c < 32 → (1 : Int32) <<< (nI c &&& 31) = nI (2 ^ c) := by decide +kernel
theorem sx_letterSet_loop {ls : List Nat} (ho : okL ls) (h8 : ls.length ≤ 8) (d i j : Nat) (m : jm_M) (hs : m.1 12 i j 1 = nI ls.length) : ∀ (k : Nat), k ≤ ls.length → jm_ev false d 9 1 jc_X10_letterSet 10 [.inr (.inr (.inl (12, i, j))), .inl (nI (setN (ls.drop k).reverse)), .inr (.inl (lN (enc (ls.take k)))), jm_j, .inl (nI (ls.length - k))] [] m = some (.inl (nI (setN ls.reverse)), m)
  | 0, _ => by
    have e : nI ls.length ≤ nI (ls.length - 0) := by
      rw [jg_leI (by omega) (by omega)]
      omega
    rw [l_X10_letterSet_10, hs, jt_dt e, List.drop_zero]
    rfl
  | k + 1, hk => by
    have hk' : k < ls.length := hk
    have ok : okL (ls.take (k + 1)) := okL_sub (fun c hc => List.mem_of_mem_take hc) ho
    have h40 := enc_40 ok (by rw [List.length_take]; omega)
    have c32 := okL_31 ho k
    have e1 : enc (ls.take (k + 1)) = 32 * enc (ls.take k) + ls.getD k 0 := by rw [take_snoc hk', enc_snoc]
    have e : ¬ nI ls.length ≤ nI (ls.length - (k + 1)) := by
      rw [jg_leI (by omega) (by omega)]
      omega
    have e4 : nI (ls.length - (k + 1)) + 1 = nI (ls.length - k) := by
      rw [show (1 : Int32) = nI 1 from rfl, nI_add, show ls.length - (k + 1) + 1 = ls.length - k by omega]
    rw [l_X10_letterSet_10, hs, jt_df e, cond_false, jt_and31L, jt_shr5L (by omega), jt_1shl _ (by omega), fb_orI, e4]
    have e2 : enc (ls.take (k + 1)) % 32 = ls.getD k 0 := by omega
    have e3 : enc (ls.take (k + 1)) / 32 = enc (ls.take k) := by omega
    rw [e2, e3, ← setN_snoc, ← List.reverse_cons, ← drop_cons hk']
    exact sx_letterSet_loop ho h8 d i j m hs k (by omega)
theorem sx_letterSet {w : Wd} {i j : Nat} {m : jm_M} (h : xW w i j m) (ho : okL (wL w)) (h8 : (wL w).length ≤ 8) (d : Nat) : jm_sem false (d + 1) jn_X10_letterSet [.inr (.inr (.inl (12, i, j)))] m = some (.inl (nI (setN (wL w).reverse)), m) := by
  rw [e_X10_letterSet, h.1]
  have := sx_letterSet_loop ho h8 d i j m h.2.1 (wL w).length (Nat.le_refl _)
  rw [List.drop_length, List.take_length, Nat.sub_self] at this
  exact this
theorem setN_lt {ls : List Nat} (ho : ∀ c ∈ ls, c ≤ 26) : setN ls < 2 ^ 27 := by
  apply Nat.lt_pow_two_of_testBit
  intro i hi
  rw [setN_bit, List.any_eq_false]
  intro c hc
  have := ho c hc
  simp only [beq_iff_eq]
  omega
theorem want_lt {t : Nat} (h : t ≤ 26) : wantN t < 2 ^ 27 := by
  unfold wantN
  split
  · decide
  · exact Nat.pow_lt_pow_right (by decide) (by omega)
theorem want_tb : ∀ t, t < 27 → ∀ c, c < 32 → (wantN t).testBit c = isSuchB c t := by decide +kernel
theorem want_any {ls : List Nat} (ho : ∀ c ∈ ls, c ≤ 26) {t : Nat} (ht : t ≤ 26) : (nI (wantN t) &&& nI (setN ls.reverse) = 0) ↔ ls.any (fun x => isSuchB x t) = false := by
  have h1 : setN ls.reverse < 2 ^ 27 := setN_lt (fun c hc => ho c (List.mem_reverse.mp hc))
  have h2 : wantN t &&& setN ls.reverse < 2 ^ 27 := Nat.and_lt_two_pow _ h1
  rw [fb_andI, show (0 : Int32) = nI 0 from rfl, nI_eq (by omega) (by decide)]
  constructor
  · intro z
    rw [List.any_eq_false]
    intro c hc y
    have hc26 := ho c hc
    have := congrArg (fun n => Nat.testBit n c) z
    simp only [Nat.testBit_and, Nat.zero_testBit, setN_bit, want_tb t (by omega) c (by omega), y, Bool.true_and, List.any_eq_false, List.mem_reverse] at this
    exact absurd (beq_self_eq_true c) (this c hc)
  · intro z
    apply Nat.eq_of_testBit_eq
    intro c
    rw [Nat.testBit_and, Nat.zero_testBit, setN_bit]
    rw [List.any_eq_false] at z
    by_cases y : c ∈ ls
    · have := z c y
      rw [want_tb t (by omega) c (by have := ho c y; omega)]
      simp only [Bool.not_eq_true] at this
      rw [this, Bool.false_and]
    · have : (ls.reverse.any fun x => c == x) = false := by
        rw [List.any_eq_false]
        intro x hx
        simp only [beq_iff_eq]
        rintro rfl
        exact y (List.mem_reverse.mp hx)
      rw [this, Bool.and_false]
def mn99 (x : Int32) : Int32 := if (99 : Int32) < x then 99 else x
def lat (t : Int32) : Int32 := if t < 0 then 0 else t
def wantX (c : Ck) : Nat := if 1 ≤ c.1 ∧ c.1 ≤ 3 then wantN c.2 else c.2
def shB (v : Nat) : Bool := decide (1 < popc v)
def bI (b : Bool) : Int32 := if b then 1 else 0
theorem bI_cd (p : Prop) [Decidable p] (b : Bool) (m : jm_M) (h : p ↔ b = false) : (if p then some (.inl 0, m) else some (.inl 1, m) : Option (jm_V × jm_M)) = some (.inl (bI b), m) := by
  cases b with
  | false => rw [if_pos (h.mpr rfl)]; rfl
  | true => rw [if_neg (fun z => Bool.noConfusion (h.mp z))]; rfl
theorem sx_cmp (d i j : Nat) (z0 z3 : jm_V) (v : Int32) {a : Nat} (ha : a / 4 ≤ 99) (ha2 : a % 4 < 3) (m : jm_M) : jm_ev false d 2 2 jc_X2_isSo 165 [z0, .inl (nI a), .inr (.inr (.inl (12, i, j))), z3, .inl v, jm_j, jm_j] [] m = some (.inl (bI (cmpB v a)), m) := by
  have e1 : nI a &&& 3 = nI (a % 4) := by
    rw [show (3 : Int32) = nI (2 ^ 2 - 1) from rfl, fb_andI, Nat.and_two_pow_sub_one_eq_mod]
  have e2 : nI a >>> ((2 : Int32) &&& 31) = nI (a / 4) := pk_shrN (by omega) _ 2 (by decide)
  rw [l_X2_isSo_165, e1, e2]
  unfold cmpB
  have h3 : a % 4 = 0 ∨ a % 4 = 1 ∨ a % 4 = 2 := by omega
  rcases h3 with h | h | h
  · rw [h]
    simp only [jt_c, jt_cd, if_neg (show ¬ (nI 0 ≠ 0) by decide), if_true]
    exact bI_cd _ _ m (by rw [decide_eq_false_iff_not, Int32.not_lt])
  · rw [h]
    simp only [jt_c, jt_cd, if_pos (show (nI 1 ≠ 0) by decide), if_neg (show ¬ (nI 1 ≠ 1) by decide), if_neg (show ¬ (1 = 0) by decide), if_true]
    exact bI_cd _ _ m (by rw [decide_eq_false_iff_not, Int32.not_lt])
  · rw [h]
    simp only [jt_c, jt_cd, if_pos (show (nI 2 ≠ 0) by decide), if_pos (show (nI 2 ≠ 1) by decide), if_neg (show ¬ (2 = 0) by decide), if_neg (show ¬ (2 = 1) by decide)]
    exact bI_cd _ _ m (by rw [decide_eq_false_iff_not])
theorem sx_isSo {w : Wd} {i j : Nat} {m : jm_M} (h : xW w i j m) (ho : okL (wL w)) (h26 : ∀ c ∈ wL w, c ≤ 26) (h8 : (wL w).length ≤ 8) (hn : wL w ≠ []) (hM : wM w < 4096) {c : Ck} (hc : okCk c) (hc7 : c.1 < 8) (day : Int32) (d : Nat) : jm_sem false (d + 2) jn_X2_isSo [.inl (nI c.1), .inl (nI (wantX c)), .inr (.inr (.inl (12, i, j))), .inl day] m = some (.inl (bI (askB (wL w) (shB (wM w)) (wS w) (mn99 day) (mn99 (day - lat (wT w))) c)), m) := by
  obtain ⟨a, b⟩ := c
  have hl : 0 < (wL w).length := List.length_pos_iff.mpr hn
  have hw1 := h.2.1
  have hw2 := h.2.2.1
  have hw3 := h.2.2.2.1
  have hw4 := h.2.2.2.2.1
  have hp := popc_12 (wM w)
  have hc7 : a < 8 := hc7
  have h1 := hc.2.1
  have h2 := hc.2.2
  dsimp only at h1 h2
  have ha : a = 0 ∨ a = 1 ∨ a = 2 ∨ a = 3 ∨ a = 4 ∨ a = 5 ∨ a = 6 ∨ a = 7 := by omega
  unfold askB wantX
  dsimp only
  rcases ha with rfl | rfl | rfl | rfl | rfl | rfl | rfl | rfl
  · rw [e_X2_isSo, hw2, s_bitCount, bc_pop _ hM, jt_bi]
    simp (disch := omega) only [jg_lit, jg_litL, jg_m1, jg_m1L, nI_add, lN_add, pk_mul, jg_sub, jg_subM, jg_addM, jg_addM', jg_negM, jt_in, jt_ix, jt_bi, jt_bl, jt_bv, jt_lt, jg_dT, jg_dF, jt_c, jt_cd, ru_I, ru_L, jg_leI, jg_ltI, jg_eqI, jg_M1, jg_M2, jg_M3, jg_M4, jg_M5, jg_M6, jg_ltT, jg_ltF, jg_leT, jg_leF, jg_eqT, jg_eqF, cond_true, cond_false, ne_eq, not_true_eq_false, not_false_eq_true, decide_true, decide_false, if_true, if_false, and_true, true_and, and_false, false_and, or_true, true_or, or_false, false_or, Nat.reduceEqDiff, reduceIte, Nat.reduceMul, Nat.reduceAdd, Nat.reduceSub, Nat.add_zero, Nat.zero_add, Nat.mul_zero, eq_self_iff_true, jg_not_lt, jg_not_le]
    exact bI_cd _ _ m (by unfold shB; rw [decide_eq_false_iff_not]; omega)
  · have := sx_letter h ho h8 (p := 0) (by omega) d
    have c32 := okL_31 ho 0
    rw [e_X2_isSo, show (0 : Int32) = nI 0 from rfl, this, jt_bi]
    rw [if_pos (by omega), want_bit b (by have := h1 (by omega) (by omega); omega) _ (by omega)]
    simp (disch := omega) only [jg_lit, jg_litL, jg_m1, jg_m1L, nI_add, lN_add, pk_mul, jg_sub, jg_subM, jg_addM, jg_addM', jg_negM, jt_in, jt_ix, jt_bi, jt_bl, jt_bv, jt_lt, jg_dT, jg_dF, jt_c, jt_cd, ru_I, ru_L, jg_leI, jg_ltI, jg_eqI, jg_M1, jg_M2, jg_M3, jg_M4, jg_M5, jg_M6, jg_ltT, jg_ltF, jg_leT, jg_leF, jg_eqT, jg_eqF, cond_true, cond_false, ne_eq, not_true_eq_false, not_false_eq_true, decide_true, decide_false, if_true, if_false, and_true, true_and, and_false, false_and, or_true, true_or, or_false, false_or, Nat.reduceEqDiff, reduceIte, Nat.reduceMul, Nat.reduceAdd, Nat.reduceSub, Nat.add_zero, Nat.zero_add, Nat.mul_zero, eq_self_iff_true, jg_not_lt, jg_not_le]
    cases isSuchB ((wL w).getD 0 0) b <;> rfl
  · have := sx_letter h ho h8 (p := (wL w).length - 1) (by omega) d
    have c32 := okL_31 ho ((wL w).length - 1)
    rw [e_X2_isSo, hw1, jt_sub1 hl, this, jt_bi]
    rw [if_pos (by omega), want_bit b (by have := h1 (by omega) (by omega); omega) _ (by omega)]
    simp (disch := omega) only [jg_lit, jg_litL, jg_m1, jg_m1L, nI_add, lN_add, pk_mul, jg_sub, jg_subM, jg_addM, jg_addM', jg_negM, jt_in, jt_ix, jt_bi, jt_bl, jt_bv, jt_lt, jg_dT, jg_dF, jt_c, jt_cd, ru_I, ru_L, jg_leI, jg_ltI, jg_eqI, jg_M1, jg_M2, jg_M3, jg_M4, jg_M5, jg_M6, jg_ltT, jg_ltF, jg_leT, jg_leF, jg_eqT, jg_eqF, cond_true, cond_false, ne_eq, not_true_eq_false, not_false_eq_true, decide_true, decide_false, if_true, if_false, and_true, true_and, and_false, false_and, or_true, true_or, or_false, false_or, Nat.reduceEqDiff, reduceIte, Nat.reduceMul, Nat.reduceAdd, Nat.reduceSub, Nat.add_zero, Nat.zero_add, Nat.mul_zero, eq_self_iff_true, jg_not_lt, jg_not_le]
    cases isSuchB ((wL w).getD ((wL w).length - 1) 0) b <;> rfl
  · have hb : b ≤ 26 := h1 (by omega) (by omega)
    have hwa := want_any h26 hb
    rw [e_X2_isSo, sx_letterSet h ho h8, jt_bi, if_pos (by omega)]
    simp only [show (nI 3 = 0) = False from eq_false (by decide), show (nI 3 = 1) = False from eq_false (by decide), show (nI 3 = 2) = False from eq_false (by decide), show (nI 3 = 3) = True from eq_true (by decide), decide_false, decide_true, cond_false, cond_true, jt_cd, Nat.reduceEqDiff, reduceIte]
    exact bI_cd _ _ m hwa
  · rw [if_neg (by omega), e_X2_isSo, hw1]
    rw [sx_cmp _ _ _ _ _ _ (h2 (by omega) (by omega)).1 (h2 (by omega) (by omega)).2]
    rfl
  · rw [if_neg (by omega), e_X2_isSo, hw3]
    rw [sx_cmp _ _ _ _ _ (wS w) (h2 (by omega) (by omega)).1 (h2 (by omega) (by omega)).2]
    rfl
  · rw [if_neg (by omega), e_X2_isSo]
    rw [sx_cmp _ _ _ _ _ (if (99 : Int32) < day then 99 else day) (h2 (by omega) (by omega)).1 (h2 (by omega) (by omega)).2]
    rfl
  · rw [if_neg (by omega), e_X2_isSo, hw4]
    rw [sx_cmp _ _ _ _ _ (if (99 : Int32) < (day - (if wT w < (0 : Int32) then (0 : Int32) else wT w)) then (99 : Int32) else (day - (if wT w < (0 : Int32) then (0 : Int32) else wT w))) (h2 (by omega) (by omega)).1 (h2 (by omega) (by omega)).2]
    rfl
