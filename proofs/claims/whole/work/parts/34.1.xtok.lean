/-! ===== TOKENS in the class ===== -/
def xTb (T : Tb) (m : jm_M) : Prop := okT T ∧ m.1 5 0 0 1 = nI T.1 ∧ ∀ k, k < T.1 → m.1 4 0 0 k &&& nI 255 = nI (T.2 k)
def xTk (T : Tb) (a : Nat) (m : jm_M) : Prop := m.1 5 0 0 2 = nI (tkE T a) ∧ m.1 5 0 0 3 = nI (tkK T a) ∧ m.1 5 0 0 4 = nI a ∧ m.1 5 0 0 5 = nI (tkE T a - a) ∧ m.1 5 0 0 7 = jpl (tkY T a) ∧ (tkK T a = 1 → m.2 5 0 0 6 = lN (enc (tkL T a))) ∧ (tkK T a = 2 → m.2 5 0 0 6 = lN (tkN T a)) ∧ (tkK T a = 3 → m.2 5 0 0 6 = lN (T.2 a))
def P5 (K _i _j k : Nat) : Prop := K = 5 ∧ 2 ≤ k ∧ k ≤ 7
theorem xTb_fr {T : Tb} {P : Nat → Nat → Nat → Nat → Prop} {m m' : jm_M} (h : xTb T m) (f : fr P m m') (h1 : ¬ P 5 0 0 1) (h2 : ∀ k, ¬ P 4 0 0 k) : xTb T m' := ⟨h.1, by rw [(f 5 0 0 1 h1).1]; exact h.2.1, fun k hk => by rw [(f 4 0 0 k (h2 k)).1]; exact h.2.2 k hk⟩
theorem xTb_5 {T : Tb} {m m' : jm_M} (h : xTb T m) (f : fr P5 m m') : xTb T m' := xTb_fr h f (fun z => by unfold P5 at z; omega) (fun k z => by unfold P5 at z; omega)
theorem xTk_fr {T : Tb} {a : Nat} {P : Nat → Nat → Nat → Nat → Prop} {m m' : jm_M} (h : xTk T a m) (f : fr P m m') (h1 : ∀ k, 2 ≤ k → k ≤ 7 → ¬ P 5 0 0 k) : xTk T a m' := by
  obtain ⟨a1, a2, a3, a4, a5, a6, a7, a8⟩ := h
  have k6 := (f 5 0 0 6 (h1 6 (by omega) (by omega))).2
  refine ⟨by rw [(f 5 0 0 2 (h1 2 (by omega) (by omega))).1]; exact a1, by rw [(f 5 0 0 3 (h1 3 (by omega) (by omega))).1]; exact a2, by rw [(f 5 0 0 4 (h1 4 (by omega) (by omega))).1]; exact a3, by rw [(f 5 0 0 5 (h1 5 (by omega) (by omega))).1]; exact a4, by rw [(f 5 0 0 7 (h1 7 (by omega) (by omega))).1]; exact a5, fun z => by rw [k6]; exact a6 z, fun z => by rw [k6]; exact a7 z, fun z => by rw [k6]; exact a8 z⟩
theorem sx_by {T : Tb} {m : jm_M} (h : xTb T m) {k : Nat} (hk : k ≤ T.1) (d : Nat) : jm_sem false (d + 1) jn_X6_byteAt [.inr (.inr (.inl (5, 0, 0))), .inl (nI k)] m = some (.inl (if k < T.1 then nI (T.2 k) else jM), m) := by
  have h9 := h.1.1
  have h1 := h.2.1
  rw [e_X6_byteAt]
  have e9 : (Int32.ofNat 900 : Int32) = nI 900 := rfl
  rw [e9]
  by_cases c : k < T.1
  · have hb := h.2.2 k c
    rw [if_pos c]
    simp (disch := omega) only [jg_lit, jg_litL, jg_m1, jg_m1L, nI_add, lN_add, pk_mul, jg_sub, jg_subM, jg_addM, jg_addM', jg_negM, jt_in, jt_ix, jt_bi, jt_bl, jt_bv, jt_lt, jg_dT, jg_dF, jt_c, jt_cd, ru_I, ru_L, jg_leI, jg_ltI, jg_eqI, jg_M1, jg_M2, jg_M3, jg_M4, jg_M5, jg_M6, jg_ltT, jg_ltF, jg_leT, jg_leF, jg_eqT, jg_eqF, cond_true, cond_false, ne_eq, not_true_eq_false, not_false_eq_true, decide_true, decide_false, if_true, if_false, and_true, true_and, and_false, false_and, or_true, true_or, or_false, false_or, Nat.reduceEqDiff, reduceIte, Nat.reduceMul, Nat.reduceAdd, Nat.reduceSub, Nat.add_zero, Nat.zero_add, Nat.mul_zero, eq_self_iff_true, jg_not_lt, jg_not_le, h1, hb]
  · rw [if_neg c]
    simp (disch := omega) only [jg_lit, jg_litL, jg_m1, jg_m1L, nI_add, lN_add, pk_mul, jg_sub, jg_subM, jg_addM, jg_addM', jg_negM, jt_in, jt_ix, jt_bi, jt_bl, jt_bv, jt_lt, jg_dT, jg_dF, jt_c, jt_cd, ru_I, ru_L, jg_leI, jg_ltI, jg_eqI, jg_M1, jg_M2, jg_M3, jg_M4, jg_M5, jg_M6, jg_ltT, jg_ltF, jg_leT, jg_leF, jg_eqT, jg_eqF, cond_true, cond_false, ne_eq, not_true_eq_false, not_false_eq_true, decide_true, decide_false, if_true, if_false, and_true, true_and, and_false, false_and, or_true, true_or, or_false, false_or, Nat.reduceEqDiff, reduceIte, Nat.reduceMul, Nat.reduceAdd, Nat.reduceSub, Nat.add_zero, Nat.zero_add, Nat.mul_zero, eq_self_iff_true, jg_not_lt, jg_not_le, h1]
theorem sx_byT {T : Tb} {m : jm_M} (h : xTb T m) {k : Nat} (hk : k < T.1) (d : Nat) : jm_sem false (d + 1) jn_X6_byteAt [.inr (.inr (.inl (5, 0, 0))), .inl (nI k)] m = some (.inl (nI (T.2 k)), m) := by
  rw [sx_by h (by omega), if_pos hk]
theorem sx_isSmall {c : Nat} (h : c < 256) (d : Nat) (m : jm_M) : jm_sem false (d + 1) jn_X6_isSmall [.inl (nI c)] m = some (.inl (if isSm c then nI 1 else nI 0), m) := by
  rw [e_X6_isSmall]
  unfold isSm
  by_cases c1 : 97 ≤ c
  · by_cases c2 : c ≤ 122
    · rw [decide_eq_true ⟨c1, c2⟩]; simp (disch := omega) only [jg_lit, jg_litL, jg_m1, jg_m1L, nI_add, lN_add, pk_mul, jg_sub, jg_subM, jg_addM, jg_addM', jg_negM, jt_in, jt_ix, jt_bi, jt_bl, jt_bv, jt_lt, jg_dT, jg_dF, jt_c, jt_cd, ru_I, ru_L, jg_leI, jg_ltI, jg_eqI, jg_M1, jg_M2, jg_M3, jg_M4, jg_M5, jg_M6, jg_ltT, jg_ltF, jg_leT, jg_leF, jg_eqT, jg_eqF, cond_true, cond_false, ne_eq, not_true_eq_false, not_false_eq_true, decide_true, decide_false, if_true, if_false, and_true, true_and, and_false, false_and, or_true, true_or, or_false, false_or, Nat.reduceEqDiff, reduceIte, Nat.reduceMul, Nat.reduceAdd, Nat.reduceSub, Nat.add_zero, Nat.zero_add, Nat.mul_zero, eq_self_iff_true, jg_not_lt, jg_not_le]
    · rw [decide_eq_false (fun z => c2 z.2)]; simp (disch := omega) only [jg_lit, jg_litL, jg_m1, jg_m1L, nI_add, lN_add, pk_mul, jg_sub, jg_subM, jg_addM, jg_addM', jg_negM, jt_in, jt_ix, jt_bi, jt_bl, jt_bv, jt_lt, jg_dT, jg_dF, jt_c, jt_cd, ru_I, ru_L, jg_leI, jg_ltI, jg_eqI, jg_M1, jg_M2, jg_M3, jg_M4, jg_M5, jg_M6, jg_ltT, jg_ltF, jg_leT, jg_leF, jg_eqT, jg_eqF, cond_true, cond_false, ne_eq, not_true_eq_false, not_false_eq_true, decide_true, decide_false, if_true, if_false, and_true, true_and, and_false, false_and, or_true, true_or, or_false, false_or, Nat.reduceEqDiff, reduceIte, Nat.reduceMul, Nat.reduceAdd, Nat.reduceSub, Nat.add_zero, Nat.zero_add, Nat.mul_zero, eq_self_iff_true, jg_not_lt, jg_not_le, Bool.false_eq_true]
  · rw [decide_eq_false (fun z => c1 z.1)]; simp (disch := omega) only [jg_lit, jg_litL, jg_m1, jg_m1L, nI_add, lN_add, pk_mul, jg_sub, jg_subM, jg_addM, jg_addM', jg_negM, jt_in, jt_ix, jt_bi, jt_bl, jt_bv, jt_lt, jg_dT, jg_dF, jt_c, jt_cd, ru_I, ru_L, jg_leI, jg_ltI, jg_eqI, jg_M1, jg_M2, jg_M3, jg_M4, jg_M5, jg_M6, jg_ltT, jg_ltF, jg_leT, jg_leF, jg_eqT, jg_eqF, cond_true, cond_false, ne_eq, not_true_eq_false, not_false_eq_true, decide_true, decide_false, if_true, if_false, and_true, true_and, and_false, false_and, or_true, true_or, or_false, false_or, Nat.reduceEqDiff, reduceIte, Nat.reduceMul, Nat.reduceAdd, Nat.reduceSub, Nat.add_zero, Nat.zero_add, Nat.mul_zero, eq_self_iff_true, jg_not_lt, jg_not_le, Bool.false_eq_true]
theorem sx_isDigit {c : Nat} (h : c < 256) (d : Nat) (m : jm_M) : jm_sem false (d + 1) jn_X6_isDigit [.inl (nI c)] m = some (.inl (if isDg c then nI 1 else nI 0), m) := by
  rw [e_X6_isDigit]
  unfold isDg
  by_cases c1 : 48 ≤ c
  · by_cases c2 : c ≤ 57
    · rw [decide_eq_true ⟨c1, c2⟩]; simp (disch := omega) only [jg_lit, jg_litL, jg_m1, jg_m1L, nI_add, lN_add, pk_mul, jg_sub, jg_subM, jg_addM, jg_addM', jg_negM, jt_in, jt_ix, jt_bi, jt_bl, jt_bv, jt_lt, jg_dT, jg_dF, jt_c, jt_cd, ru_I, ru_L, jg_leI, jg_ltI, jg_eqI, jg_M1, jg_M2, jg_M3, jg_M4, jg_M5, jg_M6, jg_ltT, jg_ltF, jg_leT, jg_leF, jg_eqT, jg_eqF, cond_true, cond_false, ne_eq, not_true_eq_false, not_false_eq_true, decide_true, decide_false, if_true, if_false, and_true, true_and, and_false, false_and, or_true, true_or, or_false, false_or, Nat.reduceEqDiff, reduceIte, Nat.reduceMul, Nat.reduceAdd, Nat.reduceSub, Nat.add_zero, Nat.zero_add, Nat.mul_zero, eq_self_iff_true, jg_not_lt, jg_not_le]
    · rw [decide_eq_false (fun z => c2 z.2)]; simp (disch := omega) only [jg_lit, jg_litL, jg_m1, jg_m1L, nI_add, lN_add, pk_mul, jg_sub, jg_subM, jg_addM, jg_addM', jg_negM, jt_in, jt_ix, jt_bi, jt_bl, jt_bv, jt_lt, jg_dT, jg_dF, jt_c, jt_cd, ru_I, ru_L, jg_leI, jg_ltI, jg_eqI, jg_M1, jg_M2, jg_M3, jg_M4, jg_M5, jg_M6, jg_ltT, jg_ltF, jg_leT, jg_leF, jg_eqT, jg_eqF, cond_true, cond_false, ne_eq, not_true_eq_false, not_false_eq_true, decide_true, decide_false, if_true, if_false, and_true, true_and, and_false, false_and, or_true, true_or, or_false, false_or, Nat.reduceEqDiff, reduceIte, Nat.reduceMul, Nat.reduceAdd, Nat.reduceSub, Nat.add_zero, Nat.zero_add, Nat.mul_zero, eq_self_iff_true, jg_not_lt, jg_not_le, Bool.false_eq_true]
  · rw [decide_eq_false (fun z => c1 z.1)]; simp (disch := omega) only [jg_lit, jg_litL, jg_m1, jg_m1L, nI_add, lN_add, pk_mul, jg_sub, jg_subM, jg_addM, jg_addM', jg_negM, jt_in, jt_ix, jt_bi, jt_bl, jt_bv, jt_lt, jg_dT, jg_dF, jt_c, jt_cd, ru_I, ru_L, jg_leI, jg_ltI, jg_eqI, jg_M1, jg_M2, jg_M3, jg_M4, jg_M5, jg_M6, jg_ltT, jg_ltF, jg_leT, jg_leF, jg_eqT, jg_eqF, cond_true, cond_false, ne_eq, not_true_eq_false, not_false_eq_true, decide_true, decide_false, if_true, if_false, and_true, true_and, and_false, false_and, or_true, true_or, or_false, false_or, Nat.reduceEqDiff, reduceIte, Nat.reduceMul, Nat.reduceAdd, Nat.reduceSub, Nat.add_zero, Nat.zero_add, Nat.mul_zero, eq_self_iff_true, jg_not_lt, jg_not_le, Bool.false_eq_true]
/-! ===== strings ===== -/
theorem s_len {i n : Nat} (h : (jm_st.getD i []).length = n) (d : Nat) (m : jm_M) : jm_sem false (d + 2) jn_J0_length_8abf5 [.inr (.inr (.inl (60, i, 0)))] m = some (.inl (nI n), m) := by
  rw [e_J0_length_8abf5, e_J0_coder_7d493, jt_bi, h]
  have : nI n >>> (0 &&& 31) = nI n := by
    show nI n >>> (0 : Int32) = nI n
    exact Int32.shiftRight_zero
  exact congrArg (fun x => some (Sum.inl x, m)) this
theorem ch_0 : ∀ c, c < 128 → (((nI c &&& (255 : Int32)).toUInt32 % 65536).toInt32) = nI c ∧ (((((nI c) &&& (255 : Int32)).toUInt32 % 65536).toInt32).toUInt32.toUInt16.toUInt32.toInt32 = (((nI c) &&& (255 : Int32)).toUInt32 % 65536).toInt32) ∧ (nI c).toUInt32.toUInt16.toUInt32.toInt32 = nI c := by decide +kernel
theorem s_char {i n : Nat} (hn : (jm_st.getD i []).length = n) (h31 : n < 2 ^ 31) {k : Nat} (hk : k < n) {c : Nat} (hc : (jm_st.getD i []).getD k 0 = nI c) (h128 : c < 128) (d : Nat) (m : jm_M) : jm_sem false (d + 5) jn_J0_charAt_5068e [.inr (.inr (.inl (60, i, 0))), .inl (nI k)] m = some (.inl (nI c), m) := by
  obtain ⟨c1, c2, c3⟩ := ch_0 c h128
  have ck : jm_sem false (d + 3) jn_J0_checkIndex_df160 [.inl (nI k), .inl (Int32.ofNat n)] m = some (jm_j, m) := by
    rw [e_J0_checkIndex_df160, e_J3_checkIndex_8e157, show (Int32.ofNat n : Int32) = nI n from rfl, show decide (nI k < 0) = false from decide_eq_false (nI_nlt (b := 0) (Nat.zero_le k) (by omega)), cond_false, jt_dt (nI_lt hk h31), cond_true, jt_bi]
  rw [e_J0_charAt_5068e, e_J0_isLatin1_aae02, jt_bi, show decide ((1 : Int32) = 0) = false by decide, cond_false, e_J1_charAt_3b067, hn, ck, jt_bv, jt_in hk h31, cond_true, jt_ix (by omega), hc, decide_eq_true c2, cond_true, jt_bi, c1, decide_eq_true c3, cond_true]
def ix6 (x : Int32) : Nat → Nat → Int32
  | 0, _ => jM
  | r + 1, k => if (jm_st.getD 1 []).getD k 0 = x then nI k else ix6 x r (k + 1)
theorem s_ixc (z1 z2 : jm_V) (x : Int32) (d : Nat) (m : jm_M) : ∀ (r k : Nat), k + r = 6 → jm_ev false d 15 1 jc_J1_indexOfChar_4cfef 7 [.inr (.inr (.inl (61, 1, 0))), z1, z2, .inl (nI 6), .inl x, .inl (nI k)] [] m = some (.inl (ix6 x r k), m)
  | 0, k, hr => by
    rw [l_J1_indexOfChar_4cfef_7]
    simp (disch := omega) only [jg_lit, jg_litL, jg_m1, jg_m1L, nI_add, lN_add, pk_mul, jg_sub, jg_subM, jg_addM, jg_addM', jg_negM, jt_in, jt_ix, jt_bi, jt_bl, jt_bv, jt_lt, jg_dT, jg_dF, jt_c, jt_cd, ru_I, ru_L, jg_leI, jg_ltI, jg_eqI, jg_M1, jg_M2, jg_M3, jg_M4, jg_M5, jg_M6, jg_ltT, jg_ltF, jg_leT, jg_leF, jg_eqT, jg_eqF, cond_true, cond_false, ne_eq, not_true_eq_false, not_false_eq_true, decide_true, decide_false, if_true, if_false, and_true, true_and, and_false, false_and, or_true, true_or, or_false, false_or, Nat.reduceEqDiff, reduceIte, Nat.reduceMul, Nat.reduceAdd, Nat.reduceSub, Nat.add_zero, Nat.zero_add, Nat.mul_zero, eq_self_iff_true, jg_not_lt, jg_not_le]
    rfl
  | r + 1, k, hr => by
    rw [l_J1_indexOfChar_4cfef_7, st_len1]
    unfold ix6
    by_cases c : (jm_st.getD 1 []).getD k 0 = x
    · rw [if_pos c]
      have c' : ((jm_st.getD 1 []).getD k (nI 0) = x) = True := eq_true c
      simp (disch := omega) only [jg_lit, jg_litL, jg_m1, jg_m1L, nI_add, lN_add, pk_mul, jg_sub, jg_subM, jg_addM, jg_addM', jg_negM, jt_in, jt_ix, jt_bi, jt_bl, jt_bv, jt_lt, jg_dT, jg_dF, jt_c, jt_cd, ru_I, ru_L, jg_leI, jg_ltI, jg_eqI, jg_M1, jg_M2, jg_M3, jg_M4, jg_M5, jg_M6, jg_ltT, jg_ltF, jg_leT, jg_leF, jg_eqT, jg_eqF, cond_true, cond_false, ne_eq, not_true_eq_false, not_false_eq_true, decide_true, decide_false, if_true, if_false, and_true, true_and, and_false, false_and, or_true, true_or, or_false, false_or, Nat.reduceEqDiff, reduceIte, Nat.reduceMul, Nat.reduceAdd, Nat.reduceSub, Nat.add_zero, Nat.zero_add, Nat.mul_zero, eq_self_iff_true, jg_not_lt, jg_not_le, c']
    · rw [if_neg c]
      have c' : ((jm_st.getD 1 []).getD k (nI 0) = x) = False := eq_false c
      simp (disch := omega) only [jg_lit, jg_litL, jg_m1, jg_m1L, nI_add, lN_add, pk_mul, jg_sub, jg_subM, jg_addM, jg_addM', jg_negM, jt_in, jt_ix, jt_bi, jt_bl, jt_bv, jt_lt, jg_dT, jg_dF, jt_c, jt_cd, ru_I, ru_L, jg_leI, jg_ltI, jg_eqI, jg_M1, jg_M2, jg_M3, jg_M4, jg_M5, jg_M6, jg_ltT, jg_ltF, jg_leT, jg_leF, jg_eqT, jg_eqF, cond_true, cond_false, ne_eq, not_true_eq_false, not_false_eq_true, decide_true, decide_false, if_true, if_false, and_true, true_and, and_false, false_and, or_true, true_or, or_false, false_or, Nat.reduceEqDiff, reduceIte, Nat.reduceMul, Nat.reduceAdd, Nat.reduceSub, Nat.add_zero, Nat.zero_add, Nat.mul_zero, eq_self_iff_true, jg_not_lt, jg_not_le, c']
      exact s_ixc z1 z2 x d m r (k + 1) (by omega)
theorem sg_0 : ∀ c, c < 256 → ((nI c).toUInt32 % 65536).toInt32 = nI c ∧ (ix6 ((nI c).toInt8.toInt32) 6 0 < 0 ↔ isSg c = false) := by decide +kernel
theorem s_sign {c : Nat} (h : c < 256) (d : Nat) (m : jm_M) : jm_sem false (d + 5) jn_J0_indexOf_0f7a4 [.inr (.inr (.inl (60, 1, 0))), .inl (((nI c).toUInt32 % 65536).toInt32)] m = some (.inl (ix6 ((nI c).toInt8.toInt32) 6 0), m) := by
  rw [(sg_0 c h).1, e_J0_indexOf_0f7a4, e_J0_indexOf_7cf53, e_J0_isLatin1_aae02, jt_bi, show decide ((1 : Int32) = 0) = false by decide, cond_false, s_len st_len1, jt_bi, e_J1_indexOf_4cfef, e_J1_canEncode_9a6ad, show decide (nI c < 0) = false from decide_eq_false (nI_nlt (b := 0) (Nat.zero_le c) (by omega)), cond_false, jt_df (show ¬ (255 : Int32) < nI c from nI_nlt (a := 255) (by omega) (by omega)), cond_false, jt_bi, show decide ((1 : Int32) ≠ 0) = true by decide, cond_true, st_len1]
  rw [show (if (0 : Int32) < (0 : Int32) then (0 : Int32) else (0 : Int32)) = nI 0 from rfl, show (if (Int32.ofNat 6) < nI 6 then (Int32.ofNat 6) else nI 6) = nI 6 from rfl, jt_dt (show nI 0 < nI 6 by decide), cond_true, e_J1_indexOfChar_4cfef, s_ixc _ _ _ _ _ 6 0 rfl]
  rfl
/-! ===== keys ===== -/
def kyF (v : Int64) : List Nat → Nat → Nat → Int32
  | [], _, _ => jM
  | c :: t, f, h => if c = 32 then (if lN h = v then nI f else kyF v t (f + 1) 0) else kyF v t f (h * 32 + (c - 96))
theorem rsv_len : rsv.length = 127 := by decide +kernel
theorem rsv_ok : ∀ k, k < 127 → rsv.getD k 0 = 32 ∨ (97 ≤ rsv.getD k 0 ∧ rsv.getD k 0 ≤ 122) := by decide +kernel
theorem sx_key_loop (v : Int64) (d : Nat) (m : jm_M) : ∀ (r k f h : Nat) (z6 : jm_V), k + r = 127 → jm_ev false (d + 5) 5 1 jc_X6_keyOf 7 [.inr (.inl v), jm_j, .inl (nI f), .inr (.inl (lN h)), jm_j, .inl (nI k), z6] [] m = some (.inl (kyF v (rsv.drop k) f h), m)
  | 0, k, f, h, z6, hr => by
    have : k = 127 := by omega
    subst this
    have sl := s_len st_len0 (d + 3) m
    rw [l_X6_keyOf_7]
    simp (disch := omega) only [jg_lit, jg_litL, jg_m1, jg_m1L, nI_add, lN_add, pk_mul, jg_sub, jg_subM, jg_addM, jg_addM', jg_negM, jt_in, jt_ix, jt_bi, jt_bl, jt_bv, jt_lt, jg_dT, jg_dF, jt_c, jt_cd, ru_I, ru_L, jg_leI, jg_ltI, jg_eqI, jg_M1, jg_M2, jg_M3, jg_M4, jg_M5, jg_M6, jg_ltT, jg_ltF, jg_leT, jg_leF, jg_eqT, jg_eqF, cond_true, cond_false, ne_eq, not_true_eq_false, not_false_eq_true, decide_true, decide_false, if_true, if_false, and_true, true_and, and_false, false_and, or_true, true_or, or_false, false_or, Nat.reduceEqDiff, reduceIte, Nat.reduceMul, Nat.reduceAdd, Nat.reduceSub, Nat.add_zero, Nat.zero_add, Nat.mul_zero, eq_self_iff_true, jg_not_lt, jg_not_le, sl]
    rfl
  | r + 1, k, f, h, z6, hr => by
    have sl := s_len st_len0 (d + 3) m
    obtain ⟨c1, c2⟩ := st_0 k (by omega)
    have sc := s_char st_len0 (by decide) (show k < 127 by omega) c1 c2 d m
    have dr : rsv.drop k = rsv.getD k 0 :: rsv.drop (k + 1) := by
      have hk : k < rsv.length := by rw [rsv_len]; omega
      rw [List.drop_eq_getElem_cons hk]
      simp only [List.getD, List.getElem?_eq_getElem hk, Option.getD_some]
    rw [dr]
    generalize hc : rsv.getD k 0 = c at *
    have ok := rsv_ok k (by omega)
    rw [hc] at ok
    rw [l_X6_keyOf_7]
    by_cases e : c = 32
    · subst e
      have e' : kyF v (32 :: rsv.drop (k + 1)) f h = if lN h = v then nI f else kyF v (rsv.drop (k + 1)) (f + 1) 0 := rfl
      rw [e']
      by_cases e2 : lN h = v
      · have e2' : (lN h = v) = True := eq_true e2
        rw [if_pos e2]
        simp (disch := omega) only [jg_lit, jg_litL, jg_m1, jg_m1L, nI_add, lN_add, pk_mul, jg_sub, jg_subM, jg_addM, jg_addM', jg_negM, jt_in, jt_ix, jt_bi, jt_bl, jt_bv, jt_lt, jg_dT, jg_dF, jt_c, jt_cd, ru_I, ru_L, jg_leI, jg_ltI, jg_eqI, jg_M1, jg_M2, jg_M3, jg_M4, jg_M5, jg_M6, jg_ltT, jg_ltF, jg_leT, jg_leF, jg_eqT, jg_eqF, cond_true, cond_false, ne_eq, not_true_eq_false, not_false_eq_true, decide_true, decide_false, if_true, if_false, and_true, true_and, and_false, false_and, or_true, true_or, or_false, false_or, Nat.reduceEqDiff, reduceIte, Nat.reduceMul, Nat.reduceAdd, Nat.reduceSub, Nat.add_zero, Nat.zero_add, Nat.mul_zero, eq_self_iff_true, jg_not_lt, jg_not_le, sl, sc, lc_eq, e2']
      · have e2' : (lN h = v) = False := eq_false e2
        rw [if_neg e2]
        simp (disch := omega) only [jg_lit, jg_litL, jg_m1, jg_m1L, nI_add, lN_add, pk_mul, jg_sub, jg_subM, jg_addM, jg_addM', jg_negM, jt_in, jt_ix, jt_bi, jt_bl, jt_bv, jt_lt, jg_dT, jg_dF, jt_c, jt_cd, ru_I, ru_L, jg_leI, jg_ltI, jg_eqI, jg_M1, jg_M2, jg_M3, jg_M4, jg_M5, jg_M6, jg_ltT, jg_ltF, jg_leT, jg_leF, jg_eqT, jg_eqF, cond_true, cond_false, ne_eq, not_true_eq_false, not_false_eq_true, decide_true, decide_false, if_true, if_false, and_true, true_and, and_false, false_and, or_true, true_or, or_false, false_or, Nat.reduceEqDiff, reduceIte, Nat.reduceMul, Nat.reduceAdd, Nat.reduceSub, Nat.add_zero, Nat.zero_add, Nat.mul_zero, eq_self_iff_true, jg_not_lt, jg_not_le, sl, sc, lc_eq, e2']
        exact sx_key_loop v d m r (k + 1) (f + 1) 0 _ (by omega)
    · have ok := ok.resolve_left e
      have e' : kyF v (c :: rsv.drop (k + 1)) f h = kyF v (rsv.drop (k + 1)) f (h * 32 + (c - 96)) := if_neg e
      have nl : (nI c).toInt64 = lN c := nI_l (by omega)
      have ar : lN (h * 32 + c) - lN 97 + lN 1 = lN (h * 32 + (c - 96)) := by
        rw [lN_sub (by omega), lN_add]
        exact congrArg lN (by omega)
      have ih := sx_key_loop v d m r (k + 1) f (h * 32 + (c - 96)) (.inl (nI c)) (by omega)
      rw [e', ← ih]
      simp (disch := omega) only [jg_lit, jg_litL, jg_m1, jg_m1L, nI_add, lN_add, pk_mul, jg_sub, jg_subM, jg_addM, jg_addM', jg_negM, jt_in, jt_ix, jt_bi, jt_bl, jt_bv, jt_lt, jg_dT, jg_dF, jt_c, jt_cd, ru_I, ru_L, jg_leI, jg_ltI, jg_eqI, jg_M1, jg_M2, jg_M3, jg_M4, jg_M5, jg_M6, jg_ltT, jg_ltF, jg_leT, jg_leF, jg_eqT, jg_eqF, cond_true, cond_false, ne_eq, not_true_eq_false, not_false_eq_true, decide_true, decide_false, if_true, if_false, and_true, true_and, and_false, false_and, or_true, true_or, or_false, false_or, Nat.reduceEqDiff, reduceIte, Nat.reduceMul, Nat.reduceAdd, Nat.reduceSub, Nat.add_zero, Nat.zero_add, Nat.mul_zero, eq_self_iff_true, jg_not_lt, jg_not_le, sl, sc, nl, lN_mul, ar]
def kyL (v : Int64) : List (List Nat) → Nat → Int32
  | [], _ => jM
  | w :: t, i => if lN (enc w) = v then nI i else kyL v t (i + 1)
theorem kyF_w (v : Int64) (t : List Nat) (f : Nat) : ∀ (w : List Nat) (h : Nat), (∀ c ∈ w, 1 ≤ c ∧ c < 32) → kyF v (w.map (fun c => c + 96) ++ 32 :: t) f h = if lN (w.foldl (fun v c => 32 * v + c) h) = v then nI f else kyF v t (f + 1) 0
  | [], h, _ => rfl
  | c :: w, h, hw => by
    have hc := hw c List.mem_cons_self
    have e : kyF v ((c :: w).map (fun c => c + 96) ++ 32 :: t) f h = kyF v (w.map (fun c => c + 96) ++ 32 :: t) f (h * 32 + (c + 96 - 96)) := if_neg (show ¬ c + 96 = 32 by omega)
    rw [e, kyF_w v t f w _ (fun c hc => hw c (List.mem_cons_of_mem _ hc)), show h * 32 + (c + 96 - 96) = 32 * h + c by omega]
    rfl
theorem kyF_K (v : Int64) : ∀ (K : List (List Nat)) (f : Nat), (∀ w ∈ K, w.length ≤ 8 ∧ ∀ c ∈ w, 1 ≤ c ∧ c < 32) → kyF v (K.flatMap (fun w => w.map (fun c => c + 96) ++ [32])) f 0 = kyL v K f
  | [], f, _ => rfl
  | w :: K, f, h => by
    rw [List.flatMap_cons, List.append_assoc, List.singleton_append, kyF_w v _ f w 0 (h w List.mem_cons_self).2, kyF_K v K (f + 1) (fun w hw => h w (List.mem_cons_of_mem _ hw))]
    rfl
theorem rsv_K : rsv = keysX.flatMap (fun w => w.map (fun c => c + 96) ++ [32]) := by decide +kernel
theorem keysX_ok' : ∀ w ∈ keysX, w.length ≤ 8 ∧ ∀ c ∈ w, 1 ≤ c ∧ c < 32 := by decide +kernel
theorem kyF_L (v : Int64) : kyF v rsv 0 0 = kyL v keysX 0 := by rw [rsv_K]; exact kyF_K v keysX 0 keysX_ok'
theorem keysX_ok : ∀ w ∈ keysX, w.length ≤ 8 ∧ ∀ c ∈ w, 1 ≤ c ∧ c < 32 := by decide +kernel
theorem lN_eq40 {a b : Nat} (ha : a < 2 ^ 40) (hb : b < 2 ^ 40) : (lN a = lN b) ↔ a = b := by
  rw [← cmp_eq (show a < 2 ^ 62 by omega) (show b < 2 ^ 62 by omega)]
  have := lc_eq (lN a) (lN b)
  exact (iff_of_eq this).symm
theorem kyL_ix {ls : List Nat} (hl : okL ls) (h8 : ls.length ≤ 8) : ∀ (K : List (List Nat)) (i : Nat), (∀ w ∈ K, w.length ≤ 8 ∧ ∀ c ∈ w, 1 ≤ c ∧ c < 32) → kyL (lN (enc ls)) K i = jpl (ixOf ls K i)
  | [], i, _ => rfl
  | w :: t, i, h => by
    obtain ⟨h1, h2⟩ := h w List.mem_cons_self
    unfold kyL ixOf
    by_cases c : w = ls
    · rw [if_pos c, if_pos (by rw [c])]; rfl
    · rw [if_neg c, if_neg (fun z => c ((enc_inj h2 hl).mp ((lN_eq40 (enc_40 h2 h1) (enc_40 hl h8)).mp z)))]
      exact kyL_ix hl h8 t (i + 1) (fun w hw => h w (List.mem_cons_of_mem _ hw))
theorem sx_keyOf {ls : List Nat} (hl : okL ls) (h8 : ls.length ≤ 8) (d : Nat) (m : jm_M) : jm_sem false (d + 6) jn_X6_keyOf [.inr (.inl (lN (enc ls)))] m = some (.inl (jpl (keyX ls)), m) := by
  rw [e_X6_keyOf]
  have := sx_key_loop (lN (enc ls)) d m 127 0 0 0 jm_j rfl
  rw [List.drop_zero, kyF_L, kyL_ix hl h8 keysX 0 keysX_ok] at this
  exact this
