/-! ===== a LAW read (class): what one piece asks ===== -/
def xLc (C : List Ck) (m : jm_M) : Prop := m.1 13 1 0 4 = nI C.length ∧ xC C 1 m
def xLe (m : jm_M) : Prop := ∃ c : Nat, c ≤ 150 ∧ m.1 13 1 0 4 = nI c
def PEm (K i _j k : Nat) : Prop := (K = 13 ∧ i = 1 ∧ k = 4) ∨ (i = 1 ∧ (K = 14 ∨ K = 15))
def PLs (K i _j k : Nat) : Prop := (K = 5 ∧ 2 ≤ k ∧ k ≤ 9) ∨ (K = 13 ∧ i = 1 ∧ k = 4) ∨ (i = 1 ∧ (K = 14 ∨ K = 15))
theorem PEm_s {m m' : jm_M} (f : fr PEm m m') : fr PLs m m' := f.wk (fun K i j k z => by unfold PEm at z; unfold PLs; omega)
theorem P5x_s {m m' : jm_M} (f : fr P5x m m') : fr PLs m m' := f.wk (fun K i j k z => by unfold P5x at z; unfold PLs; omega)
theorem P5_s {m m' : jm_M} (f : fr P5 m m') : fr PLs m m' := P5x_s (P5_x f)
theorem xF_Em {T : Tb} {a : Nat} {m m' : jm_M} (h : xF T a m) (f : fr PEm m m') : xF T a m' := xF_PV h f (fun K i j k z => by unfold PEm at z; omega)
theorem xE_Em {e : Ft} {m m' : jm_M} (h : xE e m) (f : fr PEm m m') : xE e m' := xE_fr h f (fun k z => by unfold PEm at z; omega)
theorem xLc_k {C : List Ck} {m m' : jm_M} (h : xLc C m) (hf : ∀ K i j k, PEm K i j k → m'.1 K i j k = m.1 K i j k) : xLc C m' := ⟨by rw [hf 13 1 0 4 (by unfold PEm; omega)]; exact h.1, fun k hk => by rw [hf 14 1 0 k (by unfold PEm; omega), hf 15 1 0 k (by unfold PEm; omega)]; exact h.2 k hk⟩
theorem xLc_5 {C : List Ck} {m m' : jm_M} (h : xLc C m) (f : fr P5x m m') : xLc C m' := xLc_k h (fun K i j k hk => (f K i j k (by unfold PEm at hk; unfold P5x; omega)).1)
theorem xLe_5 {m m' : jm_M} (h : xLe m) (f : fr P5x m m') : xLe m' := by
  obtain ⟨c, h1, h2⟩ := h
  exact ⟨c, h1, by rw [(f 13 1 0 4 (by unfold P5x; omega)).1]; exact h2⟩
theorem xLc_e {C : List Ck} {m : jm_M} (h : xLc C m) (hl : C.length ≤ 150) : xLe m := ⟨C.length, hl, h.1⟩
theorem gC_lo {C : List Ck} {c : Ck} {k : Nat} (h : k < C.length) : (C ++ [c]).getD k (0, 0) = C.getD k (0, 0) := by
  simp only [List.getD, List.getElem?_append_left h]
theorem gC_hi (C : List Ck) (c : Ck) : (C ++ [c]).getD C.length (0, 0) = c := by
  simp [List.getD]
theorem sx_emit {C : List Ck} {m : jm_M} (h : xLc C m) (hl : C.length < 150) (c : Ck) (d : Nat) : ∃ m', jm_sem false (d + 1) jn_X2_emit [.inr (.inr (.inl (13, 1, 0))), .inl (nI c.1), .inl (nI (wantX c))] m = some (jm_j, m') ∧ xLc (C ++ [c]) m' ∧ fr PEm m m' := by
  obtain ⟨h4, hC⟩ := h
  refine ⟨jm_sI (jm_sI (jm_sI m 14 1 0 C.length (nI c.1)) 15 1 0 C.length (nI (wantX c))) 13 1 0 4 (nI (C.length + 1)), ?_, ⟨?_, fun k hk => ?_⟩, fr_sI (fr_sI (fr_sI .rf (by unfold PEm; omega)) (by unfold PEm; omega)) (by unfold PEm; omega)⟩
  · rw [e_X2_emit]; simp (disch := omega) only [jg_lit, jg_litL, jg_m1, jg_m1L, nI_add, lN_add, pk_mul, jg_sub, jg_subM, jg_addM, jg_addM', jg_negM, jt_in, jt_ix, jt_bi, jt_bl, jt_bv, jt_lt, jg_dT, jg_dF, jt_c, jt_cd, ru_I, ru_L, jg_leI, jg_ltI, jg_eqI, jg_M1, jg_M2, jg_M3, jg_M4, jg_M5, jg_M6, jg_ltT, jg_ltF, jg_leT, jg_leF, jg_eqT, jg_eqF, cond_true, cond_false, ne_eq, not_true_eq_false, not_false_eq_true, decide_true, decide_false, if_true, if_false, and_true, true_and, and_false, false_and, or_true, true_or, or_false, false_or, Nat.reduceEqDiff, reduceIte, Nat.reduceMul, Nat.reduceAdd, Nat.reduceSub, Nat.add_zero, Nat.zero_add, Nat.mul_zero, eq_self_iff_true, jg_not_lt, jg_not_le, h4]
  · rw [rd_II, if_pos ⟨rfl, rfl, rfl, rfl⟩, List.length_append, List.length_singleton]
  · rw [List.length_append, List.length_singleton] at hk
    by_cases e : k = C.length
    · subst e
      rw [gC_hi]
      constructor
      · rw [rd_II, if_neg (by omega), rd_II, if_neg (by omega), rd_II, if_pos ⟨rfl, rfl, rfl, rfl⟩]
      · rw [rd_II, if_neg (by omega), rd_II, if_pos ⟨rfl, rfl, rfl, rfl⟩]
    · rw [gC_lo (by omega)]
      constructor
      · rw [rd_II, if_neg (by omega), rd_II, if_neg (by omega), rd_II, if_neg (by omega)]
        exact (hC k (by omega)).1
      · rw [rd_II, if_neg (by omega), rd_II, if_neg (by omega), rd_II, if_neg (by omega)]
        exact (hC k (by omega)).2
theorem sx_emitE {m : jm_M} (h : xLe m) (x y : Int32) (d : Nat) : ∃ m', jm_sem false (d + 1) jn_X2_emit [.inr (.inr (.inl (13, 1, 0))), .inl x, .inl y] m = some (jm_j, m') ∧ xLe m' ∧ fr PEm m m' := by
  obtain ⟨c, hc, h4⟩ := h
  by_cases e : c = 150
  · refine ⟨m, ?_, ⟨c, hc, h4⟩, .rf⟩
    rw [e_X2_emit]; simp (disch := omega) only [jg_lit, jg_litL, jg_m1, jg_m1L, nI_add, lN_add, pk_mul, jg_sub, jg_subM, jg_addM, jg_addM', jg_negM, jt_in, jt_ix, jt_bi, jt_bl, jt_bv, jt_lt, jg_dT, jg_dF, jt_c, jt_cd, ru_I, ru_L, jg_leI, jg_ltI, jg_eqI, jg_M1, jg_M2, jg_M3, jg_M4, jg_M5, jg_M6, jg_ltT, jg_ltF, jg_leT, jg_leF, jg_eqT, jg_eqF, cond_true, cond_false, ne_eq, not_true_eq_false, not_false_eq_true, decide_true, decide_false, if_true, if_false, and_true, true_and, and_false, false_and, or_true, true_or, or_false, false_or, Nat.reduceEqDiff, reduceIte, Nat.reduceMul, Nat.reduceAdd, Nat.reduceSub, Nat.add_zero, Nat.zero_add, Nat.mul_zero, eq_self_iff_true, jg_not_lt, jg_not_le, h4]
  · refine ⟨jm_sI (jm_sI (jm_sI m 14 1 0 c x) 15 1 0 c y) 13 1 0 4 (nI (c + 1)), ?_, ⟨c + 1, by omega, by rw [rd_II, if_pos ⟨rfl, rfl, rfl, rfl⟩]⟩, fr_sI (fr_sI (fr_sI .rf (by unfold PEm; omega)) (by unfold PEm; omega)) (by unfold PEm; omega)⟩
    rw [e_X2_emit]; simp (disch := omega) only [jg_lit, jg_litL, jg_m1, jg_m1L, nI_add, lN_add, pk_mul, jg_sub, jg_subM, jg_addM, jg_addM', jg_negM, jt_in, jt_ix, jt_bi, jt_bl, jt_bv, jt_lt, jg_dT, jg_dF, jt_c, jt_cd, ru_I, ru_L, jg_leI, jg_ltI, jg_eqI, jg_M1, jg_M2, jg_M3, jg_M4, jg_M5, jg_M6, jg_ltT, jg_ltF, jg_leT, jg_leF, jg_eqT, jg_eqF, cond_true, cond_false, ne_eq, not_true_eq_false, not_false_eq_true, decide_true, decide_false, if_true, if_false, and_true, true_and, and_false, false_and, or_true, true_or, or_false, false_or, Nat.reduceEqDiff, reduceIte, Nat.reduceMul, Nat.reduceAdd, Nat.reduceSub, Nat.add_zero, Nat.zero_add, Nat.mul_zero, eq_self_iff_true, jg_not_lt, jg_not_le, h4]
def askF (x : Int32) : Int32 := cond (decide (x = 10)) 0 (cond (decide (x = 11)) 1 (cond (decide (x = 12)) 2 (cond (decide (x = 13)) 3 (cond (decide (x = 14)) (-1) (cond (decide (x = 15)) 4 (cond (decide (x = 16)) 5 (cond (decide (x = 17)) 6 (cond (decide (x = 18)) 7 (-1)))))))))
theorem cond_some (b : Bool) (x y : Int32) (m : jm_M) : cond b (some ((.inl x : jm_V), m)) (some ((.inl y : jm_V), m)) = some ((.inl (cond b x y) : jm_V), m) := by cases b <;> rfl
theorem askF_n : ∀ j, j < 24 → askF (nI j) = jpl (askN j) := by decide +kernel
theorem askF_0 : askF jM = jM := by decide +kernel
theorem sx_asked {T : Tb} {a : Nat} {m : jm_M} (h : xF T a m) (d : Nat) : jm_sem false (d + 1) jn_X3_askedHere [.inr (.inr (.inl (9, 0, 0)))] m = some (.inl (jpl (askK T a)), m) := by
  have h7 := h.2.2.1.2.2.2.2.1
  have e : askF (jpl (tkY T a)) = jpl (askK T a) := by
    unfold askK
    cases hy : tkY T a with
    | none => exact askF_0
    | some j => exact askF_n j (tkY_lt hy)
  rw [e_X3_askedHere, h7]
  simp only [cond_some]
  rw [← e]
  rfl
theorem sx_cmpH {T : Tb} {a : Nat} {m : jm_M} (h : xF T a m) (d : Nat) : jm_sem false (d + 2) jn_X3_comparesHere [.inr (.inr (.inl (9, 0, 0)))] m = some (.inl (jpl (cmpK T a)), m) := by
  have s1 : jm_sem false (d + 1) jn_X6_isSign [.inr (.inr (.inl (5, 0, 0))), .inl 60] m = _ := sx_sign h (c := 60) (by decide) d
  have s2 : jm_sem false (d + 1) jn_X6_isSign [.inr (.inr (.inl (5, 0, 0))), .inl 62] m = _ := sx_sign h (c := 62) (by decide) d
  have s3 : jm_sem false (d + 1) jn_X6_isSign [.inr (.inr (.inl (5, 0, 0))), .inl 61] m = _ := sx_sign h (c := 61) (by decide) d
  rw [e_X3_comparesHere, s1, jt_bi]
  unfold cmpK
  cases isSgn T 60 a with
  | true => rfl
  | false =>
    rw [if_neg (by decide), if_neg (by decide), show decide (nI 0 = 0) = true by decide, cond_true, s2, jt_bi]
    cases isSgn T 62 a with
    | true => rfl
    | false =>
      rw [if_neg (by decide), if_neg (by decide), show decide (nI 0 = 0) = true by decide, cond_true, s3, jt_bi]
      cases isSgn T 61 a with
      | true => rfl
      | false => rfl
def xRk (T : Tb) (r : Ft ⊕ (Nat × List Ck)) (m : jm_M) : Prop := match r with
  | .inl f => xE f m ∧ xLe m
  | .inr e => xF T e.1 m ∧ xLc e.2 m
theorem sx_rk26 {k : Nat} (h1 : 1 ≤ k) (h3 : k ≤ 3) (d : Nat) (m : jm_M) : jm_sem false (d + 1) jn_X3_readAsked [.inr (.inr (.inl (9, 0, 0))), .inr (.inr (.inl (13, 1, 0))), .inl (nI k)] m = jm_ev false d 3 0 jc_X3_readAsked 26 [.inr (.inr (.inl (9, 0, 0))), .inr (.inr (.inl (13, 1, 0))), .inl (nI k), jm_j] [] m := by
  rcases (show k = 1 ∨ k = 2 ∨ k = 3 by omega) with rfl | rfl | rfl
  · rw [e_X3_readAsked, show decide (nI 1 ≠ 0) = true by decide, cond_true, jt_dt (show nI 1 = 1 from rfl), cond_true]
  · rw [e_X3_readAsked, show decide (nI 2 ≠ 0) = true by decide, cond_true, jt_df (show ¬ nI 2 = 1 by decide), cond_false, jt_dt (show nI 2 = 2 from rfl), cond_true]
  · rw [e_X3_readAsked, show decide (nI 3 ≠ 0) = true by decide, cond_true, jt_df (show ¬ nI 3 = 1 by decide), cond_false, jt_df (show ¬ nI 3 = 2 by decide), cond_false, jt_df (show ¬ nI 3 ≠ 3 by decide), cond_false]
theorem nI_ne {a b : Nat} (ha : a < 2 ^ 31) (hb : b < 2 ^ 31) (h : a ≠ b) : ¬ nI a = nI b := fun z => h ((nI_eq ha hb).mp z)
theorem jpl_ne {p : Option Nat} {j : Nat} (hj : j < 2 ^ 31) (hp : ∀ q, p = some q → q < 2 ^ 31) (h : p ≠ some j) : ¬ jpl p = nI j := by
  cases p with
  | none => exact fun z => jt_m1 hj z.symm
  | some q => exact nI_ne (hp q rfl) hj (fun z => h (by rw [z]))
theorem tkY_31 {T : Tb} {a : Nat} : ∀ q, tkY T a = some q → q < 2 ^ 31 := fun q hq => by have := tkY_lt hq; omega
theorem sx_rkEnd {T : Tb} {a k x : Nat} {C : List Ck} {m : jm_M} (hk : 1 ≤ k) (h : xF T a m) (hc : xLc C m) (hl : C.length < 150) (c : Ck) (hx : c.1 = k) (hw : wantX c = x) (d : Nat) : ∃ m', jm_bv (jm_sem false (d + 8) jn_X2_emit [.inr (.inr (.inl (13, 1, 0))), .inl (nI k), .inl (nI x)] m) (fun m89 => jm_bv (jm_sem false (d + 8) jn_X6_advance [.inr (.inr (.inl (5, 0, 0)))] m89) (fun m96 => some (jm_j, m96))) = some (jm_j, m') ∧ (xF T (tkX T a) m' ∧ xLc (C ++ [c]) m') ∧ fr PLs m m' := by
  obtain ⟨m1, a1, a2, a3⟩ := sx_emit hc hl c (d + 7)
  obtain ⟨m2, b1, b2, b3⟩ := sx_advF (xF_Em h a3) d
  refine ⟨m2, ?_, ⟨b2, xLc_5 a2 (P5_x b3)⟩, (PEm_s a3).tr (P5_s b3)⟩
  rw [← hx, ← hw]
  have a1 : jm_sem false (d + 8) jn_X2_emit [.inr (.inr (.inl (13, 1, 0))), .inl (nI c.1), .inl (nI (wantX c))] m = some (jm_j, m1) := a1
  rw [a1, jt_bv, b1, jt_bv]
theorem sx_rk3 {T : Tb} {k a : Nat} {C : List Ck} {m : jm_M} (h1 : 1 ≤ k) (h3 : k ≤ 3) (h : xF T a m) (hc : xLc C m) (hl : C.length < 150) (d : Nat) : ∃ m', jm_sem false (d + 9) jn_X3_readAsked [.inr (.inr (.inl (9, 0, 0))), .inr (.inr (.inl (13, 1, 0))), .inl (nI k)] m = some (jm_j, m') ∧ xRk T (lAsk T k a C) m' ∧ fr PLs m m' := by
  have h7 := h.2.2.1.2.2.2.2.1
  have k3 := h.2.2.1.2.1
  have k5 := h.2.2.1.2.2.2.1
  have kl := tkK_le T a
  have te := tkE_le h.1
  have h9 := h.2.1.1.1
  have ln := tkL_len T a
  have bl : ∃ m', jm_sem false (d + 8) jn_X6_blameStanding [.inr (.inr (.inl (5, 0, 0)))] m = some (jm_j, m') ∧ (xE (flt T a) m' ∧ xLe m') ∧ fr PLs m m' := by
    obtain ⟨m', e1, e2, e3⟩ := sx_blSt h (d + 6)
    exact ⟨m', e1, ⟨e2, xLe_5 (xLc_e hc (by omega)) e3⟩, P5x_s e3⟩
  have st := (sx_rk26 h1 h3 (d + 8) m).trans (l_X3_readAsked_26 (d + 8) 1 (nI k) jm_j m)
  have lk : lAsk T k a C = if tkY T a = some 14 then .inr (tkX T a, C ++ [(k, 0)]) else if tkK T a = 1 ∧ (tkL T a).length = 1 then .inr (tkX T a, C ++ [(k, (tkL T a).getD 0 0)]) else .inl (flt T a) := (if_neg (by omega)).trans (if_pos h3)
  rw [lk]
  by_cases y : tkY T a = some 14
  · rw [if_pos y]
    rw [y] at h7
    have h7 : m.1 5 0 0 7 = nI 14 := h7
    obtain ⟨m', e1, e2, e3⟩ := sx_rkEnd (x := 2130466) h1 h hc hl (k, 0) rfl (by unfold wantX wantN; rw [if_pos ⟨h1, h3⟩, if_pos rfl]) d
    refine ⟨m', ?_, e2, e3⟩
    rw [h7, jt_dt (show nI 14 = 14 from rfl), cond_true, jt_df (show ¬ nI 14 ≠ 14 by decide), cond_false] at st
    exact st.trans e1
  · rw [if_neg y]
    have n7 : ¬ m.1 5 0 0 7 = 14 := by
      rw [h7]
      exact jpl_ne (j := 14) (by decide) tkY_31 y
    rw [jt_df n7, cond_false, k3] at st
    by_cases c1 : tkK T a = 1
    · rw [c1, jt_df (show ¬ nI 1 ≠ 1 by decide), cond_false, k5] at st
      by_cases c2 : (tkL T a).length = 1
      · rw [if_pos ⟨c1, c2⟩]
        have l1 : tkE T a - a = 1 := by omega
        obtain ⟨o1, o2, -⟩ := tkL_ok c1
        have mem := getD_memN (show 0 < (tkL T a).length by omega)
        have p1 := o1 _ mem
        obtain ⟨m', e1, e2, e3⟩ := sx_rkEnd (x := 2 ^ (tkL T a).getD 0 0) h1 h hc hl (k, (tkL T a).getD 0 0) rfl (by unfold wantX wantN; rw [if_pos ⟨h1, h3⟩, if_neg (by show ¬ (tkL T a).getD 0 0 = 0; omega)]) d
        refine ⟨m', ?_, e2, e3⟩
        have lt : jm_sem false (d + 8) jn_X6_letter [.inr (.inr (.inl (5, 0, 0))), .inl 0] m = _ := sx_letT h c1 (k := 0) (by omega) (d + 6)
        rw [l1, jt_df (show ¬ nI 1 ≠ 1 by decide), cond_false, jt_dt n7, cond_true, lt, jt_bi, jt_1shl _ p1.2] at st
        exact st.trans e1
      · rw [if_neg (fun z => c2 z.2)]
        obtain ⟨m', e1, e2, e3⟩ := bl
        refine ⟨m', ?_, e2, e3⟩
        rw [jt_dt (show nI (tkE T a - a) ≠ 1 from nI_ne (b := 1) (by omega) (by decide) (by omega)), cond_true, e1, jt_bv] at st
        exact st
    · rw [if_neg (fun z => c1 z.1)]
      obtain ⟨m', e1, e2, e3⟩ := bl
      refine ⟨m', ?_, e2, e3⟩
      rw [jt_dt (show nI (tkK T a) ≠ 1 from nI_ne (b := 1) (by omega) (by decide) c1), cond_true, e1, jt_bv] at st
      exact st
theorem sh2 {n : Nat} (h : n < 10000) : nI n <<< ((2 : Int32) &&& 31) = nI (n * 4) := pk_shlN _ 2 (by decide) (by omega)
theorem nI_or4 (t : Nat) {x : Nat} (h : x < 4) : nI (t * 4) ||| nI x = nI (t * 4 + x) := by
  rw [fb_orI, Nat.mul_comm t 4]
  exact congrArg nI (Nat.two_pow_add_eq_or_of_lt (i := 2) h t).symm
theorem tkN_lt {T : Tb} {a : Nat} (h : tkK T a = 2) : tkN T a < 10000 := by
  unfold tkK at h
  split at h
  · omega
  · rename_i c0
    split at h
    · omega
    · rename_i c1
      split at h
      · rename_i c2
        split at h
        · rename_i c4
          have e : tkE T a = rnT T isDg (T.1 - a) a := by
            unfold tkE
            rw [if_neg c0, if_neg c1, if_pos c2]
          have dg := (rnT_le T isDg (T.1 - a) a).2.2
          have := nm_lt (T := T) (a := a) (tkE T a - a) (fun i hi => (of_decide_eq_true (dg (a + i) (by omega) (by omega))).2)
          have p : 10 ^ (tkE T a - a) ≤ 10 ^ 4 := Nat.pow_le_pow_right (by decide) c4
          have p4 : (10 : Nat) ^ 4 = 10000 := by decide
          unfold tkN
          omega
        · omega
      · split at h <;> omega
theorem cmp99 {n : Nat} (h : n < 2 ^ 31) : (lg_cmp (lN n) 99 ≤ 0) ↔ n ≤ 99 := by
  have e : 0 < lg_cmp (lN n) 99 ↔ lN 99 < lN n := lgc_gt (lN n) (lN 99)
  rw [← Int32.not_lt]
  constructor
  · intro z
    apply Nat.le_of_not_lt
    intro y
    exact z (e.mpr ((lN_ltI (by omega) (by omega)).mpr y))
  · intro z y
    have := (lN_ltI (a := 99) (b := n) (by omega) (by omega)).mp (e.mp y)
    omega
theorem sx_rk7 {T : Tb} {k a : Nat} {C : List Ck} {m : jm_M} (h1 : 4 ≤ k) (h3 : k ≤ 7) (h : xF T a m) (hc : xLc C m) (hl : C.length < 150) (d : Nat) : ∃ m', jm_sem false (d + 9) jn_X3_readAsked [.inr (.inr (.inl (9, 0, 0))), .inr (.inr (.inl (13, 1, 0))), .inl (nI k)] m = some (jm_j, m') ∧ xRk T (lAsk T k a C) m' ∧ fr PLs m m' := by
  have ch := sx_cmpH h (d + 6)
  have st := e_X3_readAsked (d + 8) 1 (nI k) m
  rw [decide_eq_true (show nI k ≠ 0 from nI_ne (b := 0) (by omega) (by decide) (by omega)), cond_true, jt_df (show ¬ nI k = 1 from nI_ne (b := 1) (by omega) (by decide) (by omega)), cond_false, jt_df (show ¬ nI k = 2 from nI_ne (b := 2) (by omega) (by decide) (by omega)), cond_false, jt_dt (show nI k ≠ 3 from nI_ne (b := 3) (by omega) (by decide) (by omega)), cond_true, ch, jt_bi] at st
  have lk : lAsk T k a C = match cmpK T a with
    | none => .inl (flt T a)
    | some s => if tkK T (tkX T a) ≠ 2 then .inl (flt T (tkX T a)) else if 99 < tkN T (tkX T a) then .inl (4, tkX T a) else .inr (tkX T (tkX T a), C ++ [(k, tkN T (tkX T a) * 4 + s)]) := (if_neg (by omega)).trans (if_neg (by omega))
  rw [lk]
  cases hs : cmpK T a with
  | none =>
    obtain ⟨m', e1, e2, e3⟩ := sx_blSt h (d + 6)
    refine ⟨m', ?_, ⟨e2, xLe_5 (xLc_e hc (by omega)) e3⟩, P5x_s e3⟩
    have e1 : jm_sem false (d + 8) jn_X6_blameStanding [.inr (.inr (.inl (5, 0, 0)))] m = some (jm_j, m') := e1
    rw [hs, jt_df (show ¬ jpl none ≠ -1 by decide), cond_false, e1, jt_bv] at st
    exact st
  | some s =>
    have s3 := (cmpK_s hs).1
    obtain ⟨m1, a1, a2, a3⟩ := sx_advF h d
    have c1 := xLc_5 hc (P5_x a3)
    have k3 := a2.2.2.1.2.1
    have kl := tkK_le T (tkX T a)
    rw [hs, jt_dt (show jpl (some s) ≠ -1 from jt_m1 (by omega)), cond_true, a1, jt_bv, k3] at st
    show ∃ m', _ ∧ xRk T (if tkK T (tkX T a) ≠ 2 then .inl (flt T (tkX T a)) else if 99 < tkN T (tkX T a) then .inl (4, tkX T a) else .inr (tkX T (tkX T a), C ++ [(k, tkN T (tkX T a) * 4 + s)])) m' ∧ _
    by_cases k2 : tkK T (tkX T a) = 2
    · rw [if_neg (fun z => z k2)]
      have h6 := a2.2.2.1.2.2.2.2.2.2.1 k2
      have n31 := tkN_lt k2
      rw [k2, jt_dt (show nI 2 = 2 from rfl), cond_true, h6] at st
      by_cases c99 : 99 < tkN T (tkX T a)
      · rw [if_pos c99]
        obtain ⟨m', e1, e2, e3⟩ := sx_blame a2 (k := 4) (by decide) (by decide) (d + 7)
        refine ⟨m', ?_, ⟨e2, xLe_5 (xLc_e c1 (by omega)) e3⟩, (P5_s a3).tr (P5x_s e3)⟩
        have e1 : jm_sem false (d + 8) jn_X6_blame [.inr (.inr (.inl (5, 0, 0))), .inl 4] m1 = some (jm_j, m') := e1
        rw [decide_eq_false (fun z => by have := (cmp99 (by omega)).mp z; omega), cond_false, e1, jt_bv] at st
        exact st
      · rw [if_neg c99]
        obtain ⟨m', e1, e2, e3⟩ := sx_rkEnd (x := tkN T (tkX T a) * 4 + s) (by omega) a2 c1 hl (k, tkN T (tkX T a) * 4 + s) rfl (by unfold wantX; rw [if_neg (by show ¬ (1 ≤ k ∧ k ≤ 3); omega)]) d
        refine ⟨m', ?_, e2, (P5_s a3).tr e3⟩
        have ar : (((lN (tkN T (tkX T a))).toInt32 <<< ((2 : Int32) &&& 31)) ||| jpl (some s)) = nI (tkN T (tkX T a) * 4 + s) := by
          show (((lN (tkN T (tkX T a))).toInt32 <<< ((2 : Int32) &&& 31)) ||| nI s) = _
          rw [lN_i, sh2 (by omega)]
          exact nI_or4 _ (by omega)
        rw [decide_eq_true ((cmp99 (by omega)).mpr (by omega)), cond_true, ar] at st
        exact st.trans e1
    · rw [if_pos k2]
      obtain ⟨m', e1, e2, e3⟩ := sx_blSt a2 (d + 6)
      refine ⟨m', ?_, ⟨e2, xLe_5 (xLc_e c1 (by omega)) e3⟩, (P5_s a3).tr (P5x_s e3)⟩
      have e1 : jm_sem false (d + 8) jn_X6_blameStanding [.inr (.inr (.inl (5, 0, 0)))] m1 = some (jm_j, m') := e1
      rw [jt_df (show ¬ nI (tkK T (tkX T a)) = 2 from nI_ne (b := 2) (by omega) (by decide) k2), cond_false, e1, jt_bv] at st
      exact st
theorem sx_readAsked {T : Tb} {k a : Nat} {C : List Ck} {m : jm_M} (hk : k ≤ 7) (h : xF T a m) (hc : xLc C m) (hl : C.length < 150) (d : Nat) : ∃ m', jm_sem false (d + 9) jn_X3_readAsked [.inr (.inr (.inl (9, 0, 0))), .inr (.inr (.inl (13, 1, 0))), .inl (nI k)] m = some (jm_j, m') ∧ xRk T (lAsk T k a C) m' ∧ fr PLs m m' := by
  by_cases k0 : k = 0
  · subst k0
    obtain ⟨m', e1, e2, e3⟩ := sx_emit hc hl (0, 0) (d + 7)
    refine ⟨m', ?_, ⟨xF_Em h e3, e2⟩, PEm_s e3⟩
    have e1 : jm_sem false (d + 8) jn_X2_emit [.inr (.inr (.inl (13, 1, 0))), .inl (nI 0), .inl 0] m = some (jm_j, m') := e1
    rw [e_X3_readAsked, show decide (nI 0 ≠ 0) = false by decide, cond_false, e1, jt_bv]
  · by_cases k3 : k ≤ 3
    · exact sx_rk3 (by omega) k3 h hc hl d
    · exact sx_rk7 (by omega) hk h hc hl d
