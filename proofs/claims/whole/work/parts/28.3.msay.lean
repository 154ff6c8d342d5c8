/-! ===== a word said (reference) ===== -/
theorem sm_join27 {V : Vl} {s : Nat} {m : jm_M} (h : mV V s m) (hs : s + 490 ≤ 8600) (h12 : (vlW V).length ≤ 12) (hX : ∀ j, j < (vlW V).length → okW2 (gw (vlW V) j)) {lo hi : Nat} (hlo : lo < (vlW V).length) (hhi : hi < (vlW V).length) (hne : lo ≠ hi) (z2 z3 z5 : jm_V) (d : Nat) : ∃ m', jm_ev false (d + 1) 11 0 jc_X12_joinsTwo 27 [vM, .inl (nI s), z2, z3, .inl (nI (s + 10 + 40 * lo)), z5] [.inl (nI hi), .inl (nI s)] m = some (jm_j, m') ∧ mV (vlSet V (((vlW V).set lo (wJoin (gw (vlW V) lo) (gw (vlW V) hi) (nI (vlD V)))).set hi (wGone (gw (vlW V) hi)))) s m' ∧ fr (PS s) m m' := by
  have w1 := h.2.2.2.2 lo hlo
  have w2 := h.2.2.2.2 hi hhi
  have hday := h.2.2.2.1
  have a9 := w1.2.1
  have a10 := w1.2.2.1
  have b9 := w2.2.1
  have b10 := w2.2.2.1
  have hX2 := (hX hi hhi).1.2.1
  have j1 := mW_join (w2 := gw (vlW V) hi) w1 (nI (vlD V))
  generalize hb1 : s + 10 + 40 * lo = b1 at *
  generalize hb2 : s + 10 + 40 * hi = b2 at *
  have hdis : b1 + 40 ≤ b2 ∨ b2 + 40 ≤ b1 := by omega
  have hd4 : s + 4 < b1 ∧ s + 4 < b2 := by omega
  generalize hm1 : jm_sI (jm_sI (jm_sI (jm_sI (jm_sI m 41 0 0 (b1 + 9) (nI (wM (gw (vlW V) lo) ||| wM (gw (vlW V) hi)))) 41 0 0 (b1 + 10) (wS (gw (vlW V) lo) + wS (gw (vlW V) hi))) 41 0 0 (b1 + 11) (nI (vlD V))) 41 0 0 (b1 + 12) 1) 41 0 0 (b1 + 13) 0 = m1 at *
  have f1 : ∀ c, c < b1 ∨ b1 + 40 ≤ c → m1.1 41 0 0 c = m.1 41 0 0 c := fun c hc => by rw [← hm1]; simp (disch := omega) only [jg_lit, jg_litL, jg_m1, jg_m1L, nI_add, lN_add, pk_mul, jg_sub, jg_subM, jg_addM, jg_addM', jg_negM, jt_in, jt_ix, jt_bi, jt_bl, jt_bv, jt_lt, jg_dT, jg_dF, jt_c, jt_cd, ru_I, ru_L, jg_leI, jg_ltI, jg_eqI, jg_M1, jg_M2, jg_M3, jg_M4, jg_M5, jg_M6, jg_ltT, jg_ltF, jg_leT, jg_leF, jg_eqT, jg_eqF, cond_true, cond_false, ne_eq, not_true_eq_false, not_false_eq_true, decide_true, decide_false, if_true, if_false, and_true, true_and, and_false, false_and, or_true, true_or, or_false, false_or, Nat.reduceEqDiff, reduceIte, Nat.reduceMul, Nat.reduceAdd, Nat.reduceSub, Nat.add_zero, Nat.zero_add, Nat.mul_zero, eq_self_iff_true, jg_not_lt, jg_not_le]
  have w2' : mW (gw (vlW V) hi) b2 m1 := mW_cp w2 (by omega) (fun k hk => f1 _ (by omega))
  have g := mW_gone w2'
  have v1 : mV (vlSet V ((vlW V).set lo (wJoin (gw (vlW V) lo) (gw (vlW V) hi) (nI (vlD V))))) s m1 := mV_set h h12 hX hlo (by rw [hb1]; exact j1) (fun c hc => f1 c (by omega))
  have hX1 : ∀ j, j < ((vlW V).set lo (wJoin (gw (vlW V) lo) (gw (vlW V) hi) (nI (vlD V)))).length → okW2 (gw ((vlW V).set lo (wJoin (gw (vlW V) lo) (gw (vlW V) hi) (nI (vlD V)))) j) ∨ j = lo := fun j hj => by
    rw [List.length_set] at hj
    rw [gw_set _ hlo]
    by_cases e : j = lo
    · exact Or.inr e
    · rw [if_neg e]; exact Or.inl (hX j hj)
  refine ⟨jm_sI (jm_sI (jm_sI m1 41 0 0 b2 0) 41 0 0 (b2 + 9) 0) 41 0 0 (b2 + 13) 0, ?_, ?_, ?_⟩
  · have o1 : nI (wM (gw (vlW V) lo)) ||| nI (wM (gw (vlW V) hi)) = nI (wM (gw (vlW V) lo) ||| wM (gw (vlW V) hi)) := fb_orI _ _
    rw [l_X12_joinsTwo_27, sm_rowOf, hb2]
    have ig := fun m => sm_isGoneR (b := b2) (by omega) d m
    simp (disch := omega) only [jg_lit, jg_litL, jg_m1, jg_m1L, nI_add, lN_add, pk_mul, jg_sub, jg_subM, jg_addM, jg_addM', jg_negM, jt_in, jt_ix, jt_bi, jt_bl, jt_bv, jt_lt, jg_dT, jg_dF, jt_c, jt_cd, ru_I, ru_L, jg_leI, jg_ltI, jg_eqI, jg_M1, jg_M2, jg_M3, jg_M4, jg_M5, jg_M6, jg_ltT, jg_ltF, jg_leT, jg_leF, jg_eqT, jg_eqF, cond_true, cond_false, ne_eq, not_true_eq_false, not_false_eq_true, decide_true, decide_false, if_true, if_false, and_true, true_and, and_false, false_and, or_true, true_or, or_false, false_or, Nat.reduceEqDiff, reduceIte, Nat.reduceMul, Nat.reduceAdd, Nat.reduceSub, Nat.add_zero, Nat.zero_add, Nat.mul_zero, eq_self_iff_true, jg_not_lt, jg_not_le, a9, a10, b9, b10, hday, o1, ig]
    rw [← hm1]
    rfl
  · have hf2 : ∀ c, c < b2 ∨ b2 + 40 ≤ c → (jm_sI (jm_sI (jm_sI m1 41 0 0 b2 0) 41 0 0 (b2 + 9) 0) 41 0 0 (b2 + 13) 0).1 41 0 0 c = m1.1 41 0 0 c := fun c hc => by simp (disch := omega) only [jg_lit, jg_litL, jg_m1, jg_m1L, nI_add, lN_add, pk_mul, jg_sub, jg_subM, jg_addM, jg_addM', jg_negM, jt_in, jt_ix, jt_bi, jt_bl, jt_bv, jt_lt, jg_dT, jg_dF, jt_c, jt_cd, ru_I, ru_L, jg_leI, jg_ltI, jg_eqI, jg_M1, jg_M2, jg_M3, jg_M4, jg_M5, jg_M6, jg_ltT, jg_ltF, jg_leT, jg_leF, jg_eqT, jg_eqF, cond_true, cond_false, ne_eq, not_true_eq_false, not_false_eq_true, decide_true, decide_false, if_true, if_false, and_true, true_and, and_false, false_and, or_true, true_or, or_false, false_or, Nat.reduceEqDiff, reduceIte, Nat.reduceMul, Nat.reduceAdd, Nat.reduceSub, Nat.add_zero, Nat.zero_add, Nat.mul_zero, eq_self_iff_true, jg_not_lt, jg_not_le]
    refine mV_set' v1 (by show ((vlW V).set lo _).length ≤ 12; rw [List.length_set]; exact h12) (k := hi) (by show hi < ((vlW V).set lo _).length; rw [List.length_set]; exact hhi) (by rw [hb2]; exact g) (fun c hc => hf2 c (by omega)) (fun j hj hji => ?_)
    show (wX (gw ((vlW V).set lo _) j)).length ≤ 8
    have hj : j < ((vlW V).set lo (wJoin (gw (vlW V) lo) (gw (vlW V) hi) (nI (vlD V)))).length := hj
    rw [List.length_set] at hj
    rw [gw_set _ hlo]
    by_cases e : j = lo
    · rw [if_pos e]; exact Nat.zero_le 8
    · rw [if_neg e]; have := (hX j hj).1.2.1; omega
  · rw [← hm1]
    refine fr_sI (fr_sI (fr_sI (fr_sI (fr_sI (fr_sI (fr_sI (fr_sI .rf ?_) ?_) ?_) ?_) ?_) ?_) ?_) ?_ <;> exact Or.inl ⟨rfl, by omega, by omega⟩
theorem sm_joinsTwo {V : Vl} {s : Nat} {m : jm_M} (h : mV V s m) (hs : s + 490 ≤ 8600) (h12 : (vlW V).length ≤ 12) (hX : ∀ j, j < (vlW V).length → okW2 (gw (vlW V) j)) {a b : Nat} (ha : a < (vlW V).length) (hb : b < (vlW V).length) (hab : a ≠ b) (d : Nat) : ∃ m', jm_sem false (d + 2) jn_X12_joinsTwo [vM, .inl (nI s), .inl (nI b), .inl (nI a)] m = some (jm_j, m') ∧ mV (vlSet V (uni (vlW V) a b (nI (vlD V)))) s m' ∧ fr (PS s) m m' := by
  unfold uni
  by_cases c : a ≤ b
  · obtain ⟨m', e1, e2, e3⟩ := sm_join27 h hs h12 hX ha hb hab (.inl (nI b)) (.inl (nI a)) jm_j d
    rw [Nat.min_eq_left c, Nat.max_eq_right c]
    refine ⟨m', ?_, e2, e3⟩
    rw [e_X12_joinsTwo, jt_dt (nI_le c (by omega)), cond_true, sm_rowOf, jt_bi, cond_true]
    exact e1
  · obtain ⟨m', e1, e2, e3⟩ := sm_join27 h hs h12 hX hb ha (fun z => hab z.symm) (.inl (nI b)) (.inl (nI a)) jm_j d
    rw [Nat.min_eq_right (by omega), Nat.max_eq_left (by omega)]
    refine ⟨m', ?_, e2, e3⟩
    rw [e_X12_joinsTwo, jt_df (nI_ge (show b < a by omega) (by omega)), cond_false, sm_rowOf, jt_bi, cond_false]
    exact e1
theorem sm_say_loop {V : Vl} {s : Nat} {m : jm_M} (h : mV V s m) (hs : s + 490 ≤ 8600) (h12 : (vlW V).length ≤ 12) (hX : ∀ j, j < (vlW V).length → okW2 (gw (vlW V) j)) {k : Nat} (hk : k < (vlW V).length) (hn : wL (gw (vlW V) k) ≠ []) (z4 z5 : jm_V) (d : Nat) : ∀ (r j : Nat), j + r = (vlW V).length → ∃ m', jm_ev false (d + 2) 11 1 jc_X12_says 225 [vM, .inl (nI s), .inl (nI k), .inl (nI (s + 10 + 40 * k)), z4, z5, .inl (nI j)] [] m = some (.inl 1, m') ∧ mV (match alk (vlW V) (wL (gw (vlW V) k)) (some k) r j with | none => V | some o => vlSet V (uni (vlW V) k o (nI (vlD V)))) s m' ∧ fr (PS s) m m'
  | 0, j, hj => by
    have h1 := h.2.1
    refine ⟨m, ?_, h, .rf⟩
    rw [l_X12_says_225]
    simp (disch := omega) only [jg_lit, jg_litL, jg_m1, jg_m1L, nI_add, lN_add, pk_mul, jg_sub, jg_subM, jg_addM, jg_addM', jg_negM, jt_in, jt_ix, jt_bi, jt_bl, jt_bv, jt_lt, jg_dT, jg_dF, jt_c, jt_cd, ru_I, ru_L, jg_leI, jg_ltI, jg_eqI, jg_M1, jg_M2, jg_M3, jg_M4, jg_M5, jg_M6, jg_ltT, jg_ltF, jg_leT, jg_leF, jg_eqT, jg_eqF, cond_true, cond_false, ne_eq, not_true_eq_false, not_false_eq_true, decide_true, decide_false, if_true, if_false, and_true, true_and, and_false, false_and, or_true, true_or, or_false, false_or, Nat.reduceEqDiff, reduceIte, Nat.reduceMul, Nat.reduceAdd, Nat.reduceSub, Nat.add_zero, Nat.zero_add, Nat.mul_zero, eq_self_iff_true, jg_not_lt, jg_not_le, h1]
  | r + 1, j, hj => by
    have h1 := h.2.1
    have hjl : j < (vlW V).length := by omega
    have ih := sm_say_loop h hs h12 hX hk hn z4 z5 d r (j + 1) (by omega)
    rw [l_X12_says_225]
    unfold alk
    by_cases c1 : j = k
    · rw [if_neg (fun z => z.1 (by rw [c1]))]
      obtain ⟨m', e1, e2, e3⟩ := ih
      refine ⟨m', ?_, e2, e3⟩
      simp (disch := omega) only [jg_lit, jg_litL, jg_m1, jg_m1L, nI_add, lN_add, pk_mul, jg_sub, jg_subM, jg_addM, jg_addM', jg_negM, jt_in, jt_ix, jt_bi, jt_bl, jt_bv, jt_lt, jg_dT, jg_dF, jt_c, jt_cd, ru_I, ru_L, jg_leI, jg_ltI, jg_eqI, jg_M1, jg_M2, jg_M3, jg_M4, jg_M5, jg_M6, jg_ltT, jg_ltF, jg_leT, jg_leF, jg_eqT, jg_eqF, cond_true, cond_false, ne_eq, not_true_eq_false, not_false_eq_true, decide_true, decide_false, if_true, if_false, and_true, true_and, and_false, false_and, or_true, true_or, or_false, false_or, Nat.reduceEqDiff, reduceIte, Nat.reduceMul, Nat.reduceAdd, Nat.reduceSub, Nat.add_zero, Nat.zero_add, Nat.mul_zero, eq_self_iff_true, jg_not_lt, jg_not_le, h1]
      exact e1
    · have lk := sm_areLike (hX j hjl).1.1 (hX k hk).1.1 (b1 := s + 10 + 40 * j) (b2 := s + 10 + 40 * k) (by omega) (by omega) (h.2.2.2.2 j hjl).1 (h.2.2.2.2 k hk).1 (d + 1)
      by_cases c2 : wL (gw (vlW V) j) = wL (gw (vlW V) k)
      · rw [if_pos ⟨fun z => c1 (Option.some.inj z), by rw [c2]; exact hn, c2⟩]
        obtain ⟨m', e1, e2, e3⟩ := sm_joinsTwo h hs h12 hX hk hjl (fun z => c1 z.symm) d
        refine ⟨m', ?_, e2, e3⟩
        rw [if_pos c2] at lk
        have ro := sm_rowOf (d + 1) s j m
        simp (disch := omega) only [jg_lit, jg_litL, jg_m1, jg_m1L, nI_add, lN_add, pk_mul, jg_sub, jg_subM, jg_addM, jg_addM', jg_negM, jt_in, jt_ix, jt_bi, jt_bl, jt_bv, jt_lt, jg_dT, jg_dF, jt_c, jt_cd, ru_I, ru_L, jg_leI, jg_ltI, jg_eqI, jg_M1, jg_M2, jg_M3, jg_M4, jg_M5, jg_M6, jg_ltT, jg_ltF, jg_leT, jg_leF, jg_eqT, jg_eqF, cond_true, cond_false, ne_eq, not_true_eq_false, not_false_eq_true, decide_true, decide_false, if_true, if_false, and_true, true_and, and_false, false_and, or_true, true_or, or_false, false_or, Nat.reduceEqDiff, reduceIte, Nat.reduceMul, Nat.reduceAdd, Nat.reduceSub, Nat.add_zero, Nat.zero_add, Nat.mul_zero, eq_self_iff_true, jg_not_lt, jg_not_le, h1, ro]
        rw [lk, jt_bi]
        simp (disch := omega) only [jg_lit, jg_litL, jg_m1, jg_m1L, nI_add, lN_add, pk_mul, jg_sub, jg_subM, jg_addM, jg_addM', jg_negM, jt_in, jt_ix, jt_bi, jt_bl, jt_bv, jt_lt, jg_dT, jg_dF, jt_c, jt_cd, ru_I, ru_L, jg_leI, jg_ltI, jg_eqI, jg_M1, jg_M2, jg_M3, jg_M4, jg_M5, jg_M6, jg_ltT, jg_ltF, jg_leT, jg_leF, jg_eqT, jg_eqF, cond_true, cond_false, ne_eq, not_true_eq_false, not_false_eq_true, decide_true, decide_false, if_true, if_false, and_true, true_and, and_false, false_and, or_true, true_or, or_false, false_or, Nat.reduceEqDiff, reduceIte, Nat.reduceMul, Nat.reduceAdd, Nat.reduceSub, Nat.add_zero, Nat.zero_add, Nat.mul_zero, eq_self_iff_true, jg_not_lt, jg_not_le]
        rw [e1]
        rfl
      · rw [if_neg (fun z => c2 z.2.2)]
        obtain ⟨m', e1, e2, e3⟩ := ih
        refine ⟨m', ?_, e2, e3⟩
        rw [if_neg c2] at lk
        have ro := sm_rowOf (d + 1) s j m
        simp (disch := omega) only [jg_lit, jg_litL, jg_m1, jg_m1L, nI_add, lN_add, pk_mul, jg_sub, jg_subM, jg_addM, jg_addM', jg_negM, jt_in, jt_ix, jt_bi, jt_bl, jt_bv, jt_lt, jg_dT, jg_dF, jt_c, jt_cd, ru_I, ru_L, jg_leI, jg_ltI, jg_eqI, jg_M1, jg_M2, jg_M3, jg_M4, jg_M5, jg_M6, jg_ltT, jg_ltF, jg_leT, jg_leF, jg_eqT, jg_eqF, cond_true, cond_false, ne_eq, not_true_eq_false, not_false_eq_true, decide_true, decide_false, if_true, if_false, and_true, true_and, and_false, false_and, or_true, true_or, or_false, false_or, Nat.reduceEqDiff, reduceIte, Nat.reduceMul, Nat.reduceAdd, Nat.reduceSub, Nat.add_zero, Nat.zero_add, Nat.mul_zero, eq_self_iff_true, jg_not_lt, jg_not_le, h1, ro]
        rw [lk, jt_bi]
        simp (disch := omega) only [jg_lit, jg_litL, jg_m1, jg_m1L, nI_add, lN_add, pk_mul, jg_sub, jg_subM, jg_addM, jg_addM', jg_negM, jt_in, jt_ix, jt_bi, jt_bl, jt_bv, jt_lt, jg_dT, jg_dF, jt_c, jt_cd, ru_I, ru_L, jg_leI, jg_ltI, jg_eqI, jg_M1, jg_M2, jg_M3, jg_M4, jg_M5, jg_M6, jg_ltT, jg_ltF, jg_leT, jg_leF, jg_eqT, jg_eqF, cond_true, cond_false, ne_eq, not_true_eq_false, not_false_eq_true, decide_true, decide_false, if_true, if_false, and_true, true_and, and_false, false_and, or_true, true_or, or_false, false_or, Nat.reduceEqDiff, reduceIte, Nat.reduceMul, Nat.reduceAdd, Nat.reduceSub, Nat.add_zero, Nat.zero_add, Nat.mul_zero, eq_self_iff_true, jg_not_lt, jg_not_le]
        exact e1
theorem fr_PMh {s : Nat} {m m' : jm_M} (h : jk PM_h m m') : fr (PS s) m m' := fr_jk h (fun K i j k z => z.elim (fun z => Or.inr (Or.inl z)) (fun z => Or.inr (Or.inr (Or.inl z))))
theorem fr_P50 {s : Nat} {m m' : jm_M} (h : jk P50 m m') : fr (PS s) m m' := fr_jk h (fun K i j k z => Or.inr (Or.inr (Or.inr z)))
theorem fr_PAS {s b n : Nat} (h1 : s + 10 ≤ b) (h2 : b + n ≤ s + 490) {m m' : jm_M} (h : fr (PA b n) m m') : fr (PS s) m m' := h.wk (fun K i j k z => Or.inl ⟨z.1, by have := z.2; omega, by have := z.2; omega⟩)
theorem PMh_41 {m m' : jm_M} (h : jk PM_h m m') (k : Nat) : m'.1 41 0 0 k = m.1 41 0 0 k := (h 41 k (fun z => by unfold PM_h at z; omega) 0 0).1
theorem mL_fr {R : List Rl} {s : Nat} {m m' : jm_M} (h : mL R m) (hf : fr (PS s) m m') (hs : s = 0 ∨ 770 ≤ s) (hR : okR R) : mL R m' := by
  have h12 := hR.1
  have h150 := hR.2.1
  have key : ∀ k, k < 10 ∨ (490 ≤ k ∧ k < 770) → m'.1 41 0 0 k = m.1 41 0 0 k := fun k hk => (hf 41 0 0 k (fun z => by unfold PS at z; omega)).1
  refine ⟨by rw [key 3 (by omega)]; exact h.1, fun k hk => by rw [key _ (by omega)]; exact h.2.1 k hk, fun r hr => ?_⟩
  have := h.2.2 r hr
  rw [key _ (by omega), key _ (by omega), key _ (by omega)]
  exact this
theorem mS_fr {S : Sf} {s : Nat} {m m' : jm_M} (h : mS S m) (hf : fr (PS s) m m') (hs : s = 0 ∨ 770 ≤ s) : mS S m' := fun c h1 h2 => by
  rw [(hf 41 0 0 (490 + c) (fun z => by unfold PS at z; omega)).1]
  exact h c h1 h2
theorem sm_says {V : Vl} {s : Nat} {m : jm_M} (h : mV V s m) (hs : s + 490 ≤ 8600) (ho : okV V) (hS : mS (vlS V) m) (hL : mL (vlR V) m) {k : Nat} (hk : k < (vlW V).length) (hn : wL (gw (vlW V) k) ≠ []) (d : Nat) : ∃ m', jm_sem false (d + 6) jn_X12_says [vM, .inl (nI s), .inl (nI k)] m = some (.inl (nI (sayN V k)), m') ∧ mV (vlSet V (sayWs V k)) s m' ∧ fr (PS s) m m' := by
  have h12 := ho.2.2.2.1.1
  have hXa := ho.2.2.2.1.2.1
  have hok := hXa k hk
  have hw := h.2.2.2.2 k hk
  have hX8 := hok.1.2.1
  have hlt : ∀ q, goW V (gw (vlW V) k) = some q → q < (wL (gw (vlW V) k)).length := fun q hq => goW_lt hn hq
  have hln : 0 < (wL (gw (vlW V) k)).length := List.length_pos_iff.mpr hn
  have hw' := okW2_wear hok hn hlt ho.2.2.1
  generalize hb : s + 10 + 40 * k = b at hw
  have hb1 : b + 40 ≤ 8600 := by omega
  obtain ⟨m1, l1, l2, l3⟩ := sm_loads hw.1 (by omega) (d + 4)
  have k1 := PMh_41 l3
  have w1 : mW (gw (vlW V) k) b m1 := mW_cp hw (by omega) (fun q _ => k1 _)
  have hL1 := mL_k hL k1
  have hS1 : mS (vlS V) m1 := fun c h1 h2 => by rw [k1]; exact hS c h1 h2
  have hd1 : m1.1 41 0 0 (s + 4) = nI (vlD V) := by rw [k1]; exact h.2.2.2.1
  have im := sm_isMany hok.1.2.2.2.1 (d + 4) m1
  have io := sm_idleOf (show s + 4 < 8600 by omega) hb1 w1 hd1 hok.2.2.2.2 (d + 4)
  obtain ⟨m2, g1, g2⟩ := sm_goes hok.1.1 hok.2.1 hn ho.2.2.2.2.2.1 ho.2.2.2.2.2.2 (shB (wM (gw (vlW V) k))) (wS (gw (vlW V) k)) (nI (vlD V)) (nI (vlD V) - lat (wT (gw (vlW V) k))) d l2 hS1 hL1
  have k2 := jk50_41 g2 (K := 41) (by decide) 0 0
  have w2 : mW (gw (vlW V) k) b m2 := mW_cp w1 (by omega) (fun q _ => k2 _)
  have hd2 : m2.1 41 0 0 (s + 4) = nI (vlD V) := by rw [k2]; exact hd1
  have mH2 : mH (wL (gw (vlW V) k)) m2 := ⟨l2.1, by rw [jk50_41 g2 (by decide)]; exact l2.2.1, fun q hq => by rw [jk50_41 g2 (by decide)]; exact l2.2.2 q hq⟩
  have a9 := w1.2.1
  have a10 := w1.2.2.1
  have c10 := w2.2.2.1
  have w3 := mW_said w2 (by omega) (nI (vlD V))
  have hgo : goP (vlS V) (wL (gw (vlW V) k)) (shB (wM (gw (vlW V) k))) (wS (gw (vlW V) k)) (mn99 (nI (vlD V))) (mn99 (nI (vlD V) - lat (wT (gw (vlW V) k)))) (vlR V) = goW V (gw (vlW V) k) := rfl
  rw [hgo] at g1
  have ro := sm_rowOf (d + 4) s k m
  rw [hb] at ro
  have hfr2 : fr (PS s) m m2 := (fr_PMh l3).tr (fr_P50 g2)
  generalize hm3 : jm_sI (jm_sI (jm_sI m2 41 0 0 (b + 10) (wS (gw (vlW V) k) + 1)) 41 0 0 (b + 11) (nI (vlD V))) 41 0 0 (b + 12) 1 = m3 at w3
  have f3 : ∀ c, c < b ∨ b + 40 ≤ c → m3.1 41 0 0 c = m2.1 41 0 0 c := fun c hc => by rw [← hm3]; simp (disch := omega) only [jg_lit, jg_litL, jg_m1, jg_m1L, nI_add, lN_add, pk_mul, jg_sub, jg_subM, jg_addM, jg_addM', jg_negM, jt_in, jt_ix, jt_bi, jt_bl, jt_bv, jt_lt, jg_dT, jg_dF, jt_c, jt_cd, ru_I, ru_L, jg_leI, jg_ltI, jg_eqI, jg_M1, jg_M2, jg_M3, jg_M4, jg_M5, jg_M6, jg_ltT, jg_ltF, jg_leT, jg_leF, jg_eqT, jg_eqF, cond_true, cond_false, ne_eq, not_true_eq_false, not_false_eq_true, decide_true, decide_false, if_true, if_false, and_true, true_and, and_false, false_and, or_true, true_or, or_false, false_or, Nat.reduceEqDiff, reduceIte, Nat.reduceMul, Nat.reduceAdd, Nat.reduceSub, Nat.add_zero, Nat.zero_add, Nat.mul_zero, eq_self_iff_true, jg_not_lt, jg_not_le]
  have hfr3 : fr (PS s) m2 m3 := by
    rw [← hm3]
    refine fr_sI (fr_sI (fr_sI .rf ?_) ?_) ?_ <;> exact Or.inl ⟨rfl, by omega, by omega⟩
  have e := e_X12_says (d + 5) (nI s) (nI k) m
  rw [ro, jt_bi, l1, jt_bv] at e
  have hE : ∀ (x : Int32), jpl (goW V (gw (vlW V) k)) = x → jm_sem false (d + 6) jn_X12_says [vM, .inl (nI s), .inl (nI k)] m = _ := fun x hx => e
  cases hg : goW V (gw (vlW V) k) with
  | none =>
    rw [hg] at g1
    have g1' : jpl none = jM := rfl
    rw [g1'] at g1
    refine ⟨m3, ?_, ?_, hfr2.tr hfr3⟩
    · rw [e]
      have hsn : sayN V k = 0 := by unfold sayN; rw [hg]
      rw [hsn]
      simp (disch := omega) only [jg_lit, jg_litL, jg_m1, jg_m1L, nI_add, lN_add, pk_mul, jg_sub, jg_subM, jg_addM, jg_addM', jg_negM, jt_in, jt_ix, jt_bi, jt_bl, jt_bv, jt_lt, jg_dT, jg_dF, jt_c, jt_cd, ru_I, ru_L, jg_leI, jg_ltI, jg_eqI, jg_M1, jg_M2, jg_M3, jg_M4, jg_M5, jg_M6, jg_ltT, jg_ltF, jg_leT, jg_leF, jg_eqT, jg_eqF, cond_true, cond_false, ne_eq, not_true_eq_false, not_false_eq_true, decide_true, decide_false, if_true, if_false, and_true, true_and, and_false, false_and, or_true, true_or, or_false, false_or, Nat.reduceEqDiff, reduceIte, Nat.reduceMul, Nat.reduceAdd, Nat.reduceSub, Nat.add_zero, Nat.zero_add, Nat.mul_zero, eq_self_iff_true, jg_not_lt, jg_not_le, a9, a10, c10, hd1, hd2, im, io, g1]
      rw [← hm3]
      rfl
    · have : sayWs V k = (vlW V).set k (wSaid (gw (vlW V) k) (nI (vlD V))) := by
        unfold sayWs
        rw [hg]
        have hne : alk ((vlW V).set k (wWear (gw (vlW V) k) none (nI (vlD V)))) (wL (wWear (gw (vlW V) k) none (nI (vlD V)))) (some k) (vlW V).length 0 = none := by
          cases ha : alk ((vlW V).set k (wWear (gw (vlW V) k) none (nI (vlD V)))) (wL (wWear (gw (vlW V) k) none (nI (vlD V)))) (some k) (vlW V).length 0 with
          | none => rfl
          | some o =>
            obtain ⟨-, o1, o2, o3, o4⟩ := alk_some _ _ ha
            have hok : o ≠ k := fun z => o2 (by rw [z])
            rw [gw_set _ hk, if_neg hok] at o3 o4
            exact absurd o4 (ho.2.2.2.1.2.2 o k (by omega) hk hok o3)
        rw [hne]
        rfl
      rw [this]
      exact mV_set h h12 hXa hk (by rw [hb]; exact w3) (fun c hc => by rw [f3 c (by omega), k2, k1])
  | some p =>
    have hp := hlt p hg
    rw [hg] at g1
    have g1' : jpl (some p) = nI p := rfl
    rw [g1'] at g1
    have hlp := mH2.2.2 p hp
    have hX7 : (wX (gw (vlW V) k)).length < 8 := by omega
    have c13 : m3.1 41 0 0 (b + 13) = nI (wX (gw (vlW V) k)).length := w3.2.2.2.2.2.1
    have w4 := mW_lost w3 hX7 ((wL (gw (vlW V) k)).getD p 0) p
    have hsx : wX (wSaid (gw (vlW V) k) (nI (vlD V))) = wX (gw (vlW V) k) := rfl
    rw [hsx] at w4
    generalize hm4 : jm_sI (jm_sI (jm_sI m3 41 0 0 (b + 14 + 2 * (wX (gw (vlW V) k)).length) (nI ((wL (gw (vlW V) k)).getD p 0))) 41 0 0 (b + 14 + 2 * (wX (gw (vlW V) k)).length + 1) (nI p)) 41 0 0 (b + 13) (nI ((wX (gw (vlW V) k)).length + 1)) = m4 at w4
    have f4 : ∀ c, c < b ∨ b + 40 ≤ c → m4.1 41 0 0 c = m3.1 41 0 0 c := fun c hc => by rw [← hm4]; simp (disch := omega) only [jg_lit, jg_litL, jg_m1, jg_m1L, nI_add, lN_add, pk_mul, jg_sub, jg_subM, jg_addM, jg_addM', jg_negM, jt_in, jt_ix, jt_bi, jt_bl, jt_bv, jt_lt, jg_dT, jg_dF, jt_c, jt_cd, ru_I, ru_L, jg_leI, jg_ltI, jg_eqI, jg_M1, jg_M2, jg_M3, jg_M4, jg_M5, jg_M6, jg_ltT, jg_ltF, jg_leT, jg_leF, jg_eqT, jg_eqF, cond_true, cond_false, ne_eq, not_true_eq_false, not_false_eq_true, decide_true, decide_false, if_true, if_false, and_true, true_and, and_false, false_and, or_true, true_or, or_false, false_or, Nat.reduceEqDiff, reduceIte, Nat.reduceMul, Nat.reduceAdd, Nat.reduceSub, Nat.add_zero, Nat.zero_add, Nat.mul_zero, eq_self_iff_true, jg_not_lt, jg_not_le]
    have hfr4 : fr (PS s) m3 m4 := by
      rw [← hm4]
      refine fr_sI (fr_sI (fr_sI .rf ?_) ?_) ?_ <;> exact Or.inl ⟨rfl, by omega, by omega⟩
    have mH4 : mH (wL (gw (vlW V) k)) m4 := ⟨mH2.1, by rw [← hm4, ← hm3]; simp (disch := omega) only [jg_lit, jg_litL, jg_m1, jg_m1L, nI_add, lN_add, pk_mul, jg_sub, jg_subM, jg_addM, jg_addM', jg_negM, jt_in, jt_ix, jt_bi, jt_bl, jt_bv, jt_lt, jg_dT, jg_dF, jt_c, jt_cd, ru_I, ru_L, jg_leI, jg_ltI, jg_eqI, jg_M1, jg_M2, jg_M3, jg_M4, jg_M5, jg_M6, jg_ltT, jg_ltF, jg_leT, jg_leF, jg_eqT, jg_eqF, cond_true, cond_false, ne_eq, not_true_eq_false, not_false_eq_true, decide_true, decide_false, if_true, if_false, and_true, true_and, and_false, false_and, or_true, true_or, or_false, false_or, Nat.reduceEqDiff, reduceIte, Nat.reduceMul, Nat.reduceAdd, Nat.reduceSub, Nat.add_zero, Nat.zero_add, Nat.mul_zero, eq_self_iff_true, jg_not_lt, jg_not_le]; exact mH2.2.1, fun q hq => by rw [← hm4, ← hm3]; simp (disch := omega) only [jg_lit, jg_litL, jg_m1, jg_m1L, nI_add, lN_add, pk_mul, jg_sub, jg_subM, jg_addM, jg_addM', jg_negM, jt_in, jt_ix, jt_bi, jt_bl, jt_bv, jt_lt, jg_dT, jg_dF, jt_c, jt_cd, ru_I, ru_L, jg_leI, jg_ltI, jg_eqI, jg_M1, jg_M2, jg_M3, jg_M4, jg_M5, jg_M6, jg_ltT, jg_ltF, jg_leT, jg_leF, jg_eqT, jg_eqF, cond_true, cond_false, ne_eq, not_true_eq_false, not_false_eq_true, decide_true, decide_false, if_true, if_false, and_true, true_and, and_false, false_and, or_true, true_or, or_false, false_or, Nat.reduceEqDiff, reduceIte, Nat.reduceMul, Nat.reduceAdd, Nat.reduceSub, Nat.add_zero, Nat.zero_add, Nat.mul_zero, eq_self_iff_true, jg_not_lt, jg_not_le]; exact mH2.2.2 q hq⟩
    obtain ⟨m5, d1, d2, d3⟩ := sm_drops mH4 hp (d + 4)
    have k5 := PMh_41 d3
    have hel : ((wL (gw (vlW V) k)).eraseIdx p).length = (wL (gw (vlW V) k)).length - 1 := by rw [List.length_eraseIdx, if_pos hp]
    have h5l := d2.2.1
    obtain ⟨m6, b1, b2, b3, b4⟩ := sm_back_loop (ls := (wL (gw (vlW V) k)).eraseIdx p) d2.1 (s := s) hb1 (.inl (nI k)) (.inl (nI p)) (.inl (nI (b + 14 + 2 * (wX (gw (vlW V) k)).length))) (d + 5) ((wL (gw (vlW V) k)).eraseIdx p).length 0 (jm_sI m5 41 0 0 b (nI ((wL (gw (vlW V) k)).eraseIdx p).length)) (by omega) ⟨d2.1, by simp (disch := omega) only [jg_lit, jg_litL, jg_m1, jg_m1L, nI_add, lN_add, pk_mul, jg_sub, jg_subM, jg_addM, jg_addM', jg_negM, jt_in, jt_ix, jt_bi, jt_bl, jt_bv, jt_lt, jg_dT, jg_dF, jt_c, jt_cd, ru_I, ru_L, jg_leI, jg_ltI, jg_eqI, jg_M1, jg_M2, jg_M3, jg_M4, jg_M5, jg_M6, jg_ltT, jg_ltF, jg_leT, jg_leF, jg_eqT, jg_eqF, cond_true, cond_false, ne_eq, not_true_eq_false, not_false_eq_true, decide_true, decide_false, if_true, if_false, and_true, true_and, and_false, false_and, or_true, true_or, or_false, false_or, Nat.reduceEqDiff, reduceIte, Nat.reduceMul, Nat.reduceAdd, Nat.reduceSub, Nat.add_zero, Nat.zero_add, Nat.mul_zero, eq_self_iff_true, jg_not_lt, jg_not_le]; exact h5l, fun q hq => by simp (disch := omega) only [jg_lit, jg_litL, jg_m1, jg_m1L, nI_add, lN_add, pk_mul, jg_sub, jg_subM, jg_addM, jg_addM', jg_negM, jt_in, jt_ix, jt_bi, jt_bl, jt_bv, jt_lt, jg_dT, jg_dF, jt_c, jt_cd, ru_I, ru_L, jg_leI, jg_ltI, jg_eqI, jg_M1, jg_M2, jg_M3, jg_M4, jg_M5, jg_M6, jg_ltT, jg_ltF, jg_leT, jg_leF, jg_eqT, jg_eqF, cond_true, cond_false, ne_eq, not_true_eq_false, not_false_eq_true, decide_true, decide_false, if_true, if_false, and_true, true_and, and_false, false_and, or_true, true_or, or_false, false_or, Nat.reduceEqDiff, reduceIte, Nat.reduceMul, Nat.reduceAdd, Nat.reduceSub, Nat.add_zero, Nat.zero_add, Nat.mul_zero, eq_self_iff_true, jg_not_lt, jg_not_le]; exact d2.2.2 q hq⟩ (by simp (disch := omega) only [jg_lit, jg_litL, jg_m1, jg_m1L, nI_add, lN_add, pk_mul, jg_sub, jg_subM, jg_addM, jg_addM', jg_negM, jt_in, jt_ix, jt_bi, jt_bl, jt_bv, jt_lt, jg_dT, jg_dF, jt_c, jt_cd, ru_I, ru_L, jg_leI, jg_ltI, jg_eqI, jg_M1, jg_M2, jg_M3, jg_M4, jg_M5, jg_M6, jg_ltT, jg_ltF, jg_leT, jg_leF, jg_eqT, jg_eqF, cond_true, cond_false, ne_eq, not_true_eq_false, not_false_eq_true, decide_true, decide_false, if_true, if_false, and_true, true_and, and_false, false_and, or_true, true_or, or_false, false_or, Nat.reduceEqDiff, reduceIte, Nat.reduceMul, Nat.reduceAdd, Nat.reduceSub, Nat.add_zero, Nat.zero_add, Nat.mul_zero, eq_self_iff_true, jg_not_lt, jg_not_le]) (fun q hq => by omega)
    have f6 : ∀ c, c < b ∨ b + 9 ≤ c → m6.1 41 0 0 c = m4.1 41 0 0 c := fun c hc => by
      rw [(b4 41 0 0 c (fun z => by unfold PA at z; omega)).1]
      simp (disch := omega) only [jg_lit, jg_litL, jg_m1, jg_m1L, nI_add, lN_add, pk_mul, jg_sub, jg_subM, jg_addM, jg_addM', jg_negM, jt_in, jt_ix, jt_bi, jt_bl, jt_bv, jt_lt, jg_dT, jg_dF, jt_c, jt_cd, ru_I, ru_L, jg_leI, jg_ltI, jg_eqI, jg_M1, jg_M2, jg_M3, jg_M4, jg_M5, jg_M6, jg_ltT, jg_ltF, jg_leT, jg_leF, jg_eqT, jg_eqF, cond_true, cond_false, ne_eq, not_true_eq_false, not_false_eq_true, decide_true, decide_false, if_true, if_false, and_true, true_and, and_false, false_and, or_true, true_or, or_false, false_or, Nat.reduceEqDiff, reduceIte, Nat.reduceMul, Nat.reduceAdd, Nat.reduceSub, Nat.add_zero, Nat.zero_add, Nat.mul_zero, eq_self_iff_true, jg_not_lt, jg_not_le]
      exact k5 c
    have w6 := mW_let w4 (show (wX (gw (vlW V) k)).length + 1 ≤ 8 by omega) b2 (fun q h1 h2 => f6 _ (by omega))
    have hfr6 : fr (PS s) m4 m6 := ((fr_PMh d3).tr (fr_I (Or.inl ⟨rfl, by omega, by omega⟩))).tr (fr_PAS (by omega) (by omega) b4)
    have hsn : sayN V k = 1 := by unfold sayN; rw [hg]
    have hto : jm_sem false (d + 6) jn_X12_says [vM, .inl (nI s), .inl (nI k)] m = jm_ev false (d + 5) 11 1 jc_X12_says 175 [vM, .inl (nI s), .inl (nI k), .inl (nI b), .inl (nI p), .inl (nI (b + 14 + 2 * (wX (gw (vlW V) k)).length)), .inl (nI ((wL (gw (vlW V) k)).eraseIdx p).length)] [] m6 := by
      rw [← b1 (nI k) rfl, e]
      have e13 : m2.1 41 0 0 (b + 13) = nI (wX (gw (vlW V) k)).length := w2.2.2.2.2.2.1
      have hm3' := hm3
      have hm4' := hm4
      rw [← hm3] at hm4'
      simp only [jg_lit] at hm4'
      simp (disch := omega) only [jg_lit, jg_litL, jg_m1, jg_m1L, nI_add, lN_add, pk_mul, jg_sub, jg_subM, jg_addM, jg_addM', jg_negM, jt_in, jt_ix, jt_bi, jt_bl, jt_bv, jt_lt, jg_dT, jg_dF, jt_c, jt_cd, ru_I, ru_L, jg_leI, jg_ltI, jg_eqI, jg_M1, jg_M2, jg_M3, jg_M4, jg_M5, jg_M6, jg_ltT, jg_ltF, jg_leT, jg_leF, jg_eqT, jg_eqF, cond_true, cond_false, ne_eq, not_true_eq_false, not_false_eq_true, decide_true, decide_false, if_true, if_false, and_true, true_and, and_false, false_and, or_true, true_or, or_false, false_or, Nat.reduceEqDiff, reduceIte, Nat.reduceMul, Nat.reduceAdd, Nat.reduceSub, Nat.add_zero, Nat.zero_add, Nat.mul_zero, eq_self_iff_true, jg_not_lt, jg_not_le, a9, a10, c10, hd1, hd2, im, io, g1, e13, hlp]
      rw [show jm_sI (jm_sI (jm_sI (jm_sI (jm_sI (jm_sI m2 41 0 0 (b + 10) (wS (gw (vlW V) k) + nI 1)) 41 0 0 (b + 11) (nI (vlD V))) 41 0 0 (b + 12) (nI 1)) 41 0 0 (b + 14 + 2 * (wX (gw (vlW V) k)).length) (nI ((wL (gw (vlW V) k)).getD p 0))) 41 0 0 (b + 14 + 2 * (wX (gw (vlW V) k)).length + 1) (nI p)) 41 0 0 (b + 13) (nI ((wX (gw (vlW V) k)).length + 1)) = m4 from hm4', d1]
      simp (disch := omega) only [jg_lit, jg_litL, jg_m1, jg_m1L, nI_add, lN_add, pk_mul, jg_sub, jg_subM, jg_addM, jg_addM', jg_negM, jt_in, jt_ix, jt_bi, jt_bl, jt_bv, jt_lt, jg_dT, jg_dF, jt_c, jt_cd, ru_I, ru_L, jg_leI, jg_ltI, jg_eqI, jg_M1, jg_M2, jg_M3, jg_M4, jg_M5, jg_M6, jg_ltT, jg_ltF, jg_leT, jg_leF, jg_eqT, jg_eqF, cond_true, cond_false, ne_eq, not_true_eq_false, not_false_eq_true, decide_true, decide_false, if_true, if_false, and_true, true_and, and_false, false_and, or_true, true_or, or_false, false_or, Nat.reduceEqDiff, reduceIte, Nat.reduceMul, Nat.reduceAdd, Nat.reduceSub, Nat.add_zero, Nat.zero_add, Nat.mul_zero, eq_self_iff_true, jg_not_lt, jg_not_le, h5l]
    have h626 := b3.2.1
    have v6 : mV (vlSet V ((vlW V).set k ((wL (gw (vlW V) k)).eraseIdx p, wM (gw (vlW V) k), wS (gw (vlW V) k) + 1, nI (vlD V), true, ((wL (gw (vlW V) k)).getD p 0, p) :: wX (gw (vlW V) k), wF (gw (vlW V) k)))) s m6 := mV_set h h12 hXa hk (by rw [hb]; exact w6) (fun c hc => by rw [f6 c (by omega), f4 c (by omega), f3 c (by omega), k2, k1])
    have hfr : fr (PS s) m m6 := ((hfr2.tr hfr3).tr hfr4).tr hfr6
    have hww : wWear (gw (vlW V) k) (some p) (nI (vlD V)) = if (wL (gw (vlW V) k)).eraseIdx p = [] then ([], 0, wS (gw (vlW V) k) + 1, nI (vlD V), true, [], wF (gw (vlW V) k)) else ((wL (gw (vlW V) k)).eraseIdx p, wM (gw (vlW V) k), wS (gw (vlW V) k) + 1, nI (vlD V), true, ((wL (gw (vlW V) k)).getD p 0, p) :: wX (gw (vlW V) k), wF (gw (vlW V) k)) := rfl
    rw [hsn, hto, l_X12_says_175]
    unfold sayWs
    rw [hg] at hw' ⊢
    rw [hww] at hw' ⊢
    by_cases z : (wL (gw (vlW V) k)).eraseIdx p = []
    · rw [if_pos z] at hw' ⊢
      have z1 : ((wL (gw (vlW V) k)).eraseIdx p).length = 0 := by rw [z]; rfl
      have ig := sm_isGoneR (b := b) hb1 (d + 4) m6
      have g6 := mW_gone w6
      have al0 : alk ((vlW V).set k ([], 0, wS (gw (vlW V) k) + 1, nI (vlD V), true, [], wF (gw (vlW V) k))) (wL ([], 0, wS (gw (vlW V) k) + 1, nI (vlD V), true, [], wF (gw (vlW V) k))) (some k) (vlW V).length 0 = none := by
        cases ha : alk ((vlW V).set k ([], 0, wS (gw (vlW V) k) + 1, nI (vlD V), true, [], wF (gw (vlW V) k))) (wL ([], 0, wS (gw (vlW V) k) + 1, nI (vlD V), true, [], wF (gw (vlW V) k))) (some k) (vlW V).length 0 with
        | none => rfl
        | some o =>
          obtain ⟨-, -, -, o3, o4⟩ := alk_some _ _ ha
          exact absurd o4 o3
      rw [al0]
      refine ⟨jm_sI (jm_sI (jm_sI m6 41 0 0 b 0) 41 0 0 (b + 9) 0) 41 0 0 (b + 13) 0, ?_, ?_, hfr.tr (by refine fr_sI (fr_sI (fr_sI .rf ?_) ?_) ?_ <;> exact Or.inl ⟨rfl, by omega, by omega⟩)⟩
      · rw [z1] at h626 ⊢
        simp (disch := omega) only [jg_lit, jg_litL, jg_m1, jg_m1L, nI_add, lN_add, pk_mul, jg_sub, jg_subM, jg_addM, jg_addM', jg_negM, jt_in, jt_ix, jt_bi, jt_bl, jt_bv, jt_lt, jg_dT, jg_dF, jt_c, jt_cd, ru_I, ru_L, jg_leI, jg_ltI, jg_eqI, jg_M1, jg_M2, jg_M3, jg_M4, jg_M5, jg_M6, jg_ltT, jg_ltF, jg_leT, jg_leF, jg_eqT, jg_eqF, cond_true, cond_false, ne_eq, not_true_eq_false, not_false_eq_true, decide_true, decide_false, if_true, if_false, and_true, true_and, and_false, false_and, or_true, true_or, or_false, false_or, Nat.reduceEqDiff, reduceIte, Nat.reduceMul, Nat.reduceAdd, Nat.reduceSub, Nat.add_zero, Nat.zero_add, Nat.mul_zero, eq_self_iff_true, jg_not_lt, jg_not_le, h626, ig]
      · have f7 : ∀ c, c < b ∨ b + 40 ≤ c → (jm_sI (jm_sI (jm_sI m6 41 0 0 b 0) 41 0 0 (b + 9) 0) 41 0 0 (b + 13) 0).1 41 0 0 c = m6.1 41 0 0 c := fun c hc => by simp (disch := omega) only [jg_lit, jg_litL, jg_m1, jg_m1L, nI_add, lN_add, pk_mul, jg_sub, jg_subM, jg_addM, jg_addM', jg_negM, jt_in, jt_ix, jt_bi, jt_bl, jt_bv, jt_lt, jg_dT, jg_dF, jt_c, jt_cd, ru_I, ru_L, jg_leI, jg_ltI, jg_eqI, jg_M1, jg_M2, jg_M3, jg_M4, jg_M5, jg_M6, jg_ltT, jg_ltF, jg_leT, jg_leF, jg_eqT, jg_eqF, cond_true, cond_false, ne_eq, not_true_eq_false, not_false_eq_true, decide_true, decide_false, if_true, if_false, and_true, true_and, and_false, false_and, or_true, true_or, or_false, false_or, Nat.reduceEqDiff, reduceIte, Nat.reduceMul, Nat.reduceAdd, Nat.reduceSub, Nat.add_zero, Nat.zero_add, Nat.mul_zero, eq_self_iff_true, jg_not_lt, jg_not_le]
        exact mV_set h h12 hXa hk (by rw [hb]; exact g6) (fun c hc => by rw [f7 c (by omega), f6 c (by omega), f4 c (by omega), f3 c (by omega), k2, k1])
    · rw [if_neg z] at hw' ⊢
      generalize hnw : ((wL (gw (vlW V) k)).eraseIdx p, wM (gw (vlW V) k), wS (gw (vlW V) k) + 1, nI (vlD V), true, ((wL (gw (vlW V) k)).getD p 0, p) :: wX (gw (vlW V) k), wF (gw (vlW V) k)) = nw at *
      have hnl : wL nw = (wL (gw (vlW V) k)).eraseIdx p := by rw [← hnw]
      have z1 : 0 < ((wL (gw (vlW V) k)).eraseIdx p).length := List.length_pos_iff.mpr z
      obtain ⟨m7, s1, s2, s3⟩ := sm_say_loop v6 hs (by show ((vlW V).set k nw).length ≤ 12; rw [List.length_set]; exact h12) (fun j hj => by
        have hj : j < ((vlW V).set k nw).length := hj
        show okW2 (gw ((vlW V).set k nw) j)
        rw [List.length_set] at hj
        rw [gw_set _ hk]
        split
        · exact hw'
        · exact hXa j hj) (k := k) (by show k < ((vlW V).set k nw).length; rw [List.length_set]; exact hk) (by show wL (gw ((vlW V).set k nw) k) ≠ []; rw [gw_set _ hk, if_pos rfl, hnl]; exact z) (.inl (nI p)) (.inl (nI (b + 14 + 2 * (wX (gw (vlW V) k)).length))) (d + 3) (vlW V).length 0 (by show 0 + _ = ((vlW V).set k nw).length; rw [List.length_set]; omega)
      refine ⟨m7, ?_, ?_, hfr.tr s3⟩
      · rw [hb] at s1
        simp (disch := omega) only [jg_lit, jg_litL, jg_m1, jg_m1L, nI_add, lN_add, pk_mul, jg_sub, jg_subM, jg_addM, jg_addM', jg_negM, jt_in, jt_ix, jt_bi, jt_bl, jt_bv, jt_lt, jg_dT, jg_dF, jt_c, jt_cd, ru_I, ru_L, jg_leI, jg_ltI, jg_eqI, jg_M1, jg_M2, jg_M3, jg_M4, jg_M5, jg_M6, jg_ltT, jg_ltF, jg_leT, jg_leF, jg_eqT, jg_eqF, cond_true, cond_false, ne_eq, not_true_eq_false, not_false_eq_true, decide_true, decide_false, if_true, if_false, and_true, true_and, and_false, false_and, or_true, true_or, or_false, false_or, Nat.reduceEqDiff, reduceIte, Nat.reduceMul, Nat.reduceAdd, Nat.reduceSub, Nat.add_zero, Nat.zero_add, Nat.mul_zero, eq_self_iff_true, jg_not_lt, jg_not_le, h626]
        exact s1
      · have hgk : wL (gw (vlW (vlSet V ((vlW V).set k nw))) k) = wL nw := by
          show wL (gw ((vlW V).set k nw) k) = _
          rw [gw_set _ hk, if_pos rfl]
        rw [hgk] at s2
        have hvw : vlW (vlSet V ((vlW V).set k nw)) = (vlW V).set k nw := rfl
        rw [hvw] at s2
        cases ha : alk ((vlW V).set k nw) (wL nw) (some k) (vlW V).length 0 with
        | none => rw [ha] at s2; exact s2
        | some o => rw [ha] at s2; exact s2
