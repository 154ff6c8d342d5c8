/-! ===== the place lost (reference) ===== -/
def mS (S : Sf) (μ : jm_M) : Prop := ∀ c, 1 ≤ c → c ≤ 26 → μ.1 41 0 0 (490 + c) = nI (rkM S c)
def whM (wh : Nat) : Nat := if wh = 0 then 18 else if wh = 1 then 19 else if wh = 2 then 3 else if wh = 3 then 20 else if wh = 4 then 21 else if wh = 5 then 23 else 22
theorem sm_softAt {ls : List Nat} (ho : okL ls) (h26 : ∀ c ∈ ls, c ≤ 26) {S : Sf} {m : jm_M} (hH : mH ls m) (hS : mS S m) {k : Nat} (hk : k < ls.length) (d : Nat) : jm_sem false (d + 1) jn_X12_softAt [vM, .inl (nI k)] m = some (.inl (nI (rkM S (ls.getD k 0))), m) := by
  have h8 := hH.1
  obtain ⟨l1, l2⟩ := let_ok ho h26 hk
  have e1 := hH.2.2 k hk
  have e2 := hS _ l1 l2
  rw [e_X12_softAt]
  simp (disch := omega) only [jg_lit, jg_litL, jg_m1, jg_m1L, nI_add, lN_add, pk_mul, jg_sub, jg_subM, jg_addM, jg_addM', jg_negM, jt_in, jt_ix, jt_bi, jt_bl, jt_bv, jt_lt, jg_dT, jg_dF, jt_c, jt_cd, ru_I, ru_L, jg_leI, jg_ltI, jg_eqI, jg_M1, jg_M2, jg_M3, jg_M4, jg_M5, jg_M6, jg_ltT, jg_ltF, jg_leT, jg_leF, jg_eqT, jg_eqF, cond_true, cond_false, ne_eq, not_true_eq_false, not_false_eq_true, decide_true, decide_false, if_true, if_false, and_true, true_and, and_false, false_and, or_true, true_or, or_false, false_or, Nat.reduceEqDiff, reduceIte, Nat.reduceMul, Nat.reduceAdd, Nat.reduceSub, Nat.add_zero, Nat.zero_add, Nat.mul_zero, eq_self_iff_true, jg_not_lt, jg_not_le, e1, e2]
theorem nI_p1 (k : Nat) : nI (k + 1) - 1 = nI k := by rw [jt_sub1 (by omega)]; rfl
theorem sm_soft_loop {ls : List Nat} (ho : okL ls) (h26 : ∀ c ∈ ls, c ≤ 26) {S : Sf} (oS : okS S) {m : jm_M} (hH : mH ls m) (hS : mS S m) (d : Nat) : ∀ (k p : Nat), k ≤ ls.length → p < ls.length → (∀ q, k ≤ q → q < ls.length → rkM S (ls.getD p 0) ≤ rkM S (ls.getD q 0) ∧ (q < p → rkM S (ls.getD p 0) < rkM S (ls.getD q 0))) → jm_ev false (d + 1) 11 1 jc_X12_placeBy 48 [vM, .inl (nI 3), .inl (nI p), .inl (nI k - 1)] [] m = some (.inl (nI (amin (fun p => rkM S (ls.getD p 0)) (ls.length - 1))), m)
  | 0, p, hk, hp, hq => by
    rw [← amin_u (f := fun p => rkM S (ls.getD p 0)) (p := p) (n := ls.length - 1) (by omega) (fun q h => hq q (Nat.zero_le _) (by omega)), l_X12_placeBy_48, show decide (nI 0 - 1 < 0) = true from by decide]
    simp (disch := omega) only [jg_lit, jg_litL, jg_m1, jg_m1L, nI_add, lN_add, pk_mul, jg_sub, jg_subM, jg_addM, jg_addM', jg_negM, jt_in, jt_ix, jt_bi, jt_bl, jt_bv, jt_lt, jg_dT, jg_dF, jt_c, jt_cd, ru_I, ru_L, jg_leI, jg_ltI, jg_eqI, jg_M1, jg_M2, jg_M3, jg_M4, jg_M5, jg_M6, jg_ltT, jg_ltF, jg_leT, jg_leF, jg_eqT, jg_eqF, cond_true, cond_false, ne_eq, not_true_eq_false, not_false_eq_true, decide_true, decide_false, if_true, if_false, and_true, true_and, and_false, false_and, or_true, true_or, or_false, false_or, Nat.reduceEqDiff, reduceIte, Nat.reduceMul, Nat.reduceAdd, Nat.reduceSub, Nat.add_zero, Nat.zero_add, Nat.mul_zero, eq_self_iff_true, jg_not_lt, jg_not_le]
  | k + 1, p, hk, hp, hq => by
    have h8 := hH.1
    obtain ⟨l1, l2⟩ := let_ok ho h26 (show k < ls.length by omega)
    obtain ⟨p1, p2⟩ := let_ok ho h26 hp
    have b1 := rkM_lt oS l2
    have b2 := rkM_lt oS p2
    have s1 := sm_softAt ho h26 hH hS (show k < ls.length by omega) d
    have s2 := sm_softAt ho h26 hH hS hp d
    rw [nI_p1, l_X12_placeBy_48, jt_cd, if_neg (nI_pos (by omega)), s1, jt_bi, s2, jt_bi, show nI k + -1 = nI k - 1 from (Int32.sub_eq_add_neg _ _).symm]
    by_cases c : rkM S (ls.getD p 0) < rkM S (ls.getD k 0)
    · rw [jt_dt (nI_lt c (by omega)), cond_true]
      refine sm_soft_loop ho h26 oS hH hS d k p (by omega) hp (fun q h1 h2 => ?_)
      by_cases e : q = k
      · subst e; exact ⟨by omega, fun _ => c⟩
      · exact hq q (by omega) h2
    · rw [jt_df (nI_nlt (by omega) (by omega)), cond_false]
      refine sm_soft_loop ho h26 oS hH hS d k k (by omega) (by omega) (fun q h1 h2 => ?_)
      by_cases e : q = k
      · subst e; exact ⟨Nat.le_refl _, fun z => absurd z (Nat.lt_irrefl _)⟩
      · have := hq q (by omega) h2
        exact ⟨by omega, fun z => by omega⟩
theorem sm_hard_loop {ls : List Nat} (ho : okL ls) (h26 : ∀ c ∈ ls, c ≤ 26) {S : Sf} (oS : okS S) {m : jm_M} (hH : mH ls m) (hS : mS S m) (d : Nat) : ∀ (k p : Nat), k ≤ ls.length → p < ls.length → (∀ q, k ≤ q → q < ls.length → rkM S (ls.getD q 0) ≤ rkM S (ls.getD p 0) ∧ (p < q → rkM S (ls.getD q 0) < rkM S (ls.getD p 0))) → k ≤ p → jm_ev false (d + 1) 11 1 jc_X12_placeBy 86 [vM, .inl (nI 20), .inl (nI p), .inl (nI k - 1)] [] m = some (.inl (nI (amax (fun p => rkM S (ls.getD p 0)) (ls.length - 1))), m)
  | 0, p, hk, hp, hq, hkp => by
    rw [← amax_u (f := fun p => rkM S (ls.getD p 0)) (p := p) (n := ls.length - 1) (by omega) (fun q h => hq q (Nat.zero_le _) (by omega)), l_X12_placeBy_86, show decide (nI 0 - 1 < 0) = true from by decide]
    simp (disch := omega) only [jg_lit, jg_litL, jg_m1, jg_m1L, nI_add, lN_add, pk_mul, jg_sub, jg_subM, jg_addM, jg_addM', jg_negM, jt_in, jt_ix, jt_bi, jt_bl, jt_bv, jt_lt, jg_dT, jg_dF, jt_c, jt_cd, ru_I, ru_L, jg_leI, jg_ltI, jg_eqI, jg_M1, jg_M2, jg_M3, jg_M4, jg_M5, jg_M6, jg_ltT, jg_ltF, jg_leT, jg_leF, jg_eqT, jg_eqF, cond_true, cond_false, ne_eq, not_true_eq_false, not_false_eq_true, decide_true, decide_false, if_true, if_false, and_true, true_and, and_false, false_and, or_true, true_or, or_false, false_or, Nat.reduceEqDiff, reduceIte, Nat.reduceMul, Nat.reduceAdd, Nat.reduceSub, Nat.add_zero, Nat.zero_add, Nat.mul_zero, eq_self_iff_true, jg_not_lt, jg_not_le]
  | k + 1, p, hk, hp, hq, hkp => by
    have h8 := hH.1
    obtain ⟨l1, l2⟩ := let_ok ho h26 (show k < ls.length by omega)
    obtain ⟨p1, p2⟩ := let_ok ho h26 hp
    have b1 := rkM_lt oS l2
    have b2 := rkM_lt oS p2
    have s1 := sm_softAt ho h26 hH hS (show k < ls.length by omega) d
    have s2 := sm_softAt ho h26 hH hS hp d
    rw [nI_p1, l_X12_placeBy_86, jt_cd, if_neg (nI_pos (by omega)), s1, jt_bi, s2, jt_bi, show nI k + -1 = nI k - 1 from (Int32.sub_eq_add_neg _ _).symm]
    by_cases c : rkM S (ls.getD k 0) ≤ rkM S (ls.getD p 0)
    · rw [jt_dt (nI_le c (by omega)), cond_true]
      refine sm_hard_loop ho h26 oS hH hS d k p (by omega) hp (fun q h1 h2 => ?_) (by omega)
      by_cases e : q = k
      · subst e; exact ⟨by omega, fun z => by omega⟩
      · exact hq q (by omega) h2
    · rw [jt_df (nI_ge (show rkM S (ls.getD p 0) < rkM S (ls.getD k 0) by omega) (by omega)), cond_false]
      refine sm_hard_loop ho h26 oS hH hS d k k (by omega) (by omega) (fun q h1 h2 => ?_) (by omega)
      by_cases e : q = k
      · subst e; exact ⟨Nat.le_refl _, fun z => absurd z (Nat.lt_irrefl _)⟩
      · have := hq q (by omega) h2
        exact ⟨by omega, fun z => by omega⟩
theorem sm_vow_loop {ls : List Nat} (ho : okL ls) (hn : ls ≠ []) {m : jm_M} (hH : mH ls m) (z1 z2 : jm_V) (d : Nat) : ∀ (k : Nat), k ≤ ls.length → jm_ev false (d + 1) 11 1 jc_X12_placeBy 124 [vM, z1, z2, .inl (nI k - 1)] [] m = some (.inl (nI (lvow ls k)), m)
  | 0, _ => by
    have hl : 0 < ls.length := List.length_pos_iff.mpr hn
    have h8 := hH.1
    have h2 := hH.2.1
    rw [l_X12_placeBy_124, show decide (nI 0 - 1 < 0) = true from by decide, cond_true, jt_df (show ¬ (nI 0 - 1 ≠ -1) from by decide), cond_false, h2, jt_sub1 hl]
    rfl
  | k + 1, hk => by
    have h8 := hH.1
    have c32 := okL_31 ho k
    have e1 := hH.2.2 k (by omega)
    rw [nI_p1, l_X12_placeBy_124, jt_cd, if_neg (nI_pos (by omega)), jt_in (show k < 8 by omega) (by decide), cond_true, jt_ix (by omega), e1, sm_isVowel c32, jt_bi, show nI k + -1 = nI k - 1 from (Int32.sub_eq_add_neg _ _).symm]
    unfold lvow
    cases hv : isVow (ls.getD k 0) with
    | false =>
      rw [show decide (bI false ≠ 0) = false from by decide, cond_false, if_neg (by decide)]
      exact sm_vow_loop ho hn hH z1 z2 d k (by omega)
    | true =>
      rw [show decide (bI true ≠ 0) = true from by decide, cond_true, if_pos rfl, jt_dt (jt_m1 (by omega)), cond_true]
theorem sm_placeBy {ls : List Nat} (ho : okL ls) (h26 : ∀ c ∈ ls, c ≤ 26) (hn : ls ≠ []) {S : Sf} (oS : okS S) {m : jm_M} (hH : mH ls m) (hS : mS S m) {wh : Nat} (hw : wh ≤ 6) (d : Nat) : jm_sem false (d + 2) jn_X12_placeBy [vM, .inl (nI (whM wh))] m = some (.inl (jpl (placeP S ls wh)), m) := by
  have hl : 0 < ls.length := List.length_pos_iff.mpr hn
  have h8 := hH.1
  have h2 := hH.2.1
  have hc : wh = 0 ∨ wh = 1 ∨ wh = 2 ∨ wh = 3 ∨ wh = 4 ∨ wh = 5 ∨ wh = 6 := by omega
  have hs : nI ls.length - 2 = nI (ls.length - 1) - 1 := by
    rw [← jt_sub1 hl, Int32.sub_eq_add_neg, Int32.sub_eq_add_neg, Int32.sub_eq_add_neg, Int32.add_assoc]
    rfl
  rcases hc with rfl | rfl | rfl | rfl | rfl | rfl | rfl
  · rw [show whM 0 = 18 from rfl]
    simp (disch := omega) only [jg_lit, jg_litL, jg_m1, jg_m1L, nI_add, lN_add, pk_mul, jg_sub, jg_subM, jg_addM, jg_addM', jg_negM, jt_in, jt_ix, jt_bi, jt_bl, jt_bv, jt_lt, jg_dT, jg_dF, jt_c, jt_cd, ru_I, ru_L, jg_leI, jg_ltI, jg_eqI, jg_M1, jg_M2, jg_M3, jg_M4, jg_M5, jg_M6, jg_ltT, jg_ltF, jg_leT, jg_leF, jg_eqT, jg_eqF, cond_true, cond_false, ne_eq, not_true_eq_false, not_false_eq_true, decide_true, decide_false, if_true, if_false, and_true, true_and, and_false, false_and, or_true, true_or, or_false, false_or, Nat.reduceEqDiff, reduceIte, Nat.reduceMul, Nat.reduceAdd, Nat.reduceSub, Nat.add_zero, Nat.zero_add, Nat.mul_zero, eq_self_iff_true, jg_not_lt, jg_not_le, e_X12_placeBy, l_X12_placeBy_28, h2]
    rfl
  · rw [show whM 1 = 19 from rfl]
    simp (disch := omega) only [jg_lit, jg_litL, jg_m1, jg_m1L, nI_add, lN_add, pk_mul, jg_sub, jg_subM, jg_addM, jg_addM', jg_negM, jt_in, jt_ix, jt_bi, jt_bl, jt_bv, jt_lt, jg_dT, jg_dF, jt_c, jt_cd, ru_I, ru_L, jg_leI, jg_ltI, jg_eqI, jg_M1, jg_M2, jg_M3, jg_M4, jg_M5, jg_M6, jg_ltT, jg_ltF, jg_leT, jg_leF, jg_eqT, jg_eqF, cond_true, cond_false, ne_eq, not_true_eq_false, not_false_eq_true, decide_true, decide_false, if_true, if_false, and_true, true_and, and_false, false_and, or_true, true_or, or_false, false_or, Nat.reduceEqDiff, reduceIte, Nat.reduceMul, Nat.reduceAdd, Nat.reduceSub, Nat.add_zero, Nat.zero_add, Nat.mul_zero, eq_self_iff_true, jg_not_lt, jg_not_le, e_X12_placeBy, l_X12_placeBy_28, h2]
    rfl
  · rw [show whM 2 = 3 from rfl]
    have := sm_soft_loop ho h26 oS hH hS d ls.length (ls.length - 1) (Nat.le_refl _) (by omega) (fun q h1 h2 => by omega)
    rw [jt_sub1 hl] at this
    simp (disch := omega) only [jg_lit, jg_litL, jg_m1, jg_m1L, nI_add, lN_add, pk_mul, jg_sub, jg_subM, jg_addM, jg_addM', jg_negM, jt_in, jt_ix, jt_bi, jt_bl, jt_bv, jt_lt, jg_dT, jg_dF, jt_c, jt_cd, ru_I, ru_L, jg_leI, jg_ltI, jg_eqI, jg_M1, jg_M2, jg_M3, jg_M4, jg_M5, jg_M6, jg_ltT, jg_ltF, jg_leT, jg_leF, jg_eqT, jg_eqF, cond_true, cond_false, ne_eq, not_true_eq_false, not_false_eq_true, decide_true, decide_false, if_true, if_false, and_true, true_and, and_false, false_and, or_true, true_or, or_false, false_or, Nat.reduceEqDiff, reduceIte, Nat.reduceMul, Nat.reduceAdd, Nat.reduceSub, Nat.add_zero, Nat.zero_add, Nat.mul_zero, eq_self_iff_true, jg_not_lt, jg_not_le, e_X12_placeBy, l_X12_placeBy_28, h2]
    exact this
  · rw [show whM 3 = 20 from rfl]
    have hs' : nI ls.length - nI 2 = nI (ls.length - 1) - nI 1 := hs
    have := sm_hard_loop ho h26 oS hH hS d (ls.length - 1) (ls.length - 1) (by omega) (by omega) (fun q h1 h2 => by
      have : q = ls.length - 1 := by omega
      subst this
      exact ⟨Nat.le_refl _, fun z => absurd z (Nat.lt_irrefl _)⟩) (Nat.le_refl _)
    rw [e_X12_placeBy, h2, jt_sub1 hl, jt_dt (show nI 20 ≠ 18 by decide), cond_true, jt_dt (show nI 20 ≠ 21 by decide), cond_true, l_X12_placeBy_28, h2, hs, jt_dt (show nI 20 ≠ 22 by decide), cond_true, jt_dt (show nI 20 ≠ 3 by decide), cond_true, jt_df (show ¬ (nI 20 ≠ 20) by decide), cond_false]
    exact this
  · rw [show whM 4 = 21 from rfl]
    have e2 : nI ls.length / nI 2 = nI (ls.length / 2) := pk_div (by omega) (by decide) (by decide)
    simp (disch := omega) only [jg_lit, jg_litL, jg_m1, jg_m1L, nI_add, lN_add, pk_mul, jg_sub, jg_subM, jg_addM, jg_addM', jg_negM, jt_in, jt_ix, jt_bi, jt_bl, jt_bv, jt_lt, jg_dT, jg_dF, jt_c, jt_cd, ru_I, ru_L, jg_leI, jg_ltI, jg_eqI, jg_M1, jg_M2, jg_M3, jg_M4, jg_M5, jg_M6, jg_ltT, jg_ltF, jg_leT, jg_leF, jg_eqT, jg_eqF, cond_true, cond_false, ne_eq, not_true_eq_false, not_false_eq_true, decide_true, decide_false, if_true, if_false, and_true, true_and, and_false, false_and, or_true, true_or, or_false, false_or, Nat.reduceEqDiff, reduceIte, Nat.reduceMul, Nat.reduceAdd, Nat.reduceSub, Nat.add_zero, Nat.zero_add, Nat.mul_zero, eq_self_iff_true, jg_not_lt, jg_not_le, e_X12_placeBy, l_X12_placeBy_28, h2, e2]
    rfl
  · rw [show whM 5 = 23 from rfl]
    have := fun z1 z2 => sm_vow_loop ho hn hH z1 z2 d ls.length (Nat.le_refl _)
    rw [jt_sub1 hl] at this
    simp (disch := omega) only [jg_lit, jg_litL, jg_m1, jg_m1L, nI_add, lN_add, pk_mul, jg_sub, jg_subM, jg_addM, jg_addM', jg_negM, jt_in, jt_ix, jt_bi, jt_bl, jt_bv, jt_lt, jg_dT, jg_dF, jt_c, jt_cd, ru_I, ru_L, jg_leI, jg_ltI, jg_eqI, jg_M1, jg_M2, jg_M3, jg_M4, jg_M5, jg_M6, jg_ltT, jg_ltF, jg_leT, jg_leF, jg_eqT, jg_eqF, cond_true, cond_false, ne_eq, not_true_eq_false, not_false_eq_true, decide_true, decide_false, if_true, if_false, and_true, true_and, and_false, false_and, or_true, true_or, or_false, false_or, Nat.reduceEqDiff, reduceIte, Nat.reduceMul, Nat.reduceAdd, Nat.reduceSub, Nat.add_zero, Nat.zero_add, Nat.mul_zero, eq_self_iff_true, jg_not_lt, jg_not_le, e_X12_placeBy, l_X12_placeBy_28, h2]
    exact this _ _
  · rw [show whM 6 = 22 from rfl]
    simp (disch := omega) only [jg_lit, jg_litL, jg_m1, jg_m1L, nI_add, lN_add, pk_mul, jg_sub, jg_subM, jg_addM, jg_addM', jg_negM, jt_in, jt_ix, jt_bi, jt_bl, jt_bv, jt_lt, jg_dT, jg_dF, jt_c, jt_cd, ru_I, ru_L, jg_leI, jg_ltI, jg_eqI, jg_M1, jg_M2, jg_M3, jg_M4, jg_M5, jg_M6, jg_ltT, jg_ltF, jg_leT, jg_leF, jg_eqT, jg_eqF, cond_true, cond_false, ne_eq, not_true_eq_false, not_false_eq_true, decide_true, decide_false, if_true, if_false, and_true, true_and, and_false, false_and, or_true, true_or, or_false, false_or, Nat.reduceEqDiff, reduceIte, Nat.reduceMul, Nat.reduceAdd, Nat.reduceSub, Nat.add_zero, Nat.zero_add, Nat.mul_zero, eq_self_iff_true, jg_not_lt, jg_not_le, e_X12_placeBy, l_X12_placeBy_28, h2]
    rfl
/-- a LAW in the reference -/
def mL (R : List Rl) (μ : jm_M) : Prop := μ.1 41 0 0 3 = nI R.length ∧ mC (cs R) μ ∧ ∀ r, r < R.length → μ.1 41 0 0 (520 + 3 * r) = nI (en R r) ∧ μ.1 41 0 0 (521 + 3 * r) = nI (en R (r + 1)) ∧ μ.1 41 0 0 (522 + 3 * r) = nI (whM (R.getD r ([], 0)).2)
theorem mL_k {R : List Rl} {μ μ' : jm_M} (h : mL R μ) (hk : ∀ k, μ'.1 41 0 0 k = μ.1 41 0 0 k) : mL R μ' := by
  unfold mL mC at h ⊢
  simp only [hk]
  exact h
theorem whM_lt (w : Nat) : whM w < 24 := by
  unfold whM
  repeat (split; · decide)
  decide
theorem mn99_le (x : Int32) : (if (99 : Int32) ≤ x then 99 else x) = mn99 x := by
  unfold mn99
  by_cases h : (99 : Int32) < x
  · rw [if_pos h, if_pos (by rw [Int32.lt_iff_toInt_lt] at h; rw [Int32.le_iff_toInt_le]; omega)]
  · rw [if_neg h]
    by_cases e : (99 : Int32) ≤ x
    · rw [if_pos e]
      rw [Int32.lt_iff_toInt_lt] at h
      rw [Int32.le_iff_toInt_le] at e
      apply Int32.toInt_inj.mp
      omega
    · rw [if_neg e]
theorem sm_goes_loop {ls : List Nat} (ho : okL ls) (h26 : ∀ c ∈ ls, c ≤ 26) (hn : ls ≠ []) {S : Sf} (oS : okS S) {R : List Rl} (oR : okR R) (sh : Bool) (said day idle : Int32) (z3 z4 : jm_V) (d : Nat) : ∀ (q r : Nat) (m : jm_M), r + q = R.length → mH ls m → mS S m → mL R m → ∃ m', jm_ev false (d + 4) 11 1 jc_X12_goes 33 [vM, .inl (bI sh), .inl said, z3, z4, .inl day, .inl idle, .inl (nI r)] [] m = some (.inl (jpl (goP S ls sh said day idle (R.drop r))), m') ∧ jk P50 m m'
  | 0, r, m, hq, hH, hS, hL => by
    have hl : 0 < ls.length := List.length_pos_iff.mpr hn
    have h12 := oR.1
    have h2 := hH.2.1
    have h3 := hL.1
    refine ⟨m, ?_, .rf⟩
    rw [l_X12_goes_33, List.drop_eq_nil_of_le (by omega)]
    simp (disch := omega) only [jg_lit, jg_litL, jg_m1, jg_m1L, nI_add, lN_add, pk_mul, jg_sub, jg_subM, jg_addM, jg_addM', jg_negM, jt_in, jt_ix, jt_bi, jt_bl, jt_bv, jt_lt, jg_dT, jg_dF, jt_c, jt_cd, ru_I, ru_L, jg_leI, jg_ltI, jg_eqI, jg_M1, jg_M2, jg_M3, jg_M4, jg_M5, jg_M6, jg_ltT, jg_ltF, jg_leT, jg_leF, jg_eqT, jg_eqF, cond_true, cond_false, ne_eq, not_true_eq_false, not_false_eq_true, decide_true, decide_false, if_true, if_false, and_true, true_and, and_false, false_and, or_true, true_or, or_false, false_or, Nat.reduceEqDiff, reduceIte, Nat.reduceMul, Nat.reduceAdd, Nat.reduceSub, Nat.add_zero, Nat.zero_add, Nat.mul_zero, eq_self_iff_true, jg_not_lt, jg_not_le, h3, h2]
    rfl
  | q + 1, r, m, hq, hH, hS, hL => by
    have h12 := oR.1
    have hr : r < R.length := by omega
    have hg := okR_g oR hr
    have h3 := hL.1
    obtain ⟨c1, c2, c3⟩ := hL.2.2 r hr
    have e1 : R.drop r = R.getD r ([], 0) :: R.drop (r + 1) := by
      rw [List.drop_eq_getElem_cons hr]
      simp [List.getD, List.getElem?_eq_getElem hr]
    obtain ⟨m1, a1, a2⟩ := sm_holds ho hn oR.2.1 (okR_c oR) (show r < 12 by omega) sh said day idle (a := en R r) (e := en R (r + 1)) (by rw [en_s hr]; omega) (en_le _) (by rw [en_seg hr]; exact hg.2.1) hH hL.2.1 c1 c2 d
    rw [en_seg hr] at a1
    have k41 := jk50_41 a2 (K := 41) (by decide)
    have hH1 : mH ls m1 := ⟨hH.1, by rw [jk50_41 a2 (by decide)]; exact hH.2.1, fun k hk => by rw [jk50_41 a2 (by decide)]; exact hH.2.2 k hk⟩
    have hS1 : mS S m1 := fun c h1 h2 => by rw [k41]; exact hS c h1 h2
    have hL1 : mL R m1 := mL_k hL (k41 0 0)
    rw [l_X12_goes_33, e1]
    unfold goP
    cases hb : (evB (askB ls sh said day idle) (R.getD r ([], 0)).1 []).headD false with
    | false =>
      rw [hb] at a1
      obtain ⟨m2, b1, b2⟩ := sm_goes_loop ho h26 hn oS oR sh said day idle z3 z4 d q (r + 1) m1 (by omega) hH1 hS1 hL1
      refine ⟨m2, ?_, a2.tr b2⟩
      rw [if_neg (by decide)]
      have b0 : (bI false = nI 0) = True := eq_true rfl
      simp (disch := omega) only [jg_lit, jg_litL, jg_m1, jg_m1L, nI_add, lN_add, pk_mul, jg_sub, jg_subM, jg_addM, jg_addM', jg_negM, jt_in, jt_ix, jt_bi, jt_bl, jt_bv, jt_lt, jg_dT, jg_dF, jt_c, jt_cd, ru_I, ru_L, jg_leI, jg_ltI, jg_eqI, jg_M1, jg_M2, jg_M3, jg_M4, jg_M5, jg_M6, jg_ltT, jg_ltF, jg_leT, jg_leF, jg_eqT, jg_eqF, cond_true, cond_false, ne_eq, not_true_eq_false, not_false_eq_true, decide_true, decide_false, if_true, if_false, and_true, true_and, and_false, false_and, or_true, true_or, or_false, false_or, Nat.reduceEqDiff, reduceIte, Nat.reduceMul, Nat.reduceAdd, Nat.reduceSub, Nat.add_zero, Nat.zero_add, Nat.mul_zero, eq_self_iff_true, jg_not_lt, jg_not_le, h3, a1, b0]
      exact b1
    | true =>
      rw [hb] at a1
      refine ⟨m1, ?_, a2⟩
      rw [if_pos rfl]
      have b0 : (bI true = nI 0) = False := eq_false (by decide)
      have c31 : m1.1 41 0 0 (522 + 3 * r) = nI (whM (R.getD r ([], 0)).2) := (hL1.2.2 r hr).2.2
      have pb := sm_placeBy ho h26 hn oS hH1 hS1 hg.2.2 (d + 2)
      have ea : (520 : Int32) + (3 : Int32) * nI r + 2 = nI (522 + 3 * r) := by
        rw [show (520 : Int32) = nI 520 from rfl, show (3 : Int32) = nI 3 from rfl, pk_mul, nI_add, show (2 : Int32) = nI 2 from rfl, nI_add]
        congr 1
        omega
      rw [ea]
      simp (disch := omega) only [jg_lit, jg_litL, jg_m1, jg_m1L, nI_add, lN_add, pk_mul, jg_sub, jg_subM, jg_addM, jg_addM', jg_negM, jt_in, jt_ix, jt_bi, jt_bl, jt_bv, jt_lt, jg_dT, jg_dF, jt_c, jt_cd, ru_I, ru_L, jg_leI, jg_ltI, jg_eqI, jg_M1, jg_M2, jg_M3, jg_M4, jg_M5, jg_M6, jg_ltT, jg_ltF, jg_leT, jg_leF, jg_eqT, jg_eqF, cond_true, cond_false, ne_eq, not_true_eq_false, not_false_eq_true, decide_true, decide_false, if_true, if_false, and_true, true_and, and_false, false_and, or_true, true_or, or_false, false_or, Nat.reduceEqDiff, reduceIte, Nat.reduceMul, Nat.reduceAdd, Nat.reduceSub, Nat.add_zero, Nat.zero_add, Nat.mul_zero, eq_self_iff_true, jg_not_lt, jg_not_le, h3, a1, b0, c31, pb]
theorem sm_goes {ls : List Nat} (ho : okL ls) (h26 : ∀ c ∈ ls, c ≤ 26) (hn : ls ≠ []) {S : Sf} (oS : okS S) {R : List Rl} (oR : okR R) (sh : Bool) (said day idle : Int32) (d : Nat) {m : jm_M} (hH : mH ls m) (hS : mS S m) (hL : mL R m) : ∃ m', jm_sem false (d + 5) jn_X12_goes [vM, .inl (bI sh), .inl said, .inl day, .inl idle] m = some (.inl (jpl (goP S ls sh said (mn99 day) (mn99 idle) R)), m') ∧ jk P50 m m' := by
  obtain ⟨m', e1, e2⟩ := sm_goes_loop ho h26 hn oS oR sh said (mn99 day) (mn99 idle) (.inl day) (.inl idle) d R.length 0 m (by omega) hH hS hL
  refine ⟨m', ?_, e2⟩
  rw [e_X12_goes]
  rw [List.drop_zero] at e1
  rw [← e1, ← mn99_le day, ← mn99_le idle]
  by_cases c1 : (99 : Int32) ≤ day
  · rw [jt_dt c1, cond_true, if_pos c1]
    by_cases c2 : (99 : Int32) ≤ idle
    · rw [jt_dt c2, if_pos c2]; rfl
    · rw [jt_df c2, if_neg c2]; rfl
  · rw [jt_df c1, cond_false, if_neg c1]
    by_cases c2 : (99 : Int32) ≤ idle
    · rw [jt_dt c2, if_pos c2]; rfl
    · rw [jt_df c2, if_neg c2]; rfl
