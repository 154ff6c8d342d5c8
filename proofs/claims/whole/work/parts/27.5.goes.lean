/-! ===== what a piece asks (reference) ===== -/
theorem sm_isVowel {c : Nat} (h : c < 32) (d : Nat) (m : jm_M) : jm_sem false (d + 1) jn_X12_isVowel [.inl (nI c)] m = some (.inl (bI (isVow c)), m) := by
  rw [e_X12_isVowel]
  simp (disch := omega) only [jg_lit, jg_litL, jg_m1, jg_m1L, nI_add, lN_add, pk_mul, jg_sub, jg_subM, jg_addM, jg_addM', jg_negM, jt_in, jt_ix, jt_bi, jt_bl, jt_bv, jt_lt, jg_dT, jg_dF, jt_c, jt_cd, ru_I, ru_L, jg_leI, jg_ltI, jg_eqI, jg_M1, jg_M2, jg_M3, jg_M4, jg_M5, jg_M6, jg_ltT, jg_ltF, jg_leT, jg_leF, jg_eqT, jg_eqF, cond_true, cond_false, ne_eq, not_true_eq_false, not_false_eq_true, decide_true, decide_false, if_true, if_false, and_true, true_and, and_false, false_and, or_true, true_or, or_false, false_or, Nat.reduceEqDiff, reduceIte, Nat.reduceMul, Nat.reduceAdd, Nat.reduceSub, Nat.add_zero, Nat.zero_add, Nat.mul_zero, eq_self_iff_true, jg_not_lt, jg_not_le]
  unfold isVow
  by_cases h1 : c = 1
  · subst h1; rfl
  · by_cases h2 : c = 5
    · subst h2; rfl
    · by_cases h3 : c = 9
      · subst h3; rfl
      · by_cases h4 : c = 15
        · subst h4; rfl
        · by_cases h5 : c = 21
          · subst h5; rfl
          · simp only [h1, h2, h3, h4, h5, not_false_eq_true, reduceIte, if_false]
            rw [show (c == 1) = false from beq_eq_false_iff_ne.mpr h1, show (c == 5) = false from beq_eq_false_iff_ne.mpr h2, show (c == 9) = false from beq_eq_false_iff_ne.mpr h3, show (c == 15) = false from beq_eq_false_iff_ne.mpr h4, show (c == 21) = false from beq_eq_false_iff_ne.mpr h5]
            rfl
theorem bI_1 (b : Bool) : bI b &&& 1 = bI b := by cases b <;> decide
theorem sm_isSuch {c t : Nat} (h : c < 32) (ht : t ≤ 26) (d : Nat) (m : jm_M) : jm_sem false (d + 2) jn_X12_isSuch [.inl (nI c), .inl (nI t)] m = some (.inl (bI (isSuchB c t)), m) := by
  rw [e_X12_isSuch, sm_isVowel h, jt_bi]
  unfold isSuchB
  by_cases e : t = 0
  · subst e
    rw [show decide (nI 0 ≠ 0) = false from by decide, cond_false, bI_1]
    simp
  · rw [show decide (nI t ≠ 0) = true from decide_eq_true (nI_ne0 (by omega) (by omega)), cond_true, if_neg e]
    by_cases e2 : c = t
    · subst e2
      rw [jt_df (fun z => z rfl)]
      simp
      rfl
    · rw [jt_dt (by rw [ne_eq, nI_eq (by omega) (by omega)]; exact e2)]
      rw [show (c == t) = false from beq_eq_false_iff_ne.mpr e2]
      rfl
def whatM (c : Ck) : Nat := if c.1 = 0 then 10 else if c.1 ≤ 3 then 1000 * (10 + c.1) + c.2 else if c.1 ≤ 7 then 100000 * (10 + c.1) + 1000 * (c.2 % 4) + c.2 / 4 else if c.1 = 8 then 9 else if c.1 = 9 then 8 else 7
theorem sm_cmp (d : Nat) (z2 z3 z4 z5 z6 z7 z8 z9 : jm_V) (v : Int32) {a b n : Nat} (ha : a ≤ 7) (hb : b / 4 ≤ 99) (hb2 : b % 4 < 3) (hn : n = 100000 * (10 + a) + 1000 * (b % 4) + b / 4) (m : jm_M) : jm_ev false d 11 2 jc_X12_asked 167 [vM, .inl (nI n), z2, z3, z4, z5, z6, z7, z8, z9] [.inl v] m = some (.inl (bI (cmpB v b)), m) := by
  have e1 : nI n / 1000 = nI (n / 1000) := pk_div (d := 1000) (by omega) (by decide) (by decide)
  have e2 : nI (n / 1000) - nI (n / 1000) / 100 * 100 = nI (n / 1000 % 100) := pk_rem (d := 100) (by omega) (by decide) (by decide)
  have e3 : nI n - nI (n / 1000) * 1000 = nI (n % 1000) := by
    rw [← e1]
    exact pk_rem (d := 1000) (by omega) (by decide) (by decide)
  have e40 : n / 1000 = 100 * (10 + a) + b % 4 := by omega
  have e4 : n / 1000 % 100 = b % 4 := by rw [e40]; omega
  have e5 : n % 1000 = b / 4 := by omega
  rw [l_X12_asked_167, e1, e2, e3, e4, e5, jt_dt (by decide), cond_true, jt_dt (by decide), cond_true, cond_true]
  unfold cmpB
  have h3 : b % 4 = 0 ∨ b % 4 = 1 ∨ b % 4 = 2 := by omega
  rcases h3 with h | h | h
  · rw [h]
    simp only [jt_c, jt_cd, if_neg (show ¬ (nI 0 ≠ 0) by decide), if_true]
    exact bI_cd _ _ m (by rw [decide_eq_false_iff_not, Int32.not_lt])
  · rw [h]
    simp only [jt_c, jt_cd, if_pos (show (nI 1 ≠ 0) by decide), if_neg (show ¬ (nI 1 ≠ 1) by decide), if_neg (show ¬ (1 = 0) by decide), if_true]
    exact bI_cd _ _ m (by rw [decide_eq_false_iff_not, Int32.not_lt])
  · rw [h]
    simp only [jt_c, jt_cd, if_pos (show (nI 2 ≠ 0) by decide), if_pos (show (nI 2 ≠ 1) by decide), if_neg (show ¬ (2 = 0) by decide), if_neg (show ¬ (2 = 1) by decide)]
    exact bI_cd _ _ m (by rw [decide_eq_false_iff_not])
theorem any_take_s {ls : List Nat} {k : Nat} (f : Nat → Bool) (h : k < ls.length) : (ls.take (k + 1)).any f = ((ls.take k).any f || f (ls.getD k 0)) := by
  rw [take_snoc h, List.any_append]
  simp
theorem sm_has_loop {ls : List Nat} (ho : okL ls) {m : jm_M} (h : mH ls m) {t : Nat} (ht : t ≤ 26) (z1 z2 z3 z4 z5 z6 : jm_V) (d : Nat) : ∀ (r k : Nat), k + r = ls.length → jm_ev false (d + 2) 11 2 jc_X12_asked 77 [vM, z1, z2, z3, z4, z5, z6, .inl (nI t), .inl (bI ((ls.take k).any (fun x => isSuchB x t))), .inl (nI k)] [] m = some (.inl (bI (ls.any (fun x => isSuchB x t))), m)
  | 0, k, hk => by
    have h8 := h.1
    rw [l_X12_asked_77, h.2.1, jt_dt (nI_le (show ls.length ≤ k by omega) (by omega)), cond_true, bI_1, List.take_of_length_le (by omega)]
    simp
  | r + 1, k, hk => by
    have h8 := h.1
    have hk' : k < ls.length := by omega
    have c32 := okL_31 ho k
    have ih := sm_has_loop ho h ht z1 z2 z3 z4 z5 z6 d r (k + 1) (by omega)
    rw [any_take_s _ hk'] at ih
    rw [l_X12_asked_77, h.2.1, jt_df (nI_ge hk' (by omega)), cond_false, nI_1, jt_in (show k < 8 by omega) (by decide), cond_true, jt_ix (by omega), h.2.2 k hk', sm_isSuch c32 ht, jt_bi]
    cases ha : (ls.take k).any (fun x => isSuchB x t) with
    | true =>
      rw [ha, Bool.true_or] at ih
      rw [show decide (bI true ≠ 0) = true from by decide, cond_true]
      exact ih
    | false =>
      rw [ha, Bool.false_or] at ih
      rw [show decide (bI false ≠ 0) = false from by decide, cond_false]
      cases hb : isSuchB (ls.getD k 0) t with
      | true =>
        rw [hb] at ih
        rw [show decide (bI true = 0) = false from by decide, cond_false]
        exact ih
      | false =>
        rw [hb] at ih
        rw [show decide (bI false = 0) = true from by decide, cond_true]
        exact ih
theorem sm_asked {ls : List Nat} (ho : okL ls) (hn : ls ≠ []) {m : jm_M} (h : mH ls m) {c : Ck} (hc : okCk c) (hc7 : c.1 < 8) (sh : Bool) (said day idle : Int32) (d : Nat) : jm_sem false (d + 3) jn_X12_asked [vM, .inl (nI (whatM c)), .inl (bI sh), .inl said, .inl day, .inl idle] m = some (.inl (bI (askB ls sh said day idle c)), m) := by
  obtain ⟨a, b⟩ := c
  have h8 := h.1
  have hl : 0 < ls.length := List.length_pos_iff.mpr hn
  have hm := h.2.1
  have hc7 : a < 8 := hc7
  have h1 := hc.2.1
  have h2 := hc.2.2
  dsimp only at h1 h2
  have ha : a = 0 ∨ (1 ≤ a ∧ a ≤ 3) ∨ (4 ≤ a ∧ a ≤ 7) := by omega
  rcases ha with rfl | ha | ha
  · rw [e_X12_asked]
    show cond (jm_dec (nI 10 ≠ 10)) _ _ = _
    rw [jt_df (fun z => z rfl), cond_false, bI_1]
    simp [askB]
  · have hb := h1 ha.1 ha.2
    have ew : whatM (a, b) = 1000 * (10 + a) + b := by
      unfold whatM
      dsimp only
      rw [if_neg (by omega), if_pos ha.2]
    rw [ew]
    have e1 : nI (1000 * (10 + a) + b) / 1000 = nI (10 + a) := by
      rw [show (1000 : Int32) = nI 1000 from rfl, pk_div (by omega) (by decide) (by decide)]
      congr 1
      omega
    have e3 : nI (1000 * (10 + a) + b) - nI (10 + a) * 1000 = nI b := by
      rw [show (1000 : Int32) = nI 1000 from rfl, pk_mul, jg_sub (by omega)]
      congr 1
      omega
    rw [e_X12_asked, jt_dt (show nI (1000 * (10 + a) + b) ≠ 10 by rw [ne_eq, show (10 : Int32) = nI 10 from rfl, nI_eq (by omega) (by decide)]; omega), cond_true, jt_df (show ¬ (100000 : Int32) ≤ nI (1000 * (10 + a) + b) from nI_ge (b := 100000) (by omega) (by decide)), cond_false, e1, e3, jt_dt (show ¬ (1000 : Int32) = 0 by decide), cond_true, cond_true]
    have h3 : a = 1 ∨ a = 2 ∨ a = 3 := by omega
    rcases h3 with rfl | rfl | rfl
    · rw [jt_df (show ¬ (nI (10 + 1) ≠ 11) by decide), cond_false, show (0 : Int32) = nI 0 from rfl, jt_in (by decide) (by decide), cond_true, jt_ix (by decide), h.2.2 0 hl, sm_isSuch (okL_31 ho 0) hb, jt_bi, bI_1]
      simp [askB]
    · rw [jt_dt (show (nI (10 + 2) ≠ 11) by decide), cond_true, jt_df (show ¬ (nI (10 + 2) ≠ 12) by decide), cond_false, hm, jt_sub1 hl, jt_in (by omega) (by decide), cond_true, jt_ix (by omega), h.2.2 (ls.length - 1) (by omega), sm_isSuch (okL_31 ho _) hb, jt_bi, bI_1]
      simp [askB]
    · rw [jt_dt (show (nI (10 + 3) ≠ 11) by decide), cond_true, jt_dt (show (nI (10 + 3) ≠ 12) by decide), cond_true]
      exact sm_has_loop ho h hb _ _ _ _ _ _ d ls.length 0 (by omega)
  · obtain ⟨hb1, hb2⟩ := h2 ha.1 ha.2
    have ew : whatM (a, b) = 100000 * (10 + a) + 1000 * (b % 4) + b / 4 := by
      unfold whatM
      dsimp only
      rw [if_neg (by omega), if_neg (by omega), if_pos ha.2]
    have hn2 : whatM (a, b) < 2 ^ 31 := by omega
    have e1 : nI (whatM (a, b)) / 100000 = nI (10 + a) := by
      rw [show (100000 : Int32) = nI 100000 from rfl, pk_div (by omega) (by decide) (by decide)]
      congr 1
      omega
    rw [e_X12_asked, jt_dt (show nI (whatM (a, b)) ≠ 10 by rw [ne_eq, show (10 : Int32) = nI 10 from rfl, nI_eq (by omega) (by decide)]; omega), cond_true, jt_dt (show (100000 : Int32) ≤ nI (whatM (a, b)) from nI_le (a := 100000) (by omega) (by omega)), cond_true, e1, jt_dt (by decide), cond_true]
    have h3 : a = 4 ∨ a = 5 ∨ a = 6 ∨ a = 7 := by omega
    rcases h3 with rfl | rfl | rfl | rfl
    · rw [jt_df (show ¬ (nI (10 + 4) ≠ 14) by decide), cond_false, hm, sm_cmp (a := 4) (b := b) _ _ _ _ _ _ _ _ _ _ (by omega) hb1 hb2 ew]
      simp [askB]
    · rw [jt_dt (show (nI (10 + 5) ≠ 14) by decide), cond_true, jt_df (show ¬ (nI (10 + 5) ≠ 15) by decide), cond_false, sm_cmp (a := 5) (b := b) _ _ _ _ _ _ _ _ _ _ (by omega) hb1 hb2 ew]
      simp [askB]
    · rw [jt_dt (show (nI (10 + 6) ≠ 14) by decide), cond_true, jt_dt (show (nI (10 + 6) ≠ 15) by decide), cond_true, jt_df (show ¬ (nI (10 + 6) ≠ 16) by decide), cond_false, sm_cmp (a := 6) (b := b) _ _ _ _ _ _ _ _ _ _ (by omega) hb1 hb2 ew]
      simp [askB]
    · rw [jt_dt (show (nI (10 + 7) ≠ 14) by decide), cond_true, jt_dt (show (nI (10 + 7) ≠ 15) by decide), cond_true, jt_dt (show (nI (10 + 7) ≠ 16) by decide), cond_true, sm_cmp (a := 7) (b := b) _ _ _ _ _ _ _ _ _ _ (by omega) hb1 hb2 ew]
      simp [askB]
