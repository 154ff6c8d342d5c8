/-! ===== whether a RULE holds, the place lost (reference) ===== -/
def mC (C : List Ck) (μ : jm_M) : Prop := ∀ k, k < C.length → μ.1 41 0 0 (560 + k) = nI (whatM (C.getD k (0, 0)))
def mB (st : List Bool) (μ : jm_M) : Prop := ∀ k, k < st.length → μ.1 50 0 0 k = bI (st.getD (st.length - 1 - k) false)
def P50 (K _k : Nat) : Prop := K = 50
theorem mB_set {st : List Bool} {μ : jm_M} (h : mB st μ) (b : Bool) : mB (b :: st) (jm_sI μ 50 0 0 st.length (bI b)) := by
  intro k hk
  rw [rd_II]
  by_cases e : k = st.length
  · rw [if_pos ⟨rfl, rfl, rfl, e⟩, e]
    simp
  · have hk' : k < st.length := by simp only [List.length_cons] at hk; omega
    rw [if_neg (fun z => e z.2.2.2), h k hk']
    have : (b :: st).length - 1 - k = (st.length - 1 - k) + 1 := by simp only [List.length_cons]; omega
    rw [this]
    simp
theorem mB_tl {x : Bool} {st : List Bool} {μ : jm_M} (h : mB (x :: st) μ) : mB st μ := by
  intro k hk
  rw [h k (by simp only [List.length_cons]; omega)]
  have : (x :: st).length - 1 - k = (st.length - 1 - k) + 1 := by simp only [List.length_cons]; omega
  rw [this]
  simp
theorem mB_hd {x : Bool} {st : List Bool} {μ : jm_M} (h : mB (x :: st) μ) : μ.1 50 0 0 st.length = bI x := by
  rw [h st.length (by simp)]
  simp
theorem jk50_41 {μ μ' : jm_M} (h : jk P50 μ μ') {K : Nat} (hK : K ≠ 50) (i j k : Nat) : μ'.1 K i j k = μ.1 K i j k := (h K k hK i j).1
theorem whatM_lt {c : Ck} (h : okCk c) : whatM c < 2 ^ 31 := by
  unfold whatM
  have h1 := h.2.1
  have h2 := h.2.2
  split
  · decide
  · split
    · rename_i a b; have := h1 (by omega) b; omega
    · split
      · rename_i a b c; have := h2 (by omega) c; omega
      · split
        · decide
        · split <;> decide
theorem whatM_7 {c : Ck} (h : c.1 < 8) : 10 ≤ whatM c := by
  unfold whatM
  split
  · decide
  · split
    · omega
    · split
      · omega
      · omega
theorem bI_n1 (b : Bool) : (bI b = 0) = (b = false) := by cases b <;> simp [bI]
theorem sm_holds_loop {ls : List Nat} (ho : okL ls) (hn : ls ≠ []) {C : List Ck} (hC : C.length ≤ 150) (hk : ∀ c ∈ C, okCk c) {rl : Nat} (hrl : rl < 12) (sh : Bool) (said day idle : Int32) {e : Nat} (he : e ≤ C.length) (d : Nat) : ∀ (r k : Nat) (st : List Bool) (z8 : jm_V) (m : jm_M), k + r = e → st.length ≤ 28 → dep ((C.drop k).take r) st.length = some 1 → mH ls m → mC C m → m.1 41 0 0 (521 + 3 * rl) = nI e → mB st m → ∃ m', jm_ev false (d + 3) 11 2 jc_X12_holds 17 [vM, .inl (nI rl), .inl (bI sh), .inl said, .inl day, .inl idle, .inl (nI st.length), .inl (nI k), z8] [] m = some (.inl (bI ((evB (askB ls sh said day idle) ((C.drop k).take r) st).headD false)), m') ∧ jk P50 m m'
  | 0, k, st, z8, m, hr, hs, hd, hH, hm, hE, hB => by
    rw [List.take_zero] at hd ⊢
    have h1 : st.length = 1 := by simpa [dep] using hd
    obtain ⟨b, rfl⟩ := List.length_eq_one_iff.mp h1
    have hb := mB_hd hB
    simp only [List.length_nil] at hb
    refine ⟨m, ?_, .rf⟩
    rw [l_X12_holds_17]
    have ea : (520 : Int32) + (3 : Int32) * nI rl + 1 = nI (521 + 3 * rl) := by
      rw [show (520 : Int32) = nI 520 from rfl, show (3 : Int32) = nI 3 from rfl, pk_mul, nI_add, nI_1]
      congr 1
      omega
    rw [ea]
    have hb1 : bI b &&& nI 1 = bI b := bI_1 b
    simp (disch := omega) only [jg_lit, jg_litL, jg_m1, jg_m1L, nI_add, lN_add, pk_mul, jg_sub, jg_subM, jg_addM, jg_addM', jg_negM, jt_in, jt_ix, jt_bi, jt_bl, jt_bv, jt_lt, jg_dT, jg_dF, jt_c, jt_cd, ru_I, ru_L, jg_leI, jg_ltI, jg_eqI, jg_M1, jg_M2, jg_M3, jg_M4, jg_M5, jg_M6, jg_ltT, jg_ltF, jg_leT, jg_leF, jg_eqT, jg_eqF, cond_true, cond_false, ne_eq, not_true_eq_false, not_false_eq_true, decide_true, decide_false, if_true, if_false, and_true, true_and, and_false, false_and, or_true, true_or, or_false, false_or, Nat.reduceEqDiff, reduceIte, Nat.reduceMul, Nat.reduceAdd, Nat.reduceSub, Nat.add_zero, Nat.zero_add, Nat.mul_zero, eq_self_iff_true, jg_not_lt, jg_not_le, hE, hb, hb1]
    rfl
  | r + 1, k, st, z8, m, hr, hs, hd, hH, hm, hE, hB => by
    have hkC : k < C.length := by omega
    have hok := hk _ (getD_mem hkC)
    have x1 := hm k hkC
    rw [seg_s hkC] at hd ⊢
    have hm' : ∀ m', jk P50 m m' → mH ls m' ∧ mC C m' ∧ m'.1 41 0 0 (521 + 3 * rl) = nI e := fun m' hj => ⟨⟨hH.1, by rw [jk50_41 hj (by decide)]; exact hH.2.1, fun k hk => by rw [jk50_41 hj (by decide)]; exact hH.2.2 k hk⟩, fun k hk => by rw [jk50_41 hj (by decide)]; exact hm k hk, by rw [jk50_41 hj (by decide)]; exact hE⟩
    have ih := fun st' z8' m' (hj : jk P50 m m') h1 h2 h3 h4 => sm_holds_loop ho hn hC hk hrl sh said day idle he d r (k + 1) st' z8' m' h1 h2 h3 (hm' m' hj).1 (hm' m' hj).2.1 (hm' m' hj).2.2 h4
    have ea : (520 : Int32) + (3 : Int32) * nI rl + 1 = nI (521 + 3 * rl) := by
      rw [show (520 : Int32) = nI 520 from rfl, show (3 : Int32) = nI 3 from rfl, pk_mul, nI_add, nI_1]
      congr 1
      omega
    have hwl := whatM_lt hok
    rw [l_X12_holds_17, ea]
    generalize C.getD k (0, 0) = c at hd hok x1 hwl ⊢
    rw [evB_cons]
    have ha : c.1 ≤ 10 := hok.1
    by_cases a8 : c.1 = 8
    · have ew : whatM c = 9 := by unfold whatM; simp [a8]
      rw [ew] at x1
      cases st with
      | nil => unfold dep at hd; rw [if_pos a8, if_neg (by decide)] at hd; exact absurd hd (by simp)
      | cons x t =>
        have hb := mB_hd hB
        unfold dep at hd
        rw [if_pos a8, if_pos (by simp)] at hd
        have es : stepB (askB ls sh said day idle) (x :: t) c = (!x) :: t := by unfold stepB; rw [if_pos a8]
        rw [es]
        obtain ⟨m', e1, e2⟩ := ih ((!x) :: t) (.inl (nI 9)) (jm_sI m 50 0 0 t.length (bI (!x))) (jk_I rfl) (by omega) hs hd (mB_set (mB_tl hB) _)
        refine ⟨m', ?_, (jk_I (P := P50) rfl).tr e2⟩
        simp only [List.length_cons] at hs e1 ⊢
        cases x with
        | true =>
          have hb2 : m.1 50 0 0 t.length = nI 1 := hb
          simp (disch := omega) only [jg_lit, jg_litL, jg_m1, jg_m1L, nI_add, lN_add, pk_mul, jg_sub, jg_subM, jg_addM, jg_addM', jg_negM, jt_in, jt_ix, jt_bi, jt_bl, jt_bv, jt_lt, jg_dT, jg_dF, jt_c, jt_cd, ru_I, ru_L, jg_leI, jg_ltI, jg_eqI, jg_M1, jg_M2, jg_M3, jg_M4, jg_M5, jg_M6, jg_ltT, jg_ltF, jg_leT, jg_leF, jg_eqT, jg_eqF, cond_true, cond_false, ne_eq, not_true_eq_false, not_false_eq_true, decide_true, decide_false, if_true, if_false, and_true, true_and, and_false, false_and, or_true, true_or, or_false, false_or, Nat.reduceEqDiff, reduceIte, Nat.reduceMul, Nat.reduceAdd, Nat.reduceSub, Nat.add_zero, Nat.zero_add, Nat.mul_zero, eq_self_iff_true, jg_not_lt, jg_not_le, hE, x1, Nat.add_sub_cancel, hb2]
          exact e1
        | false =>
          have hb2 : m.1 50 0 0 t.length = nI 0 := hb
          simp (disch := omega) only [jg_lit, jg_litL, jg_m1, jg_m1L, nI_add, lN_add, pk_mul, jg_sub, jg_subM, jg_addM, jg_addM', jg_negM, jt_in, jt_ix, jt_bi, jt_bl, jt_bv, jt_lt, jg_dT, jg_dF, jt_c, jt_cd, ru_I, ru_L, jg_leI, jg_ltI, jg_eqI, jg_M1, jg_M2, jg_M3, jg_M4, jg_M5, jg_M6, jg_ltT, jg_ltF, jg_leT, jg_leF, jg_eqT, jg_eqF, cond_true, cond_false, ne_eq, not_true_eq_false, not_false_eq_true, decide_true, decide_false, if_true, if_false, and_true, true_and, and_false, false_and, or_true, true_or, or_false, false_or, Nat.reduceEqDiff, reduceIte, Nat.reduceMul, Nat.reduceAdd, Nat.reduceSub, Nat.add_zero, Nat.zero_add, Nat.mul_zero, eq_self_iff_true, jg_not_lt, jg_not_le, hE, x1, Nat.add_sub_cancel, hb2]
          exact e1
    · by_cases a9 : c.1 = 9 ∨ c.1 = 10
      · unfold dep at hd
        rw [if_neg a8, if_pos a9] at hd
        match st, hs, hd, hB with
        | [], _, hd, _ => rw [if_neg (by decide)] at hd; exact absurd hd (by simp)
        | [_], _, hd, _ => rw [if_neg (by simp)] at hd; exact absurd hd (by simp)
        | x :: y :: t, hs, hd, hB =>
          rw [if_pos (by simp)] at hd
          have hb := mB_hd hB
          have hb' := mB_hd (mB_tl hB)
          simp only [List.length_cons] at hb
          have hbt := mB_tl (mB_tl hB)
          have h99 : ∀ b : Bool, b = (if c.1 = 9 then (y && x) else (y || x)) → ∃ m', jm_ev false (d + 3) 11 2 jc_X12_holds 99 [vM, .inl (nI rl), .inl (bI sh), .inl said, .inl day, .inl idle, .inl (nI (t.length + 1 + 1)), .inl (nI k), .inl (nI (whatM c))] [] m = some (.inl (bI ((evB (askB ls sh said day idle) ((C.drop (k + 1)).take r) (b :: t)).headD false)), m') ∧ jk P50 m m' := by
            intro b hbe
            obtain ⟨m', e1, e2⟩ := ih (b :: t) (.inl (nI (whatM c))) (jm_sI m 50 0 0 t.length (bI b)) (jk_I rfl) (by omega) (by simp only [List.length_cons] at hs ⊢; omega) hd (mB_set hbt _)
            refine ⟨m', ?_, (jk_I (P := P50) rfl).tr e2⟩
            simp only [List.length_cons] at hs e1 hb
            rw [l_X12_holds_99]
            have hbx : m.1 50 0 0 (t.length + 1) = bI x := hb
            have e3 : nI (t.length + 1 + 1) + -1 = nI (t.length + 1) := by rw [show (-1 : Int32) = jM from rfl, jg_addM (by omega)]; rfl
            have e4 : nI (t.length + 1) - 1 = nI t.length := by rw [jt_sub1 (by omega)]; rfl
            rw [e3, e4]
            rcases a9 with a9 | a9
            · rw [if_pos a9] at hbe
              have ew : whatM c = 8 := by unfold whatM; simp [a9]
              rw [ew] at e1 ⊢
              subst hbe
              cases y <;> cases x <;> simp only [bI, Bool.false_eq_true, if_true, if_false, Bool.and_true, Bool.and_false, reduceIte] at hb' hbx e1 <;> simp (disch := omega) only [jg_lit, jg_litL, jg_m1, jg_m1L, nI_add, lN_add, pk_mul, jg_sub, jg_subM, jg_addM, jg_addM', jg_negM, jt_in, jt_ix, jt_bi, jt_bl, jt_bv, jt_lt, jg_dT, jg_dF, jt_c, jt_cd, ru_I, ru_L, jg_leI, jg_ltI, jg_eqI, jg_M1, jg_M2, jg_M3, jg_M4, jg_M5, jg_M6, jg_ltT, jg_ltF, jg_leT, jg_leF, jg_eqT, jg_eqF, cond_true, cond_false, ne_eq, not_true_eq_false, not_false_eq_true, decide_true, decide_false, if_true, if_false, and_true, true_and, and_false, false_and, or_true, true_or, or_false, false_or, Nat.reduceEqDiff, reduceIte, Nat.reduceMul, Nat.reduceAdd, Nat.reduceSub, Nat.add_zero, Nat.zero_add, Nat.mul_zero, eq_self_iff_true, jg_not_lt, jg_not_le, hb', hbx] <;> exact e1
            · rw [if_neg (by omega)] at hbe
              have ew : whatM c = 7 := by unfold whatM; simp [a9]
              rw [ew] at e1 ⊢
              subst hbe
              cases y <;> cases x <;> simp only [bI, Bool.false_eq_true, if_true, if_false, Bool.or_true, Bool.or_false, reduceIte] at hb' hbx e1 <;> simp (disch := omega) only [jg_lit, jg_litL, jg_m1, jg_m1L, nI_add, lN_add, pk_mul, jg_sub, jg_subM, jg_addM, jg_addM', jg_negM, jt_in, jt_ix, jt_bi, jt_bl, jt_bv, jt_lt, jg_dT, jg_dF, jt_c, jt_cd, ru_I, ru_L, jg_leI, jg_ltI, jg_eqI, jg_M1, jg_M2, jg_M3, jg_M4, jg_M5, jg_M6, jg_ltT, jg_ltF, jg_leT, jg_leF, jg_eqT, jg_eqF, cond_true, cond_false, ne_eq, not_true_eq_false, not_false_eq_true, decide_true, decide_false, if_true, if_false, and_true, true_and, and_false, false_and, or_true, true_or, or_false, false_or, Nat.reduceEqDiff, reduceIte, Nat.reduceMul, Nat.reduceAdd, Nat.reduceSub, Nat.add_zero, Nat.zero_add, Nat.mul_zero, eq_self_iff_true, jg_not_lt, jg_not_le, hb', hbx] <;> exact e1
          obtain ⟨m', e1, e2⟩ := h99 _ rfl
          have es : stepB (askB ls sh said day idle) (x :: y :: t) c = (if c.1 = 9 then (y && x) else (y || x)) :: t := by
            unfold stepB
            rw [if_neg a8]
            by_cases z : c.1 = 9
            · rw [if_pos z, if_pos z]
            · rw [if_neg z, if_neg z, if_pos (by omega)]
          rw [es]
          refine ⟨m', ?_, e2⟩
          simp only [List.length_cons]
          rcases a9 with a9 | a9
          · have ew : whatM c = 8 := by unfold whatM; simp [a9]
            rw [ew] at x1 e1
            rw [if_pos a9] at e1
            simp (disch := omega) only [jg_lit, jg_litL, jg_m1, jg_m1L, nI_add, lN_add, pk_mul, jg_sub, jg_subM, jg_addM, jg_addM', jg_negM, jt_in, jt_ix, jt_bi, jt_bl, jt_bv, jt_lt, jg_dT, jg_dF, jt_c, jt_cd, ru_I, ru_L, jg_leI, jg_ltI, jg_eqI, jg_M1, jg_M2, jg_M3, jg_M4, jg_M5, jg_M6, jg_ltT, jg_ltF, jg_leT, jg_leF, jg_eqT, jg_eqF, cond_true, cond_false, ne_eq, not_true_eq_false, not_false_eq_true, decide_true, decide_false, if_true, if_false, and_true, true_and, and_false, false_and, or_true, true_or, or_false, false_or, Nat.reduceEqDiff, reduceIte, Nat.reduceMul, Nat.reduceAdd, Nat.reduceSub, Nat.add_zero, Nat.zero_add, Nat.mul_zero, eq_self_iff_true, jg_not_lt, jg_not_le, hE, x1]
            exact e1
          · have ew : whatM c = 7 := by unfold whatM; simp [a9]
            rw [ew] at x1 e1
            rw [if_neg (by omega)] at e1
            simp (disch := omega) only [jg_lit, jg_litL, jg_m1, jg_m1L, nI_add, lN_add, pk_mul, jg_sub, jg_subM, jg_addM, jg_addM', jg_negM, jt_in, jt_ix, jt_bi, jt_bl, jt_bv, jt_lt, jg_dT, jg_dF, jt_c, jt_cd, ru_I, ru_L, jg_leI, jg_ltI, jg_eqI, jg_M1, jg_M2, jg_M3, jg_M4, jg_M5, jg_M6, jg_ltT, jg_ltF, jg_leT, jg_leF, jg_eqT, jg_eqF, cond_true, cond_false, ne_eq, not_true_eq_false, not_false_eq_true, decide_true, decide_false, if_true, if_false, and_true, true_and, and_false, false_and, or_true, true_or, or_false, false_or, Nat.reduceEqDiff, reduceIte, Nat.reduceMul, Nat.reduceAdd, Nat.reduceSub, Nat.add_zero, Nat.zero_add, Nat.mul_zero, eq_self_iff_true, jg_not_lt, jg_not_le, hE, x1]
            exact e1
      · unfold dep at hd
        rw [if_neg a8, if_neg a9] at hd
        by_cases h28 : st.length < 28
        · rw [if_pos h28] at hd
          have hc7 : c.1 < 8 := by omega
          have h10 := whatM_7 hc7
          have es : stepB (askB ls sh said day idle) st c = askB ls sh said day idle c :: st := by
            unfold stepB
            rw [if_neg a8, if_neg (by omega), if_neg (by omega)]
          rw [es]
          obtain ⟨m', e1, e2⟩ := ih (askB ls sh said day idle c :: st) (.inl (nI (whatM c))) (jm_sI m 50 0 0 st.length (bI (askB ls sh said day idle c))) (jk_I rfl) (by omega) (by simp only [List.length_cons]; omega) hd (mB_set hB _)
          refine ⟨m', ?_, (jk_I (P := P50) rfl).tr e2⟩
          have ask := sm_asked ho hn hH hok hc7 sh said day idle d
          have hb1 : ∀ b, bI b &&& nI 1 = bI b := bI_1
          simp only [List.length_cons] at e1
          simp (disch := omega) only [jg_lit, jg_litL, jg_m1, jg_m1L, nI_add, lN_add, pk_mul, jg_sub, jg_subM, jg_addM, jg_addM', jg_negM, jt_in, jt_ix, jt_bi, jt_bl, jt_bv, jt_lt, jg_dT, jg_dF, jt_c, jt_cd, ru_I, ru_L, jg_leI, jg_ltI, jg_eqI, jg_M1, jg_M2, jg_M3, jg_M4, jg_M5, jg_M6, jg_ltT, jg_ltF, jg_leT, jg_leF, jg_eqT, jg_eqF, cond_true, cond_false, ne_eq, not_true_eq_false, not_false_eq_true, decide_true, decide_false, if_true, if_false, and_true, true_and, and_false, false_and, or_true, true_or, or_false, false_or, Nat.reduceEqDiff, reduceIte, Nat.reduceMul, Nat.reduceAdd, Nat.reduceSub, Nat.add_zero, Nat.zero_add, Nat.mul_zero, eq_self_iff_true, jg_not_lt, jg_not_le, hE, x1, ask, hb1]
          exact e1
        · rw [if_neg h28] at hd; exact absurd hd (by simp)
theorem sm_holds {ls : List Nat} (ho : okL ls) (hn : ls ≠ []) {C : List Ck} (hC : C.length ≤ 150) (hk : ∀ c ∈ C, okCk c) {rl : Nat} (hrl : rl < 12) (sh : Bool) (said day idle : Int32) {a e : Nat} (hae : a ≤ e) (he : e ≤ C.length) (hd : dep ((C.drop a).take (e - a)) 0 = some 1) {m : jm_M} (hH : mH ls m) (hm : mC C m) (hA : m.1 41 0 0 (520 + 3 * rl) = nI a) (hE : m.1 41 0 0 (521 + 3 * rl) = nI e) (d : Nat) : ∃ m', jm_sem false (d + 4) jn_X12_holds [vM, .inl (nI rl), .inl (bI sh), .inl said, .inl day, .inl idle] m = some (.inl (bI ((evB (askB ls sh said day idle) ((C.drop a).take (e - a)) []).headD false)), m') ∧ jk P50 m m' := by
  obtain ⟨m', e1, e2⟩ := sm_holds_loop ho hn hC hk hrl sh said day idle he d (e - a) a [] jm_j m (by omega) (by decide) hd hH hm hE (fun k hk => absurd hk (Nat.not_lt_zero k))
  refine ⟨m', ?_, e2⟩
  rw [e_X12_holds]
  simp (disch := omega) only [jg_lit, jg_litL, jg_m1, jg_m1L, nI_add, lN_add, pk_mul, jg_sub, jg_subM, jg_addM, jg_addM', jg_negM, jt_in, jt_ix, jt_bi, jt_bl, jt_bv, jt_lt, jg_dT, jg_dF, jt_c, jt_cd, ru_I, ru_L, jg_leI, jg_ltI, jg_eqI, jg_M1, jg_M2, jg_M3, jg_M4, jg_M5, jg_M6, jg_ltT, jg_ltF, jg_leT, jg_leF, jg_eqT, jg_eqF, cond_true, cond_false, ne_eq, not_true_eq_false, not_false_eq_true, decide_true, decide_false, if_true, if_false, and_true, true_and, and_false, false_and, or_true, true_or, or_false, false_or, Nat.reduceEqDiff, reduceIte, Nat.reduceMul, Nat.reduceAdd, Nat.reduceSub, Nat.add_zero, Nat.zero_add, Nat.mul_zero, eq_self_iff_true, jg_not_lt, jg_not_le, hA]
  exact e1
