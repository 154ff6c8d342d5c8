/-! ===== readings (class) ===== -/
theorem lc_le (a b : Int64) : (nI 0 ≤ lg_cmp a b) = (b ≤ a) := by
  have := lgc_lt a b
  apply propext
  rw [← Int64.not_lt, ← this]
  exact Int32.not_lt.symm
theorem lc_eq (a b : Int64) : (lg_cmp a b = nI 0) = (a = b) := by
  apply propext
  unfold lg_cmp
  by_cases h1 : a > b
  · rw [if_pos h1]
    exact ⟨fun z => absurd z (by decide), fun z => absurd (z ▸ h1) (Int64.lt_irrefl)⟩
  · rw [if_neg h1]
    by_cases h2 : a = b
    · rw [if_pos h2]; exact ⟨fun _ => h2, fun _ => rfl⟩
    · rw [if_neg h2]; exact ⟨fun z => absurd z (by decide), fun z => absurd z h2⟩
def P33 (K _i _j k : Nat) : Prop := (K = 32 ∧ k = 4) ∨ K = 33
theorem heard_cases (f : Nat → Int64) : ∀ n, (∀ k, k < n → lN 1 ≤ f k) ∨ ∃ j, j < n ∧ f j < lN 1 ∧ ∀ k, k < j → lN 1 ≤ f k
  | 0 => Or.inl (fun k hk => absurd hk (Nat.not_lt_zero k))
  | n + 1 => by
    rcases heard_cases f n with h | ⟨j, h1, h2, h3⟩
    · by_cases c : f n < lN 1
      · exact Or.inr ⟨n, by omega, c, h⟩
      · refine Or.inl (fun k hk => ?_)
        by_cases e : k = n
        · rw [e]; exact Int64.not_lt.mp c
        · exact h k (by omega)
    · exact Or.inr ⟨j, by omega, h2, h3⟩
theorem xT_33 {T : Tr} {m : jm_M} (h : xT T m) {k : Nat} {x : Int64} : xT T (jm_sL m 33 0 0 k x) := xT_k h (fun i j q => rfl) (fun i j q => by rw [rd_LL, if_neg (by omega)])
theorem xT_32 {T : Tr} {m : jm_M} (h : xT T m) {k : Nat} {x : Int32} : xT T (jm_sI m 32 0 0 k x) := xT_k h (fun i j q => by rw [rd_II, if_neg (by omega)]) (fun i j q => rfl)
theorem sx_hear_loop {T : Tr} {t : Nat} (ht : t < 4) {so sz : Nat} {f : Nat → Int64} (hT : T t = some (so, sz, f)) {n j : Nat} (hn : n ≤ sz) (h6 : n ≤ 6) (hj : j ≤ n) (hb : ∀ k, k < j → lN 1 ≤ f k) (z2 : jm_V) (d : Nat) : ∀ (r k : Nat) (m : jm_M), k + r = j → xT T m → m.1 32 0 0 4 = nI n → (∀ q, q < k → m.2 33 0 0 q = f q) → ∃ m', jm_ev false (d + 2) 1 2 jc_X1_take 12 [.inr (.inr (.inl (32, 0, 0))), .inr (.inr (.inl (2, t, 0))), z2, .inl (nI k)] [] m = jm_ev false (d + 2) 1 2 jc_X1_take 12 [.inr (.inr (.inl (32, 0, 0))), .inr (.inr (.inl (2, t, 0))), z2, .inl (nI j)] [] m' ∧ xT T m' ∧ m'.1 32 0 0 4 = nI n ∧ (∀ q, q < j → m'.2 33 0 0 q = f q) ∧ fr P33 m m'
  | 0, k, m, hr, hx, h4, hq => by
    have : k = j := by omega
    subst this
    exact ⟨m, rfl, hx, h4, hq, .rf⟩
  | r + 1, k, m, hr, hx, h4, hq => by
    have a := sx_at hx ht hT (show k < sz by omega) d
    have c1 := eq_true (hb k (by omega))
    obtain ⟨m', e1, e2, e3, e4, e5⟩ := sx_hear_loop ht hT hn h6 hj hb z2 d r (k + 1) (jm_sL m 33 0 0 k (f k)) (by omega) (xT_33 hx) h4 (fun q hq' => by
      rw [rd_LL]
      by_cases e : q = k
      · rw [if_pos ⟨rfl, rfl, rfl, e⟩, e]
      · rw [if_neg (by omega)]; exact hq q (by omega))
    refine ⟨m', ?_, e2, e3, e4, (fr_L (Or.inr rfl)).tr e5⟩
    rw [← e1]
    refine (l_X1_take_12 _ _ _ _ _).trans ?_
    simp (disch := omega) only [jg_lit, jg_litL, jg_m1, jg_m1L, nI_add, lN_add, pk_mul, jg_sub, jg_subM, jg_addM, jg_addM', jg_negM, jt_in, jt_ix, jt_bi, jt_bl, jt_bv, jt_lt, jg_dT, jg_dF, jt_c, jt_cd, ru_I, ru_L, jg_leI, jg_ltI, jg_eqI, jg_M1, jg_M2, jg_M3, jg_M4, jg_M5, jg_M6, jg_ltT, jg_ltF, jg_leT, jg_leF, jg_eqT, jg_eqF, cond_true, cond_false, ne_eq, not_true_eq_false, not_false_eq_true, decide_true, decide_false, if_true, if_false, and_true, true_and, and_false, false_and, or_true, true_or, or_false, false_or, Nat.reduceEqDiff, reduceIte, Nat.reduceMul, Nat.reduceAdd, Nat.reduceSub, Nat.add_zero, Nat.zero_add, Nat.mul_zero, eq_self_iff_true, jg_not_lt, jg_not_le, h4, a, lc_le, c1]
theorem if6 {n : Nat} (h : n ≤ 6) : (if 6 < n then nI 6 else nI n) = nI n := if_neg (by omega)
theorem sx_hear1 {T : Tr} {m : jm_M} (hx : xT T m) {t : Nat} (ht : t < 4) {so sz : Nat} {f : Nat → Int64} (hT : T t = some (so, sz, f)) {n : Nat} (hn : n ≤ sz) (h6 : n ≤ 6) (hb : ∀ k, k < n → lN 1 ≤ f k) (d : Nat) : ∃ m', jm_sem false (d + 3) jn_X1_take [.inr (.inr (.inl (32, 0, 0))), .inr (.inr (.inl (2, t, 0))), .inl (nI n)] m = some (.inl (nI 1), m') ∧ m'.1 32 0 0 4 = nI n ∧ (∀ q, q < n → m'.2 33 0 0 q = f q) ∧ fr P33 m m' := by
  obtain ⟨m', e1, e2, e3, e4, e5⟩ := sx_hear_loop ht hT hn h6 (Nat.le_refl n) hb (.inl (nI n)) d n 0 (jm_sI m 32 0 0 4 (nI n)) (by omega) (xT_32 hx) (by rw [rd_II, if_pos ⟨rfl, rfl, rfl, rfl⟩]) (fun q hq => by omega)
  refine ⟨m', ?_, e3, e4, (fr_I (Or.inl ⟨rfl, rfl⟩)).tr e5⟩
  have l : jm_ev false (d + 2) 1 2 jc_X1_take 12 [.inr (.inr (.inl (32, 0, 0))), .inr (.inr (.inl (2, t, 0))), .inl (nI n), .inl (nI n)] [] m' = some (.inl (nI 1), m') := by
    rw [l_X1_take_12]; simp (disch := omega) only [jg_lit, jg_litL, jg_m1, jg_m1L, nI_add, lN_add, pk_mul, jg_sub, jg_subM, jg_addM, jg_addM', jg_negM, jt_in, jt_ix, jt_bi, jt_bl, jt_bv, jt_lt, jg_dT, jg_dF, jt_c, jt_cd, ru_I, ru_L, jg_leI, jg_ltI, jg_eqI, jg_M1, jg_M2, jg_M3, jg_M4, jg_M5, jg_M6, jg_ltT, jg_ltF, jg_leT, jg_leF, jg_eqT, jg_eqF, cond_true, cond_false, ne_eq, not_true_eq_false, not_false_eq_true, decide_true, decide_false, if_true, if_false, and_true, true_and, and_false, false_and, or_true, true_or, or_false, false_or, Nat.reduceEqDiff, reduceIte, Nat.reduceMul, Nat.reduceAdd, Nat.reduceSub, Nat.add_zero, Nat.zero_add, Nat.mul_zero, eq_self_iff_true, jg_not_lt, jg_not_le, e3]
  rw [l] at e1
  rw [e_X1_take]
  simp (disch := omega) only [jg_lit, jg_litL, jg_m1, jg_m1L, nI_add, lN_add, pk_mul, jg_sub, jg_subM, jg_addM, jg_addM', jg_negM, jt_in, jt_ix, jt_bi, jt_bl, jt_bv, jt_lt, jg_dT, jg_dF, jt_c, jt_cd, ru_I, ru_L, jg_leI, jg_ltI, jg_eqI, jg_M1, jg_M2, jg_M3, jg_M4, jg_M5, jg_M6, jg_ltT, jg_ltF, jg_leT, jg_leF, jg_eqT, jg_eqF, cond_true, cond_false, ne_eq, not_true_eq_false, not_false_eq_true, decide_true, decide_false, if_true, if_false, and_true, true_and, and_false, false_and, or_true, true_or, or_false, false_or, Nat.reduceEqDiff, reduceIte, Nat.reduceMul, Nat.reduceAdd, Nat.reduceSub, Nat.add_zero, Nat.zero_add, Nat.mul_zero, eq_self_iff_true, jg_not_lt, jg_not_le, if6]
  exact e1
theorem sx_hear0 {T : Tr} {m : jm_M} (hx : xT T m) {t : Nat} (ht : t < 4) {so sz : Nat} {f : Nat → Int64} (hT : T t = some (so, sz, f)) {n j : Nat} (hn : n ≤ sz) (h6 : n ≤ 6) (hj : j < n) (hb : ∀ k, k < j → lN 1 ≤ f k) (hf : f j < lN 1) (d : Nat) : ∃ m', jm_sem false (d + 3) jn_X1_take [.inr (.inr (.inl (32, 0, 0))), .inr (.inr (.inl (2, t, 0))), .inl (nI n)] m = some (.inl (nI 0), m') ∧ fr P33 m m' := by
  obtain ⟨m', e1, e2, e3, e4, e5⟩ := sx_hear_loop ht hT hn h6 (Nat.le_of_lt hj) hb (.inl (nI n)) d j 0 (jm_sI m 32 0 0 4 (nI n)) (by omega) (xT_32 hx) (by rw [rd_II, if_pos ⟨rfl, rfl, rfl, rfl⟩]) (fun q hq => by omega)
  refine ⟨jm_sL m' 33 0 0 j (f j), ?_, ((fr_I (Or.inl ⟨rfl, rfl⟩)).tr e5).tr (fr_L (Or.inr rfl))⟩
  have a := sx_at e2 ht hT (show j < sz by omega) d
  have c1 : (lN 1 ≤ f j) = False := eq_false (Int64.not_le.mpr hf)
  have l : jm_ev false (d + 2) 1 2 jc_X1_take 12 [.inr (.inr (.inl (32, 0, 0))), .inr (.inr (.inl (2, t, 0))), .inl (nI n), .inl (nI j)] [] m' = some (.inl (nI 0), jm_sL m' 33 0 0 j (f j)) := by
    rw [l_X1_take_12]; simp (disch := omega) only [jg_lit, jg_litL, jg_m1, jg_m1L, nI_add, lN_add, pk_mul, jg_sub, jg_subM, jg_addM, jg_addM', jg_negM, jt_in, jt_ix, jt_bi, jt_bl, jt_bv, jt_lt, jg_dT, jg_dF, jt_c, jt_cd, ru_I, ru_L, jg_leI, jg_ltI, jg_eqI, jg_M1, jg_M2, jg_M3, jg_M4, jg_M5, jg_M6, jg_ltT, jg_ltF, jg_leT, jg_leF, jg_eqT, jg_eqF, cond_true, cond_false, ne_eq, not_true_eq_false, not_false_eq_true, decide_true, decide_false, if_true, if_false, and_true, true_and, and_false, false_and, or_true, true_or, or_false, false_or, Nat.reduceEqDiff, reduceIte, Nat.reduceMul, Nat.reduceAdd, Nat.reduceSub, Nat.add_zero, Nat.zero_add, Nat.mul_zero, eq_self_iff_true, jg_not_lt, jg_not_le, e3, a, lc_le, c1]
  rw [l] at e1
  rw [e_X1_take]
  simp (disch := omega) only [jg_lit, jg_litL, jg_m1, jg_m1L, nI_add, lN_add, pk_mul, jg_sub, jg_subM, jg_addM, jg_addM', jg_negM, jt_in, jt_ix, jt_bi, jt_bl, jt_bv, jt_lt, jg_dT, jg_dF, jt_c, jt_cd, ru_I, ru_L, jg_leI, jg_ltI, jg_eqI, jg_M1, jg_M2, jg_M3, jg_M4, jg_M5, jg_M6, jg_ltT, jg_ltF, jg_leT, jg_leF, jg_eqT, jg_eqF, cond_true, cond_false, ne_eq, not_true_eq_false, not_false_eq_true, decide_true, decide_false, if_true, if_false, and_true, true_and, and_false, false_and, or_true, true_or, or_false, false_or, Nat.reduceEqDiff, reduceIte, Nat.reduceMul, Nat.reduceAdd, Nat.reduceSub, Nat.add_zero, Nat.zero_add, Nat.mul_zero, eq_self_iff_true, jg_not_lt, jg_not_le, if6]
  exact e1
/-! ===== the chain of a word as it was told ===== -/
def w0 (V : Vl) (k : Nat) : Wd := wNew (wF (gw (vlW V) k)) 0
def chF (V : Vl) (k q : Nat) : Int64 := lN (enc (wL (wearN V 0 (w0 V k) q)))
theorem okW2_w0 {V : Vl} {k : Nat} (h : okW2 (gw (vlW V) k)) : okW2 (w0 V k) := by
  obtain ⟨⟨h1, h2, h3, h4, h5, h6, h7⟩, h8, h9, h10, h11⟩ := h
  exact ⟨⟨h5, by show (wF (gw (vlW V) k)).length + 0 ≤ 8; omega, fun _ _ hq => nil_get hq, (by decide : 0 < 4096), h5, h6, fun _ => ⟨rfl, rfl⟩⟩, h10, fun _ hc => absurd hc List.not_mem_nil, h10, Or.inl rfl⟩
def P34 (K i j _k : Nat) : Prop := (K = 12 ∧ i = 0 ∧ j = 12) ∨ K = 34
theorem sx_follow_loop {V : Vl} (ho : okV V) {k : Nat} (hw : okW2 (w0 V k)) (z2 : jm_V) (d : Nat) : ∀ (r q : Nat) (m : jm_M), q + r = 40 → xH V 0 m → xW (wearN V 0 (w0 V k) q) 0 12 m → (∀ p, p < q → m.2 34 0 0 p = chF V k p) → ∃ m', jm_ev false (d + 5) 1 0 jc_X1_followChain 28 [.inr (.inr (.inl (32, 0, 0))), .inr (.inr (.inl (10, 0, 0))), z2, .inl (nI q)] [] m = some (jm_j, m') ∧ (∀ p, p < 40 → m'.2 34 0 0 p = chF V k p) ∧ fr P34 m m'
  | 0, q, m, hr, h, hx, hp => by
    refine ⟨m, ?_, fun p hp' => hp p (by omega), .rf⟩
    rw [l_X1_followChain_28]
    simp (disch := omega) only [jg_lit, jg_litL, jg_m1, jg_m1L, nI_add, lN_add, pk_mul, jg_sub, jg_subM, jg_addM, jg_addM', jg_negM, jt_in, jt_ix, jt_bi, jt_bl, jt_bv, jt_lt, jg_dT, jg_dF, jt_c, jt_cd, ru_I, ru_L, jg_leI, jg_ltI, jg_eqI, jg_M1, jg_M2, jg_M3, jg_M4, jg_M5, jg_M6, jg_ltT, jg_ltF, jg_leT, jg_leF, jg_eqT, jg_eqF, cond_true, cond_false, ne_eq, not_true_eq_false, not_false_eq_true, decide_true, decide_false, if_true, if_false, and_true, true_and, and_false, false_and, or_true, true_or, or_false, false_or, Nat.reduceEqDiff, reduceIte, Nat.reduceMul, Nat.reduceAdd, Nat.reduceSub, Nat.add_zero, Nat.zero_add, Nat.mul_zero, eq_self_iff_true, jg_not_lt, jg_not_le]
  | r + 1, q, m, hr, h, hx, hp => by
    have hx0 := hx.1
    have h1 : xH V 0 (jm_sL m 34 0 0 q (chF V k q)) := xH_k h (fun K c hK => ⟨rfl, by rw [rd_LL, if_neg (by omega)]⟩)
    have hx1 : xW (wearN V 0 (w0 V k) q) 0 12 (jm_sL m 34 0 0 q (chF V k q)) := xW_k hx (fun c => rfl) (fun c => by rw [rd_LL, if_neg (by omega)])
    obtain ⟨m1, e1, e2, e3⟩ := sx_wearTried h1 ho hx1 (okW2_wearN (by decide) hw q) 0 d
    obtain ⟨m', a1, a2, a3⟩ := sx_follow_loop ho hw z2 d r (q + 1) m1 (by omega) (xH_T h1 e3) e2 (fun p hp' => by
      rw [(e3 34 0 0 p (by unfold PT; omega)).2, rd_LL]
      by_cases e : p = q
      · rw [if_pos ⟨rfl, rfl, rfl, e⟩, e]
      · rw [if_neg (by omega)]; exact hp p (by omega))
    refine ⟨m', ?_, a2, ((fr_L (Or.inr rfl)).tr (e3.wk (fun K i j c z => by unfold PT at z; unfold P34; omega))).tr a3⟩
    have hx0 : m.2 12 0 12 0 = chF V k q := hx0
    rw [← a1, l_X1_followChain_28]
    simp (disch := omega) only [jg_lit, jg_litL, jg_m1, jg_m1L, nI_add, lN_add, pk_mul, jg_sub, jg_subM, jg_addM, jg_addM', jg_negM, jt_in, jt_ix, jt_bi, jt_bl, jt_bv, jt_lt, jg_dT, jg_dF, jt_c, jt_cd, ru_I, ru_L, jg_leI, jg_ltI, jg_eqI, jg_M1, jg_M2, jg_M3, jg_M4, jg_M5, jg_M6, jg_ltT, jg_ltF, jg_leT, jg_leF, jg_eqT, jg_eqF, cond_true, cond_false, ne_eq, not_true_eq_false, not_false_eq_true, decide_true, decide_false, if_true, if_false, and_true, true_and, and_false, false_and, or_true, true_or, or_false, false_or, Nat.reduceEqDiff, reduceIte, Nat.reduceMul, Nat.reduceAdd, Nat.reduceSub, Nat.add_zero, Nat.zero_add, Nat.mul_zero, eq_self_iff_true, jg_not_lt, jg_not_le, hx0, e1]
theorem sx_follow {V : Vl} (ho : okV V) {k : Nat} (hk : k < (vlW V).length) {m : jm_M} (h : xV V 0 m) (d : Nat) : ∃ m', jm_sem false (d + 6) jn_X1_followChain [.inr (.inr (.inl (32, 0, 0))), .inr (.inr (.inl (10, 0, 0))), .inl (nI k)] m = some (jm_j, m') ∧ (∀ p, p < 40 → m'.2 34 0 0 p = chF V k p) ∧ fr P34 m m' := by
  have h12 := ho.2.2.2.1.1
  have hw := okW2_w0 (ho.2.2.2.1.2.1 k hk)
  obtain ⟨x0, x1, x2, x3, x4, x5, x6, x7, x8, x9⟩ := h.2 k hk
  obtain ⟨m1, e1, e2, e3⟩ := sx_begin (d + 3) 0 12 (wF (gw (vlW V) k)) 0 m
  obtain ⟨m', a1, a2, a3⟩ := sx_follow_loop ho hw (.inl (nI k)) d 40 0 m1 rfl (xH_T h.1 (fr_jcT e3)) e2 (fun p hp => by omega)
  refine ⟨m', ?_, a2, (fr_jc e3 (fun _ => by unfold P34; omega)).tr a3⟩
  rw [e_X1_followChain]
  simp (disch := omega) only [jg_lit, jg_litL, jg_m1, jg_m1L, nI_add, lN_add, pk_mul, jg_sub, jg_subM, jg_addM, jg_addM', jg_negM, jt_in, jt_ix, jt_bi, jt_bl, jt_bv, jt_lt, jg_dT, jg_dF, jt_c, jt_cd, ru_I, ru_L, jg_leI, jg_ltI, jg_eqI, jg_M1, jg_M2, jg_M3, jg_M4, jg_M5, jg_M6, jg_ltT, jg_ltF, jg_leT, jg_leF, jg_eqT, jg_eqF, cond_true, cond_false, ne_eq, not_true_eq_false, not_false_eq_true, decide_true, decide_false, if_true, if_false, and_true, true_and, and_false, false_and, or_true, true_or, or_false, false_or, Nat.reduceEqDiff, reduceIte, Nat.reduceMul, Nat.reduceAdd, Nat.reduceSub, Nat.add_zero, Nat.zero_add, Nat.mul_zero, eq_self_iff_true, jg_not_lt, jg_not_le, Bool.and_true, x8, x9, e1]
  exact a1
/-! ===== how far a word has got ===== -/
def rI (s : Option Nat) : Int32 := match s with
  | none => nI 40
  | some a => nI a + jM
theorem nlz_1 : ∀ s, s < 4 → 1 ≤ s → (nI 31) - ((nI s).toUInt32 >>> ((nI 1).toUInt32 &&& (nI 31).toUInt32)).toInt32 = nI (31 - Nat.log2 s) := by decide +kernel
theorem nlz_2 : ∀ s, s < 16 → 4 ≤ s → (nI 31 + -nI 2) - ((((nI s).toUInt32 >>> ((nI 2).toUInt32 &&& (nI 31).toUInt32)).toInt32).toUInt32 >>> ((nI 1).toUInt32 &&& (nI 31).toUInt32)).toInt32 = nI (31 - Nat.log2 s) := by decide +kernel
theorem nlz_3 : ∀ s, s < 64 → 16 ≤ s → (nI 31 + -nI 4) - ((((nI s).toUInt32 >>> ((nI 4).toUInt32 &&& (nI 31).toUInt32)).toInt32).toUInt32 >>> ((nI 1).toUInt32 &&& (nI 31).toUInt32)).toInt32 = nI (31 - Nat.log2 s) := by decide +kernel
theorem nlz_4 : ∀ s, s < 64 → 16 ≤ s → ((nI s).toUInt32 >>> ((4 : Int32).toUInt32 &&& Int32.toUInt32 31)).toInt32 < 4 := by decide +kernel
theorem sx_nlz {s : Nat} (h1 : 1 ≤ s) (h64 : s < 64) (d : Nat) (m : jm_M) : jm_sem false (d + 1) jn_J6_numberOfLeadingZeros_0f7a4 [.inl (nI s)] m = some (.inl (nI (31 - Nat.log2 s)), m) := by
  rw [e_J6_numberOfLeadingZeros_0f7a4, show decide (0 < nI s) = true from decide_eq_true (nI_lt (a := 0) (by omega) (by omega)), cond_true, jt_dt (show nI s < 65536 from nI_lt (b := 65536) (by omega) (by decide)), cond_true, jt_dt (show nI s < 256 from nI_lt (b := 256) (by omega) (by decide)), cond_true, l_J6_numberOfLeadingZeros_0f7a4_48]
  by_cases c1 : s < 16
  · rw [jt_dt (show nI s < 16 from nI_lt (b := 16) c1 (by decide)), cond_true]
    by_cases c2 : s < 4
    · rw [jt_dt (show nI s < 4 from nI_lt (b := 4) c2 (by decide)), cond_true]
      have := nlz_1 s c2 h1
      exact congrArg (fun x => some (Sum.inl x, m)) this
    · rw [jt_df (show ¬ nI s < 4 from nI_nlt (b := 4) (by omega) (by omega)), cond_false]
      exact congrArg (fun x => some (Sum.inl x, m)) (nlz_2 s c1 (by omega))
  · rw [jt_df (show ¬ nI s < 16 from nI_nlt (b := 16) (by omega) (by omega)), cond_false, jt_dt (nlz_4 s h64 (by omega)), cond_true]
    exact congrArg (fun x => some (Sum.inl x, m)) (nlz_3 s h64 (by omega))
theorem xor_top : ∀ s, s < 64 → 1 ≤ s → nI s ^^^ (nI 1 <<< (nI (Nat.log2 s) &&& nI 31)) = nI (s ^^^ 2 ^ Nat.log2 s) ∧ s ^^^ 2 ^ Nat.log2 s < s ∧ Nat.log2 s < 6 := by decide +kernel
theorem log_lt : ∀ n, n ≤ 6 → ∀ s, s < 2 ^ n → 1 ≤ s → Nat.log2 s < n := by decide +kernel
theorem rI_1 (s : Option Nat) : rI s + nI 1 = match s with | none => nI 41 | some a => nI a := by
  cases s with
  | none => rfl
  | some a =>
    show nI a + jM + nI 1 = nI a
    rw [Int32.add_assoc]
    show nI a + 0 = nI a
    rw [Int32.add_zero]
theorem sx_reach_in {n sets : Nat} {f : Nat → Int64} {x : Int64} {s j : Nat} (h64 : s < 64) (hj : j < 6) (z1 : Int32) (z4 : jm_V) (d : Nat) (m : jm_M) (hf : ∀ p, p < 40 → m.2 34 0 0 p = f p) (hx : m.2 33 0 0 j = x) : ∀ (r k : Nat), k + r = 40 → ∃ y, jm_ev false d 1 0 jc_X1_findReached 46 [.inr (.inr (.inl (32, 0, 0))), .inl z1, .inl (nI s), .inl (nI j), z4, .inl (nI k)] [] m = jm_ev false d 1 0 jc_X1_findReached 9 [.inr (.inr (.inl (32, 0, 0))), .inl z1, .inl (nI (s + 1)), .inl (nI j), z4, y] [] (jm_sI m 35 0 0 s (rI (match fd f x r k with | none => none | some q => some (q + 1))))
  | 0, k, hr => by
    have : k = 40 := by omega
    subst this
    refine ⟨.inl (nI 40), ?_⟩
    refine (l_X1_findReached_46 _ _ _ _ _ _ _).trans ?_
    unfold fd rI
    simp (disch := omega) only [jg_lit, jg_litL, jg_m1, jg_m1L, nI_add, lN_add, pk_mul, jg_sub, jg_subM, jg_addM, jg_addM', jg_negM, jt_in, jt_ix, jt_bi, jt_bl, jt_bv, jt_lt, jg_dT, jg_dF, jt_c, jt_cd, ru_I, ru_L, jg_leI, jg_ltI, jg_eqI, jg_M1, jg_M2, jg_M3, jg_M4, jg_M5, jg_M6, jg_ltT, jg_ltF, jg_leT, jg_leF, jg_eqT, jg_eqF, cond_true, cond_false, ne_eq, not_true_eq_false, not_false_eq_true, decide_true, decide_false, if_true, if_false, and_true, true_and, and_false, false_and, or_true, true_or, or_false, false_or, Nat.reduceEqDiff, reduceIte, Nat.reduceMul, Nat.reduceAdd, Nat.reduceSub, Nat.add_zero, Nat.zero_add, Nat.mul_zero, eq_self_iff_true, jg_not_lt, jg_not_le]
  | r + 1, k, hr => by
    have h34 := hf k (by omega)
    by_cases c : f k = x
    · refine ⟨.inl (nI k), ?_⟩
      have c' : (f k = x) = True := eq_true c
      have rr : rI (match fd f x (r + 1) k with | none => none | some q => some (q + 1)) = nI k := by
        unfold fd
        rw [if_pos c]
        exact pk_m1 k
      rw [rr]
      refine (l_X1_findReached_46 _ _ _ _ _ _ _).trans ?_
      simp (disch := omega) only [jg_lit, jg_litL, jg_m1, jg_m1L, nI_add, lN_add, pk_mul, jg_sub, jg_subM, jg_addM, jg_addM', jg_negM, jt_in, jt_ix, jt_bi, jt_bl, jt_bv, jt_lt, jg_dT, jg_dF, jt_c, jt_cd, ru_I, ru_L, jg_leI, jg_ltI, jg_eqI, jg_M1, jg_M2, jg_M3, jg_M4, jg_M5, jg_M6, jg_ltT, jg_ltF, jg_leT, jg_leF, jg_eqT, jg_eqF, cond_true, cond_false, ne_eq, not_true_eq_false, not_false_eq_true, decide_true, decide_false, if_true, if_false, and_true, true_and, and_false, false_and, or_true, true_or, or_false, false_or, Nat.reduceEqDiff, reduceIte, Nat.reduceMul, Nat.reduceAdd, Nat.reduceSub, Nat.add_zero, Nat.zero_add, Nat.mul_zero, eq_self_iff_true, jg_not_lt, jg_not_le, h34, hx, lc_eq, c', if_neg]
    · obtain ⟨y, e⟩ := sx_reach_in (n := n) (sets := sets) (s := s) h64 hj z1 z4 d m hf hx r (k + 1) (by omega)
      have c' : (f k = x) = False := eq_false c
      have rr : fd f x (r + 1) k = fd f x r (k + 1) := by
        show (if f k = x then some k else fd f x r (k + 1)) = _
        rw [if_neg c]
      rw [rr]
      refine ⟨y, ?_⟩
      rw [← e]
      refine (l_X1_findReached_46 _ _ _ _ _ _ _).trans ?_
      simp (disch := omega) only [jg_lit, jg_litL, jg_m1, jg_m1L, nI_add, lN_add, pk_mul, jg_sub, jg_subM, jg_addM, jg_addM', jg_negM, jt_in, jt_ix, jt_bi, jt_bl, jt_bv, jt_lt, jg_dT, jg_dF, jt_c, jt_cd, ru_I, ru_L, jg_leI, jg_ltI, jg_eqI, jg_M1, jg_M2, jg_M3, jg_M4, jg_M5, jg_M6, jg_ltT, jg_ltF, jg_leT, jg_leF, jg_eqT, jg_eqF, cond_true, cond_false, ne_eq, not_true_eq_false, not_false_eq_true, decide_true, decide_false, if_true, if_false, and_true, true_and, and_false, false_and, or_true, true_or, or_false, false_or, Nat.reduceEqDiff, reduceIte, Nat.reduceMul, Nat.reduceAdd, Nat.reduceSub, Nat.add_zero, Nat.zero_add, Nat.mul_zero, eq_self_iff_true, jg_not_lt, jg_not_le, h34, hx, lc_eq, c']
theorem sx_reach_loop {hs : List Int64} {f : Nat → Int64} (h6 : hs.length ≤ 6) (d : Nat) : ∀ (r s : Nat) (z3 z4 z5 : jm_V) (m : jm_M), s + r = 2 ^ hs.length → 1 ≤ s → (∀ p, p < 40 → m.2 34 0 0 p = f p) → (∀ q, q < hs.length → m.2 33 0 0 q = hs.getD q 0) → (∀ p, p < s → m.1 35 0 0 p = rI (rnS f (sel p hs) (some 0))) → ∃ m', jm_ev false (d + 1) 1 0 jc_X1_findReached 9 [.inr (.inr (.inl (32, 0, 0))), .inl (nI (2 ^ hs.length)), .inl (nI s), z3, z4, z5] [] m = some (jm_j, m') ∧ (∀ p, p < 2 ^ hs.length → m'.1 35 0 0 p = rI (rnS f (sel p hs) (some 0))) ∧ fr (fun K _ _ _ => K = 35) m m'
  | 0, s, z3, z4, z5, m, hr, h1, hf, hx, hp => by
    have p6 : 2 ^ hs.length ≤ 2 ^ 6 := Nat.pow_le_pow_right (by decide) h6
    refine ⟨m, ?_, fun p hp' => hp p (by omega), .rf⟩
    rw [l_X1_findReached_9, show s = 2 ^ hs.length by omega, jt_dt (nI_le (Nat.le_refl _) (by omega)), cond_true]
  | r + 1, s, z3, z4, z5, m, hr, h1, hf, hx, hp => by
    have p6 : 2 ^ hs.length ≤ 2 ^ 6 := Nat.pow_le_pow_right (by decide) h6
    have s64 : s < 64 := by omega
    have nl := sx_nlz h1 s64 d m
    obtain ⟨t1, t2, t3⟩ := xor_top s s64 h1
    have lj := log_lt hs.length h6 s (by omega) h1
    have l31 : nI 31 - nI (31 - Nat.log2 s) = nI (Nat.log2 s) := by rw [jg_sub (by omega), show 31 - (31 - Nat.log2 s) = Nat.log2 s by omega]
    have v35 := hp (s ^^^ 2 ^ Nat.log2 s) t2
    have x33 := hx (Nat.log2 s) lj
    have rt := rn_top (f := f) h6 h1 (show s < 2 ^ hs.length by omega) (some 0)
    have go : ∃ y3 y4 y5, jm_ev false (d + 1) 1 0 jc_X1_findReached 9 [.inr (.inr (.inl (32, 0, 0))), .inl (nI (2 ^ hs.length)), .inl (nI s), z3, z4, z5] [] m = jm_ev false (d + 1) 1 0 jc_X1_findReached 9 [.inr (.inr (.inl (32, 0, 0))), .inl (nI (2 ^ hs.length)), .inl (nI (s + 1)), y3, y4, y5] [] (jm_sI m 35 0 0 s (rI (rnS f (sel s hs) (some 0)))) := by
      have first : jm_ev false (d + 1) 1 0 jc_X1_findReached 9 [.inr (.inr (.inl (32, 0, 0))), .inl (nI (2 ^ hs.length)), .inl (nI s), z3, z4, z5] [] m = jm_ev false (d + 1) 1 0 jc_X1_findReached 46 [.inr (.inr (.inl (32, 0, 0))), .inl (nI (2 ^ hs.length)), .inl (nI s), .inl (nI (Nat.log2 s)), .inl (rI (rnS f (sel (s ^^^ 2 ^ Nat.log2 s) hs) (some 0))), .inl (rI (rnS f (sel (s ^^^ 2 ^ Nat.log2 s) hs) (some 0)) + nI 1)] [] m := by
        refine (l_X1_findReached_9 _ _ _ _ _ _ _).trans ?_
        generalize hN : 2 ^ hs.length = N at *
        generalize hX : s ^^^ 2 ^ Nat.log2 s = X at *
        simp (disch := omega) only [jg_lit, jg_litL, jg_m1, jg_m1L, nI_add, lN_add, pk_mul, jg_sub, jg_subM, jg_addM, jg_addM', jg_negM, jt_in, jt_ix, jt_bi, jt_bl, jt_bv, jt_lt, jg_dT, jg_dF, jt_c, jt_cd, ru_I, ru_L, jg_leI, jg_ltI, jg_eqI, jg_M1, jg_M2, jg_M3, jg_M4, jg_M5, jg_M6, jg_ltT, jg_ltF, jg_leT, jg_leF, jg_eqT, jg_eqF, cond_true, cond_false, ne_eq, not_true_eq_false, not_false_eq_true, decide_true, decide_false, if_true, if_false, and_true, true_and, and_false, false_and, or_true, true_or, or_false, false_or, Nat.reduceEqDiff, reduceIte, Nat.reduceMul, Nat.reduceAdd, Nat.reduceSub, Nat.add_zero, Nat.zero_add, Nat.mul_zero, eq_self_iff_true, jg_not_lt, jg_not_le, nl, l31, t1, v35]
      rw [first, rI_1, rt]
      cases hc : rnS f (sel (s ^^^ 2 ^ Nat.log2 s) hs) (some 0) with
      | none =>
        refine ⟨.inl (nI (Nat.log2 s)), .inl (rI none), .inl (nI 41), ?_⟩
        refine (l_X1_findReached_46 _ _ _ _ _ _ _).trans ?_
        unfold stS
        have : rI none = nI 40 := rfl
        generalize hN : 2 ^ hs.length = N at *
        simp (disch := omega) only [jg_lit, jg_litL, jg_m1, jg_m1L, nI_add, lN_add, pk_mul, jg_sub, jg_subM, jg_addM, jg_addM', jg_negM, jt_in, jt_ix, jt_bi, jt_bl, jt_bv, jt_lt, jg_dT, jg_dF, jt_c, jt_cd, ru_I, ru_L, jg_leI, jg_ltI, jg_eqI, jg_M1, jg_M2, jg_M3, jg_M4, jg_M5, jg_M6, jg_ltT, jg_ltF, jg_leT, jg_leF, jg_eqT, jg_eqF, cond_true, cond_false, ne_eq, not_true_eq_false, not_false_eq_true, decide_true, decide_false, if_true, if_false, and_true, true_and, and_false, false_and, or_true, true_or, or_false, false_or, Nat.reduceEqDiff, reduceIte, Nat.reduceMul, Nat.reduceAdd, Nat.reduceSub, Nat.add_zero, Nat.zero_add, Nat.mul_zero, eq_self_iff_true, jg_not_lt, jg_not_le, this]
      | some a =>
        have a40 := rn_le _ _ a (fun b hb => by have := Option.some.inj hb; omega) hc
        obtain ⟨y, e⟩ := sx_reach_in (n := 0) (sets := 0) (f := f) (x := hs.getD (Nat.log2 s) 0) s64 t3 (nI (2 ^ hs.length)) (.inl (rI (some a))) (d + 1) m hf x33 (40 - a) a (by omega)
        exact ⟨.inl (nI (Nat.log2 s)), .inl (rI (some a)), y, e⟩
    obtain ⟨y3, y4, y5, go⟩ := go
    obtain ⟨m', e1, e2, e3⟩ := sx_reach_loop h6 d r (s + 1) y3 y4 y5 (jm_sI m 35 0 0 s (rI (rnS f (sel s hs) (some 0)))) (by omega) (by omega) hf hx (fun p hp' => by
      rw [rd_II]
      by_cases e : p = s
      · rw [if_pos ⟨rfl, rfl, rfl, e⟩, e]
      · rw [if_neg (by omega)]; exact hp p (by omega))
    exact ⟨m', by rw [go]; exact e1, e2, (fr_I rfl).tr e3⟩
theorem sx_reach {hs : List Int64} {f : Nat → Int64} (h6 : hs.length ≤ 6) {m : jm_M} (hf : ∀ p, p < 40 → m.2 34 0 0 p = f p) (hx : ∀ q, q < hs.length → m.2 33 0 0 q = hs.getD q 0) (d : Nat) : ∃ m', jm_sem false (d + 2) jn_X1_findReached [.inr (.inr (.inl (32, 0, 0))), .inl (nI (2 ^ hs.length))] m = some (jm_j, m') ∧ (∀ p, p < 2 ^ hs.length → m'.1 35 0 0 p = rI (rnS f (sel p hs) (some 0))) ∧ fr (fun K _ _ _ => K = 35) m m' := by
  have p1 := Nat.one_le_two_pow (n := hs.length)
  obtain ⟨m', e1, e2, e3⟩ := sx_reach_loop (f := f) h6 d (2 ^ hs.length - 1) 1 jm_j jm_j jm_j (jm_sI m 35 0 0 0 jM) (by omega) (Nat.le_refl 1) hf hx (fun p hp => by
    have : p = 0 := by omega
    subst this
    rw [rd_II, if_pos ⟨rfl, rfl, rfl, rfl⟩, sel_0]
    rfl)
  refine ⟨m', ?_, e2, (fr_I rfl).tr e3⟩
  rw [e_X1_findReached]
  simp (disch := omega) only [jg_lit, jg_litL, jg_m1, jg_m1L, nI_add, lN_add, pk_mul, jg_sub, jg_subM, jg_addM, jg_addM', jg_negM, jt_in, jt_ix, jt_bi, jt_bl, jt_bv, jt_lt, jg_dT, jg_dF, jt_c, jt_cd, ru_I, ru_L, jg_leI, jg_ltI, jg_eqI, jg_M1, jg_M2, jg_M3, jg_M4, jg_M5, jg_M6, jg_ltT, jg_ltF, jg_leT, jg_leF, jg_eqT, jg_eqF, cond_true, cond_false, ne_eq, not_true_eq_false, not_false_eq_true, decide_true, decide_false, if_true, if_false, and_true, true_and, and_false, false_and, or_true, true_or, or_false, false_or, Nat.reduceEqDiff, reduceIte, Nat.reduceMul, Nat.reduceAdd, Nat.reduceSub, Nat.add_zero, Nat.zero_add, Nat.mul_zero, eq_self_iff_true, jg_not_lt, jg_not_le]
  exact e1
