/-! ===== all rows of a story (reference) ===== -/
def PG (L K _i _j k : Nat) : Prop := (K = 41 ∧ 3850 + 770 * (L + 1) ≤ k) ∨ (K = 40 ∧ (k = 26 ∨ k = 34 ∨ k = 35 ∨ k = 36)) ∨ K = 49 ∨ K = 50 ∨ (K = 53 ∧ L ≤ k) ∨ (K = 54 ∧ L + 1 ≤ k) ∨ K = 56
theorem PG_up {p q : Nat} (h : p ≤ q) {m m' : jm_M} (f : fr (PG q) m m') : fr (PG p) m m' := f.wk (fun K i j k z => by
  unfold PG at z ⊢
  rcases z with z | z | z | z | z | z | z
  · exact Or.inl ⟨z.1, Nat.le_trans (Nat.add_le_add_left (Nat.mul_le_mul_left 770 (Nat.add_le_add_right h 1)) 3850) z.2⟩
  · exact Or.inr (Or.inl z)
  · exact Or.inr (Or.inr (Or.inl z))
  · exact Or.inr (Or.inr (Or.inr (Or.inl z)))
  · exact Or.inr (Or.inr (Or.inr (Or.inr (Or.inl (by omega)))))
  · exact Or.inr (Or.inr (Or.inr (Or.inr (Or.inr (Or.inl (by omega))))))
  · exact Or.inr (Or.inr (Or.inr (Or.inr (Or.inr (Or.inr z))))))
theorem mLS_lo {S : Sf} {R : List Rl} (hR : okR R) {m m' : jm_M} (hS : mS S m) (hL : mL R m) (h : ∀ k, k < 770 → m'.1 41 0 0 k = m.1 41 0 0 k) : mS S m' ∧ mL R m' := by
  have h12 := hR.1
  have h150 := hR.2.1
  refine ⟨fun c h1 h2 => by rw [h _ (by omega)]; exact hS c h1 h2, by rw [h 3 (by omega)]; exact hL.1, fun k hk => by rw [h _ (by omega)]; exact hL.2.1 k hk, fun r hr => ?_⟩
  rw [h _ (by omega), h _ (by omega), h _ (by omega)]
  exact hL.2.2 r hr
def gtI (gs : List Nat) (tr L : Nat) (V : Vl) (n : Nat) (path : List Nat) (m : jm_M) : Prop := mV V (3850 + 770 * L) m ∧ mS (vlS V) m ∧ mL (vlR V) m ∧ (∀ q, q < gs.length → m.2 45 0 0 (60 * tr + q) = lN (gs.getD q 0)) ∧ m.1 54 0 0 L = nI n ∧ ∀ q, q < L → m.1 53 0 0 q = nI (path.getD q 0)
theorem gtI_fr {gs : List Nat} {tr L : Nat} {V : Vl} {n : Nat} {path : List Nat} {m m' : jm_M} (h : gtI gs tr L V n path m) (ho : okV V) (f : fr (PG L) m m') : gtI gs tr L V n path m' := by
  obtain ⟨h1, h2, h3, h4, h5, h6⟩ := h
  obtain ⟨a, b⟩ := mLS_lo ho.2.2.2.2.2.2 h2 h3 (fun k hk => (f 41 0 0 k (by unfold PG; omega)).1)
  exact ⟨mV_cp h1 ho.2.2.2.1 (fun k hk => (f 41 0 0 _ (by unfold PG; omega)).1), a, b, fun q hq => by rw [(f 45 0 0 _ (by unfold PG; omega)).2]; exact h4 q hq, by rw [(f 54 0 0 L (by unfold PG; omega)).1]; exact h5, fun q hq => by rw [(f 53 0 0 q (by unfold PG; omega)).1]; exact h6 q hq⟩
def bM (b : Bt) : Int32 := match b with
  | none => jM
  | some c => nI c.1
def gtF (len rows far : Nat) (b : Bt) (m : jm_M) : Prop := m.1 40 0 0 34 = nI rows ∧ m.1 40 0 0 36 = nI far ∧ m.1 40 0 0 35 = bM b ∧ ∀ c, b = some c → ∀ k, k < len → m.1 56 0 0 k = nI (c.2.getD k 0)
theorem gtF_k {len rows far : Nat} {b : Bt} {m m' : jm_M} (h : gtF len rows far b m) (h1 : ∀ k, k = 34 ∨ k = 35 ∨ k = 36 → m'.1 40 0 0 k = m.1 40 0 0 k) (h2 : ∀ k, m'.1 56 0 0 k = m.1 56 0 0 k) : gtF len rows far b m' := ⟨by rw [h1 34 (by omega)]; exact h.1, by rw [h1 36 (by omega)]; exact h.2.1, by rw [h1 35 (by omega)]; exact h.2.2.1, fun c hc k hk => by rw [h2]; exact h.2.2.2 c hc k hk⟩
theorem gt_108 {tr len L : Nat} {path : List Nat} (h5 : len ≤ 5) (z4 z6 : jm_V) (d : Nat) : ∀ (r k : Nat) (m : jm_M), k + r = len → (∀ q, q < len → m.1 53 0 0 q = nI (path.getD q 0)) → (∀ q, q < k → m.1 56 0 0 q = nI (path.getD q 0)) → ∃ m', jm_ev false d 11 0 jc_X12_goesThrough 108 [vM, .inl (nI tr), .inl (nI len), .inl (nI L), z4, .inl (nI k), z6] [] m = jm_ev false d 11 0 jc_X12_goesThrough 39 [vM, .inl (nI tr), .inl (nI len), .inl (nI L + jM), z4, .inl (nI len), z6] [] m' ∧ (∀ q, q < len → m'.1 56 0 0 q = nI (path.getD q 0)) ∧ fr (fun K _ _ _ => K = 56) m m'
  | 0, k, m, hr, hp, hq => by
    have e : k = len := by omega
    subst e
    refine ⟨m, ?_, hq, .rf⟩
    refine (l_X12_goesThrough_108 _ _ _ _ _ _ _ _).trans ?_
    rw [jt_dt (nI_le (Nat.le_refl k) (by omega)), cond_true]
    rfl
  | r + 1, k, m, hr, hp, hq => by
    have h53 := hp k (by omega)
    obtain ⟨m', e1, e2, e3⟩ := gt_108 (tr := tr) (L := L) h5 z4 z6 d r (k + 1) (jm_sI m 56 0 0 k (nI (path.getD k 0))) (by omega) (fun q hq => by rw [rd_II, if_neg (by omega)]; exact hp q hq) (fun q hq' => by
      rw [rd_II]
      by_cases e : q = k
      · rw [if_pos ⟨rfl, rfl, rfl, e⟩, e]
      · rw [if_neg (by omega)]; exact hq q (by omega))
    refine ⟨m', ?_, e2, (fr_I rfl).tr e3⟩
    rw [← e1]
    refine (l_X12_goesThrough_108 _ _ _ _ _ _ _ _).trans ?_
    simp (disch := omega) only [jg_lit, jg_litL, jg_m1, jg_m1L, nI_add, lN_add, pk_mul, jg_sub, jg_subM, jg_addM, jg_addM', jg_negM, jt_in, jt_ix, jt_bi, jt_bl, jt_bv, jt_lt, jg_dT, jg_dF, jt_c, jt_cd, ru_I, ru_L, jg_leI, jg_ltI, jg_eqI, jg_M1, jg_M2, jg_M3, jg_M4, jg_M5, jg_M6, jg_ltT, jg_ltF, jg_leT, jg_leF, jg_eqT, jg_eqF, cond_true, cond_false, ne_eq, not_true_eq_false, not_false_eq_true, decide_true, decide_false, if_true, if_false, and_true, true_and, and_false, false_and, or_true, true_or, or_false, false_or, Nat.reduceEqDiff, reduceIte, Nat.reduceMul, Nat.reduceAdd, Nat.reduceSub, Nat.add_zero, Nat.zero_add, Nat.mul_zero, eq_self_iff_true, jg_not_lt, jg_not_le, h53]
/-- from level L on, and back to the level ahead -/
def gtH (gs : List Nat) (tr D L : Nat) (t : List Nat) : Prop := ∀ (V : Vl) (n : Nat) (path : List Nat) (rows far : Nat) (b : Bt) (z4 z5 z6 : jm_V) (m : jm_M), path.length = L → (∀ x ∈ path, x < 12) → n ≤ L → L ≤ far → far ≤ gs.length → okV V → gtI gs tr L V n path m → m.1 53 0 0 L = jM → okB 5 gs.length b → gtF gs.length rows far b m → ∃ m' y4 y5 y6, jm_ev false D 11 0 jc_X12_goesThrough 39 [vM, .inl (nI tr), .inl (nI gs.length), .inl (nI L), z4, z5, z6] [] m = jm_ev false D 11 0 jc_X12_goesThrough 39 [vM, .inl (nI tr), .inl (nI gs.length), .inl (nI L + jM), y4, y5, y6] [] m' ∧ gtF gs.length (rows + rowsN t V) (max far (L + farN t V)) (bestN t V n path b) m' ∧ fr (PG L) m m'
theorem gt_leaf {gs : List Nat} (hg : okG gs) {tr D L : Nat} (ht : tr < 4) (hL : L = gs.length) : gtH gs tr D L [] := by
  intro V n path rows far b z4 z5 z6 m hp hpx hn hf1 hf2 ho hI h53 hob hF
  have h5 := hg.1
  obtain ⟨i1, i2, i3, i4, i5, i6⟩ := hI
  obtain ⟨f1, f2, f3, f4⟩ := hF
  have e0 : max far (L + farN [] V) = L := by show max far (L + 0) = L; omega
  have e1 : bestN [] V n path b = upB b n path := rfl
  have e2 : rows + rowsN [] V = rows + 1 := rfl
  rw [e0, e1, e2]
  subst hL
  have hset : ∀ (y : jm_V), ∃ m', jm_ev false D 11 0 jc_X12_goesThrough 108 [vM, .inl (nI tr), .inl (nI gs.length), .inl (nI gs.length), y, .inl (nI 0), z6] [] (jm_sI (jm_sI (jm_sI m 40 0 0 34 (nI (rows + 1))) 40 0 0 36 (nI gs.length)) 40 0 0 35 (nI n)) = jm_ev false D 11 0 jc_X12_goesThrough 39 [vM, .inl (nI tr), .inl (nI gs.length), .inl (nI gs.length + jM), y, .inl (nI gs.length), z6] [] m' ∧ gtF gs.length (rows + 1) gs.length (some (n, path)) m' ∧ fr (PG gs.length) m m' := by
    intro y
    obtain ⟨m', a1, a2, a3⟩ := gt_108 (tr := tr) (len := gs.length) (L := gs.length) (path := path) h5 y z6 D gs.length 0 (jm_sI (jm_sI (jm_sI m 40 0 0 34 (nI (rows + 1))) 40 0 0 36 (nI gs.length)) 40 0 0 35 (nI n)) (by omega) (fun q hq => by simp (disch := omega) only [jg_lit, jg_litL, jg_m1, jg_m1L, nI_add, lN_add, pk_mul, jg_sub, jg_subM, jg_addM, jg_addM', jg_negM, jt_in, jt_ix, jt_bi, jt_bl, jt_bv, jt_lt, jg_dT, jg_dF, jt_c, jt_cd, ru_I, ru_L, jg_leI, jg_ltI, jg_eqI, jg_M1, jg_M2, jg_M3, jg_M4, jg_M5, jg_M6, jg_ltT, jg_ltF, jg_leT, jg_leF, jg_eqT, jg_eqF, cond_true, cond_false, ne_eq, not_true_eq_false, not_false_eq_true, decide_true, decide_false, if_true, if_false, and_true, true_and, and_false, false_and, or_true, true_or, or_false, false_or, Nat.reduceEqDiff, reduceIte, Nat.reduceMul, Nat.reduceAdd, Nat.reduceSub, Nat.add_zero, Nat.zero_add, Nat.mul_zero, eq_self_iff_true, jg_not_lt, jg_not_le]; exact i6 q hq) (fun q hq => by omega)
    refine ⟨m', a1, ⟨?_, ?_, ?_, fun c hc k hk => ?_⟩, ?_⟩
    · rw [(a3 40 0 0 34 (by decide)).1]; simp (disch := omega) only [jg_lit, jg_litL, jg_m1, jg_m1L, nI_add, lN_add, pk_mul, jg_sub, jg_subM, jg_addM, jg_addM', jg_negM, jt_in, jt_ix, jt_bi, jt_bl, jt_bv, jt_lt, jg_dT, jg_dF, jt_c, jt_cd, ru_I, ru_L, jg_leI, jg_ltI, jg_eqI, jg_M1, jg_M2, jg_M3, jg_M4, jg_M5, jg_M6, jg_ltT, jg_ltF, jg_leT, jg_leF, jg_eqT, jg_eqF, cond_true, cond_false, ne_eq, not_true_eq_false, not_false_eq_true, decide_true, decide_false, if_true, if_false, and_true, true_and, and_false, false_and, or_true, true_or, or_false, false_or, Nat.reduceEqDiff, reduceIte, Nat.reduceMul, Nat.reduceAdd, Nat.reduceSub, Nat.add_zero, Nat.zero_add, Nat.mul_zero, eq_self_iff_true, jg_not_lt, jg_not_le]
    · rw [(a3 40 0 0 36 (by decide)).1]; simp (disch := omega) only [jg_lit, jg_litL, jg_m1, jg_m1L, nI_add, lN_add, pk_mul, jg_sub, jg_subM, jg_addM, jg_addM', jg_negM, jt_in, jt_ix, jt_bi, jt_bl, jt_bv, jt_lt, jg_dT, jg_dF, jt_c, jt_cd, ru_I, ru_L, jg_leI, jg_ltI, jg_eqI, jg_M1, jg_M2, jg_M3, jg_M4, jg_M5, jg_M6, jg_ltT, jg_ltF, jg_leT, jg_leF, jg_eqT, jg_eqF, cond_true, cond_false, ne_eq, not_true_eq_false, not_false_eq_true, decide_true, decide_false, if_true, if_false, and_true, true_and, and_false, false_and, or_true, true_or, or_false, false_or, Nat.reduceEqDiff, reduceIte, Nat.reduceMul, Nat.reduceAdd, Nat.reduceSub, Nat.add_zero, Nat.zero_add, Nat.mul_zero, eq_self_iff_true, jg_not_lt, jg_not_le]
    · rw [(a3 40 0 0 35 (by decide)).1]; simp (disch := omega) only [jg_lit, jg_litL, jg_m1, jg_m1L, nI_add, lN_add, pk_mul, jg_sub, jg_subM, jg_addM, jg_addM', jg_negM, jt_in, jt_ix, jt_bi, jt_bl, jt_bv, jt_lt, jg_dT, jg_dF, jt_c, jt_cd, ru_I, ru_L, jg_leI, jg_ltI, jg_eqI, jg_M1, jg_M2, jg_M3, jg_M4, jg_M5, jg_M6, jg_ltT, jg_ltF, jg_leT, jg_leF, jg_eqT, jg_eqF, cond_true, cond_false, ne_eq, not_true_eq_false, not_false_eq_true, decide_true, decide_false, if_true, if_false, and_true, true_and, and_false, false_and, or_true, true_or, or_false, false_or, Nat.reduceEqDiff, reduceIte, Nat.reduceMul, Nat.reduceAdd, Nat.reduceSub, Nat.add_zero, Nat.zero_add, Nat.mul_zero, eq_self_iff_true, jg_not_lt, jg_not_le]; rfl
    · have hc := Option.some.inj hc
      subst hc
      exact a2 k hk
    · refine (fr_sI (fr_sI (fr_sI .rf ?_) ?_) ?_).tr (a3.wk (fun K i j k z => by unfold PG; omega)) <;> (unfold PG; omega)
  cases b with
  | none =>
    have f3 : m.1 40 0 0 35 = jM := f3
    obtain ⟨m', a1, a2, a3⟩ := hset (.inl (nI (3850 + 770 * gs.length)))
    refine ⟨m', .inl (nI (3850 + 770 * gs.length)), .inl (nI gs.length), z6, ?_, a2, a3⟩
    rw [← a1]
    refine (l_X12_goesThrough_39 _ _ _ _ _ _ _ _).trans ?_
    simp (disch := omega) only [jg_lit, jg_litL, jg_m1, jg_m1L, nI_add, lN_add, pk_mul, jg_sub, jg_subM, jg_addM, jg_addM', jg_negM, jt_in, jt_ix, jt_bi, jt_bl, jt_bv, jt_lt, jg_dT, jg_dF, jt_c, jt_cd, ru_I, ru_L, jg_leI, jg_ltI, jg_eqI, jg_M1, jg_M2, jg_M3, jg_M4, jg_M5, jg_M6, jg_ltT, jg_ltF, jg_leT, jg_leF, jg_eqT, jg_eqF, cond_true, cond_false, ne_eq, not_true_eq_false, not_false_eq_true, decide_true, decide_false, if_true, if_false, and_true, true_and, and_false, false_and, or_true, true_or, or_false, false_or, Nat.reduceEqDiff, reduceIte, Nat.reduceMul, Nat.reduceAdd, Nat.reduceSub, Nat.add_zero, Nat.zero_add, Nat.mul_zero, eq_self_iff_true, jg_not_lt, jg_not_le, f1, f3, i5]
  | some c =>
    have f3 : m.1 40 0 0 35 = nI c.1 := f3
    have hc5 := (hob c rfl).1
    by_cases cc : n < c.1
    · obtain ⟨m', a1, a2, a3⟩ := hset (.inl (nI (3850 + 770 * gs.length)))
      have eu : upB (some c) n path = some (n, path) := upB_lt path cc
      rw [eu]
      refine ⟨m', .inl (nI (3850 + 770 * gs.length)), .inl (nI gs.length), z6, ?_, a2, a3⟩
      rw [← a1]
      refine (l_X12_goesThrough_39 _ _ _ _ _ _ _ _).trans ?_
      simp (disch := omega) only [jg_lit, jg_litL, jg_m1, jg_m1L, nI_add, lN_add, pk_mul, jg_sub, jg_subM, jg_addM, jg_addM', jg_negM, jt_in, jt_ix, jt_bi, jt_bl, jt_bv, jt_lt, jg_dT, jg_dF, jt_c, jt_cd, ru_I, ru_L, jg_leI, jg_ltI, jg_eqI, jg_M1, jg_M2, jg_M3, jg_M4, jg_M5, jg_M6, jg_ltT, jg_ltF, jg_leT, jg_leF, jg_eqT, jg_eqF, cond_true, cond_false, ne_eq, not_true_eq_false, not_false_eq_true, decide_true, decide_false, if_true, if_false, and_true, true_and, and_false, false_and, or_true, true_or, or_false, false_or, Nat.reduceEqDiff, reduceIte, Nat.reduceMul, Nat.reduceAdd, Nat.reduceSub, Nat.add_zero, Nat.zero_add, Nat.mul_zero, eq_self_iff_true, jg_not_lt, jg_not_le, f1, f3, i5]
    · have eu : upB (some c) n path = some c := upB_ge path (by omega)
      rw [eu]
      refine ⟨jm_sI (jm_sI m 40 0 0 34 (nI (rows + 1))) 40 0 0 36 (nI gs.length), .inl (nI (3850 + 770 * gs.length)), z5, z6, ?_, ⟨?_, ?_, ?_, fun q hq k hk => ?_⟩, fr_sI (fr_sI .rf (by unfold PG; omega)) (by unfold PG; omega)⟩
      · refine (l_X12_goesThrough_39 _ _ _ _ _ _ _ _).trans ?_
        simp (disch := omega) only [jg_lit, jg_litL, jg_m1, jg_m1L, nI_add, lN_add, pk_mul, jg_sub, jg_subM, jg_addM, jg_addM', jg_negM, jt_in, jt_ix, jt_bi, jt_bl, jt_bv, jt_lt, jg_dT, jg_dF, jt_c, jt_cd, ru_I, ru_L, jg_leI, jg_ltI, jg_eqI, jg_M1, jg_M2, jg_M3, jg_M4, jg_M5, jg_M6, jg_ltT, jg_ltF, jg_leT, jg_leF, jg_eqT, jg_eqF, cond_true, cond_false, ne_eq, not_true_eq_false, not_false_eq_true, decide_true, decide_false, if_true, if_false, and_true, true_and, and_false, false_and, or_true, true_or, or_false, false_or, Nat.reduceEqDiff, reduceIte, Nat.reduceMul, Nat.reduceAdd, Nat.reduceSub, Nat.add_zero, Nat.zero_add, Nat.mul_zero, eq_self_iff_true, jg_not_lt, jg_not_le, f1, f3, i5]
      · simp (disch := omega) only [jg_lit, jg_litL, jg_m1, jg_m1L, nI_add, lN_add, pk_mul, jg_sub, jg_subM, jg_addM, jg_addM', jg_negM, jt_in, jt_ix, jt_bi, jt_bl, jt_bv, jt_lt, jg_dT, jg_dF, jt_c, jt_cd, ru_I, ru_L, jg_leI, jg_ltI, jg_eqI, jg_M1, jg_M2, jg_M3, jg_M4, jg_M5, jg_M6, jg_ltT, jg_ltF, jg_leT, jg_leF, jg_eqT, jg_eqF, cond_true, cond_false, ne_eq, not_true_eq_false, not_false_eq_true, decide_true, decide_false, if_true, if_false, and_true, true_and, and_false, false_and, or_true, true_or, or_false, false_or, Nat.reduceEqDiff, reduceIte, Nat.reduceMul, Nat.reduceAdd, Nat.reduceSub, Nat.add_zero, Nat.zero_add, Nat.mul_zero, eq_self_iff_true, jg_not_lt, jg_not_le]
      · simp (disch := omega) only [jg_lit, jg_litL, jg_m1, jg_m1L, nI_add, lN_add, pk_mul, jg_sub, jg_subM, jg_addM, jg_addM', jg_negM, jt_in, jt_ix, jt_bi, jt_bl, jt_bv, jt_lt, jg_dT, jg_dF, jt_c, jt_cd, ru_I, ru_L, jg_leI, jg_ltI, jg_eqI, jg_M1, jg_M2, jg_M3, jg_M4, jg_M5, jg_M6, jg_ltT, jg_ltF, jg_leT, jg_leF, jg_eqT, jg_eqF, cond_true, cond_false, ne_eq, not_true_eq_false, not_false_eq_true, decide_true, decide_false, if_true, if_false, and_true, true_and, and_false, false_and, or_true, true_or, or_false, false_or, Nat.reduceEqDiff, reduceIte, Nat.reduceMul, Nat.reduceAdd, Nat.reduceSub, Nat.add_zero, Nat.zero_add, Nat.mul_zero, eq_self_iff_true, jg_not_lt, jg_not_le]
      · simp (disch := omega) only [jg_lit, jg_litL, jg_m1, jg_m1L, nI_add, lN_add, pk_mul, jg_sub, jg_subM, jg_addM, jg_addM', jg_negM, jt_in, jt_ix, jt_bi, jt_bl, jt_bv, jt_lt, jg_dT, jg_dF, jt_c, jt_cd, ru_I, ru_L, jg_leI, jg_ltI, jg_eqI, jg_M1, jg_M2, jg_M3, jg_M4, jg_M5, jg_M6, jg_ltT, jg_ltF, jg_leT, jg_leF, jg_eqT, jg_eqF, cond_true, cond_false, ne_eq, not_true_eq_false, not_false_eq_true, decide_true, decide_false, if_true, if_false, and_true, true_and, and_false, false_and, or_true, true_or, or_false, false_or, Nat.reduceEqDiff, reduceIte, Nat.reduceMul, Nat.reduceAdd, Nat.reduceSub, Nat.add_zero, Nat.zero_add, Nat.mul_zero, eq_self_iff_true, jg_not_lt, jg_not_le]; exact f3
      · simp (disch := omega) only [jg_lit, jg_litL, jg_m1, jg_m1L, nI_add, lN_add, pk_mul, jg_sub, jg_subM, jg_addM, jg_addM', jg_negM, jt_in, jt_ix, jt_bi, jt_bl, jt_bv, jt_lt, jg_dT, jg_dF, jt_c, jt_cd, ru_I, ru_L, jg_leI, jg_ltI, jg_eqI, jg_M1, jg_M2, jg_M3, jg_M4, jg_M5, jg_M6, jg_ltT, jg_ltF, jg_leT, jg_leF, jg_eqT, jg_eqF, cond_true, cond_false, ne_eq, not_true_eq_false, not_false_eq_true, decide_true, decide_false, if_true, if_false, and_true, true_and, and_false, false_and, or_true, true_or, or_false, false_or, Nat.reduceEqDiff, reduceIte, Nat.reduceMul, Nat.reduceAdd, Nat.reduceSub, Nat.add_zero, Nat.zero_add, Nat.mul_zero, eq_self_iff_true, jg_not_lt, jg_not_le]; exact f4 q hq k hk
theorem gt_out {tr len L : Nat} (h5 : len ≤ 5) (hL : L ≤ 5) (z4 : Int32) (z5 : jm_V) (D : Nat) (m : jm_M) : jm_ev false D 11 0 jc_X12_goesThrough 187 [vM, .inl (nI tr), .inl (nI len), .inl (nI L), .inl z4, z5, .inl (nI 12)] [] m = jm_ev false D 11 0 jc_X12_goesThrough 39 [vM, .inl (nI tr), .inl (nI len), .inl (nI L + jM), .inl z4, z5, .inl (nI 12)] [] m := by
  refine (l_X12_goesThrough_187 _ _ _ _ _ _ _ _).trans ?_
  rw [jt_df (fun z => z rfl), cond_false]
  rfl
theorem gt_in {gs t : List Nat} {tr L g d : Nat} (hg : okG gs) (ht : tr < 4) (hd : gs.drop L = g :: t) (H : gtH gs tr (d + 6) (L + 1) t) {V : Vl} (ho : okV V) {n : Nat} {path : List Nat} (hp : path.length = L) (hn : n ≤ L) (hpx : ∀ x ∈ path, x < 12) : ∀ (r k rows far : Nat) (b : Bt) (m : jm_M), k + r = 12 → L ≤ far → far ≤ gs.length → gtI gs tr L V n path m → okB 5 gs.length b → gtF gs.length rows far b m → ∃ m' y4 y5 y6, jm_ev false (d + 6) 11 0 jc_X12_goesThrough 164 [vM, .inl (nI tr), .inl (nI gs.length), .inl (nI L), .inl (nI (3850 + 770 * L)), .inl (nI (wWith (vlW V) g)), .inl (nI k)] [] m = jm_ev false (d + 6) 11 0 jc_X12_goesThrough 39 [vM, .inl (nI tr), .inl (nI gs.length), .inl (nI L + jM), y4, y5, y6] [] m' ∧ gtF gs.length (rows + rowsK (rowsN t) V g r k) (max far (L + farK (farN t) V g r k)) (bestK (bestN t) V g n path r k b) m' ∧ fr (PG L) m m'
  | 0, k, rows, far, b, m, hr, hf1, hf2, hI, hob, hF => by
    obtain ⟨hpl, -, -, hl⟩ := drop_c hd
    have h5 := hg.1
    have e : k = 12 := by omega
    subst e
    refine ⟨m, .inl (nI (3850 + 770 * L)), .inl (nI (wWith (vlW V) g)), .inl (nI 12), ?_, ?_, .rf⟩
    · rw [← gt_out h5 (by omega) (nI (3850 + 770 * L)) (.inl (nI (wWith (vlW V) g))) (d + 6) m]
      refine (l_X12_goesThrough_164 _ _ _ _ _ _ _ _).trans ?_
      rw [jt_dt (show (12 : Int32) ≤ nI 12 by decide), cond_true]
    · unfold rowsK farK bestK
      rw [Nat.add_zero, Nat.add_zero, Nat.max_eq_left hf1]
      exact hF
  | r + 1, k, rows, far, b, m, hr, hf1, hf2, hI, hob, hF => by
    obtain ⟨hpl, hge, hd2, hl⟩ := drop_c hd
    have h5 := hg.1
    have h12 := ho.2.2.2.1.1
    have hw4 := wWith_lt h12 g
    have hbt := bit_In (v := wWith (vlW V) g) (c := k) (by omega) (by omega)
    rw [wWith_bit] at hbt
    unfold rowsK farK bestK
    cases c : hasB (vlW V) g k with
    | false =>
      rw [c, bI_F] at hbt
      obtain ⟨m', y4, y5, y6, e1, e2, e3⟩ := gt_in hg ht hd H ho hp hn hpx r (k + 1) rows far b m (by omega) hf1 hf2 hI hob hF
      refine ⟨m', y4, y5, y6, ?_, ?_, e3⟩
      · rw [← e1]
        refine (l_X12_goesThrough_164 _ _ _ _ _ _ _ _).trans ?_
        simp (disch := omega) only [jg_lit, jg_litL, jg_m1, jg_m1L, nI_add, lN_add, pk_mul, jg_sub, jg_subM, jg_addM, jg_addM', jg_negM, jt_in, jt_ix, jt_bi, jt_bl, jt_bv, jt_lt, jg_dT, jg_dF, jt_c, jt_cd, ru_I, ru_L, jg_leI, jg_ltI, jg_eqI, jg_M1, jg_M2, jg_M3, jg_M4, jg_M5, jg_M6, jg_ltT, jg_ltF, jg_leT, jg_leF, jg_eqT, jg_eqF, cond_true, cond_false, ne_eq, not_true_eq_false, not_false_eq_true, decide_true, decide_false, if_true, if_false, and_true, true_and, and_false, false_and, or_true, true_or, or_false, false_or, Nat.reduceEqDiff, reduceIte, Nat.reduceMul, Nat.reduceAdd, Nat.reduceSub, Nat.add_zero, Nat.zero_add, Nat.mul_zero, eq_self_iff_true, jg_not_lt, jg_not_le, hbt]
      · simp only [Bool.false_eq_true, if_false, Nat.zero_add, Nat.zero_max]
        exact e2
    | true =>
      rw [c, bI_T] at hbt
      have hk : k < (vlW V).length := by
        by_cases z : k < (vlW V).length
        · exact z
        · rw [hasB_out (by omega)] at c; cases c
      have hnl := hasB_live (ho.2.2.2.1.2.1 k hk) c
      have sn := sayN_le V k
      have hgl := hg.2 L hpl
      rw [hge] at hgl
      obtain ⟨q1, q2, q3, q4, q5, q6⟩ := hI
      have v0 : mV V (3850 + 770 * L) (jm_sI m 53 0 0 L (nI k)) := mV_k q1 ho.2.2.2.1 (fun q => by rw [rd_II, if_neg (by omega)])
      obtain ⟨m1, a1, a2, -, a4⟩ := sm_laysV v0 ho.2.2.2.1 (a := 3850 + 770 * L) (b := 3850 + 770 * L + 770) (by omega) (by omega) (Or.inl (by omega)) (d + 5)
      have k1 : ∀ q, q < 3850 + 770 * L + 770 → m1.1 41 0 0 q = m.1 41 0 0 q := fun q hq => by rw [(a4 41 0 0 q (by unfold PA; omega)).1, rd_II, if_neg (by omega)]
      obtain ⟨s1, l1⟩ := mLS_lo ho.2.2.2.2.2.2 q2 q3 (fun q hq => k1 q (by omega))
      obtain ⟨m2, b1, b2, b3⟩ := sm_says a2 (by omega) ho s1 l1 hk hnl d
      have c54 : m1.1 54 0 0 L = nI n := by rw [(a4 54 0 0 L (by unfold PA; omega)).1, rd_II, if_neg (by omega)]; exact q5
      have c36 : m2.1 40 0 0 36 = nI far := by rw [(b3 40 0 0 36 (by unfold PS; omega)).1, (a4 40 0 0 36 (by unfold PA; omega)).1, rd_II, if_neg (by omega)]; exact hF.2.1
      have lo2 : ∀ q, q < 3850 + 770 * L + 770 → m2.1 41 0 0 q = m.1 41 0 0 q := fun q hq => by rw [(b3 41 0 0 q (by unfold PS; omega)).1]; exact k1 q hq
      generalize hm3 : jm_sI (jm_sI (jm_sI m2 54 0 0 (L + 1) (nI (n + sayN V k))) 40 0 0 36 (nI (max far (L + 1)))) 53 0 0 (L + 1) jM = m3
      have g3 : ∀ K q, ¬ (K = 54 ∧ q = L + 1) → ¬ (K = 40 ∧ q = 36) → ¬ (K = 53 ∧ q = L + 1) → m3.1 K 0 0 q = m2.1 K 0 0 q := fun K q z1 z2 z3 => by rw [← hm3, rd_II, if_neg (by omega), rd_II, if_neg (by omega), rd_II, if_neg (by omega)]
      have g3L : ∀ K q, m3.2 K 0 0 q = m2.2 K 0 0 q := fun K q => by rw [← hm3]
      have f3 : fr (PG L) m m3 := by
        rw [← hm3]
        refine fr_sI (fr_sI (fr_sI (((fr_I (by unfold PG; omega)).tr (a4.wk (fun K i j q z => by unfold PA at z; unfold PG; omega))).tr (b3.wk (fun K i j q z => by unfold PS at z; unfold PG; omega))) ?_) ?_) ?_ <;> (unfold PG; omega)
      have oV := okV_say ho hk hnl
      have i53 : m2.1 53 0 0 L = nI k := by rw [(b3 53 0 0 L (by unfold PS; omega)).1, (a4 53 0 0 L (by unfold PA; omega)).1, rd_II, if_pos ⟨rfl, rfl, rfl, rfl⟩]
      have p53 : ∀ q, q < L → m2.1 53 0 0 q = nI (path.getD q 0) := fun q hq => by rw [(b3 53 0 0 q (by unfold PS; omega)).1, (a4 53 0 0 q (by unfold PA; omega)).1, rd_II, if_neg (by omega)]; exact q6 q hq
      obtain ⟨sS, sL⟩ := mLS_lo ho.2.2.2.2.2.2 q2 q3 (m' := m3) (fun q hq => by rw [g3 41 q (by omega) (by omega) (by omega)]; exact lo2 q (by omega))
      have hI3 : gtI gs tr (L + 1) (sayV V k) (n + sayN V k) (path ++ [k]) m3 := by
        refine ⟨mV_cp b2 oV.2.2.2.1 (fun q hq => ?_), sS, sL, fun q hq => ?_, ?_, fun q hq => ?_⟩
        · rw [g3 41 _ (by omega) (by omega) (by omega), show 3850 + 770 * (L + 1) = 3850 + 770 * L + 770 by omega]
        · rw [g3L, (b3 45 0 0 _ (by unfold PS; omega)).2, (a4 45 0 0 _ (by unfold PA; omega)).2]; exact q4 q hq
        · rw [← hm3, rd_II, if_neg (by omega), rd_II, if_neg (by omega), rd_II, if_pos ⟨rfl, rfl, rfl, rfl⟩]
        · rw [g3 53 q (by omega) (by omega) (by omega)]
          by_cases e : q = L
          · rw [e, i53, ← hp, getD_app']
          · rw [getD_app (by omega)]; exact p53 q (by omega)
      have h53 : m3.1 53 0 0 (L + 1) = jM := by rw [← hm3, rd_II, if_pos ⟨rfl, rfl, rfl, rfl⟩]
      have hF3 : gtF gs.length rows (max far (L + 1)) b m3 := by
        refine ⟨?_, ?_, ?_, fun q hq w hw => ?_⟩
        · rw [g3 40 34 (by omega) (by omega) (by omega), (b3 40 0 0 34 (by unfold PS; omega)).1, (a4 40 0 0 34 (by unfold PA; omega)).1, rd_II, if_neg (by omega)]; exact hF.1
        · rw [← hm3, rd_II, if_neg (by omega), rd_II, if_pos ⟨rfl, rfl, rfl, rfl⟩]
        · rw [g3 40 35 (by omega) (by omega) (by omega), (b3 40 0 0 35 (by unfold PS; omega)).1, (a4 40 0 0 35 (by unfold PA; omega)).1, rd_II, if_neg (by omega)]; exact hF.2.2.1
        · rw [g3 56 w (by omega) (by omega) (by omega), (b3 56 0 0 w (by unfold PS; omega)).1, (a4 56 0 0 w (by unfold PA; omega)).1, rd_II, if_neg (by omega)]; exact hF.2.2.2 q hq w hw
      have pl : (path ++ [k]).length = L + 1 := by rw [List.length_append, List.length_singleton, hp]
      have px : ∀ x ∈ path ++ [k], x < 12 := fun x hx => by
        rcases List.mem_append.mp hx with z | z
        · exact hpx x z
        · rw [List.mem_singleton.mp z]; omega
      obtain ⟨m4, y4, y5, y6, u1, u2, u3⟩ := H (sayV V k) (n + sayN V k) (path ++ [k]) rows (max far (L + 1)) b (.inl (nI (3850 + 770 * L))) (.inl (nI (wWith (vlW V) g))) (.inl (nI k)) m3 pl px (by omega) (by omega) (by omega) oV hI3 h53 hob hF3
      have f4 : fr (PG L) m m4 := f3.tr (PG_up (by omega) u3)
      have hI4 := gtI_fr ⟨q1, q2, q3, q4, q5, q6⟩ ho f4
      have i534 : m4.1 53 0 0 L = nI k := by rw [(u3 53 0 0 L (by unfold PG; omega)).1, g3 53 L (by omega) (by omega) (by omega)]; exact i53
      have fl := farN_le t (sayV V k)
      have hob2 : okB 5 gs.length (bestN t (sayV V k) (n + sayN V k) (path ++ [k]) b) := okB_N t _ _ _ b (by omega) (by rw [pl]; omega) (fun x hx => by
        rcases List.mem_append.mp hx with z | z
        · exact hpx x z
        · rw [List.mem_singleton.mp z]; omega) hob
      obtain ⟨m5, w4, w5, w6, v1, v2, v3⟩ := gt_in hg ht hd H ho hp hn hpx r (k + 1) _ _ _ m4 (by omega) (by omega) (by omega) hI4 hob2 u2
      refine ⟨m5, w4, w5, w6, ?_, ?_, f4.tr v3⟩
      · have ma : jm_sem false (d + 6) jn_X12_meaningAt [vM, .inl (nI tr), .inl (nI L)] m4 = some (.inl (nI g), m4) := by
          have t4 := hI4.2.2.2.1 L hpl
          rw [hge] at t4
          have li : (lN g).toInt32 = nI g := lN_i _
          rw [e_X12_meaningAt]
          simp (disch := omega) only [jg_lit, jg_litL, jg_m1, jg_m1L, nI_add, lN_add, pk_mul, jg_sub, jg_subM, jg_addM, jg_addM', jg_negM, jt_in, jt_ix, jt_bi, jt_bl, jt_bv, jt_lt, jg_dT, jg_dF, jt_c, jt_cd, ru_I, ru_L, jg_leI, jg_ltI, jg_eqI, jg_M1, jg_M2, jg_M3, jg_M4, jg_M5, jg_M6, jg_ltT, jg_ltF, jg_leT, jg_leF, jg_eqT, jg_eqF, cond_true, cond_false, ne_eq, not_true_eq_false, not_false_eq_true, decide_true, decide_false, if_true, if_false, and_true, true_and, and_false, false_and, or_true, true_or, or_false, false_or, Nat.reduceEqDiff, reduceIte, Nat.reduceMul, Nat.reduceAdd, Nat.reduceSub, Nat.add_zero, Nat.zero_add, Nat.mul_zero, eq_self_iff_true, jg_not_lt, jg_not_le, t4, li]
        have wo := sm_wordsOf hI4.1 (by omega) ho.2.2.2.1 (g := g) (by omega) (d + 4)
        have s4 : nI (L + 1) + jM = nI L := pk_m1 L
        have h39 : jm_ev false (d + 6) 11 0 jc_X12_goesThrough 39 [vM, .inl (nI tr), .inl (nI gs.length), .inl (nI (L + 1) + jM), y4, y5, y6] [] m4 = jm_ev false (d + 6) 11 0 jc_X12_goesThrough 164 [vM, .inl (nI tr), .inl (nI gs.length), .inl (nI L), .inl (nI (3850 + 770 * L)), .inl (nI (wWith (vlW V) g)), .inl (nI (k + 1))] [] m4 := by
          rw [s4]
          refine (l_X12_goesThrough_39 _ _ _ _ _ _ _ _).trans ?_
          simp (disch := omega) only [jg_lit, jg_litL, jg_m1, jg_m1L, nI_add, lN_add, pk_mul, jg_sub, jg_subM, jg_addM, jg_addM', jg_negM, jt_in, jt_ix, jt_bi, jt_bl, jt_bv, jt_lt, jg_dT, jg_dF, jt_c, jt_cd, ru_I, ru_L, jg_leI, jg_ltI, jg_eqI, jg_M1, jg_M2, jg_M3, jg_M4, jg_M5, jg_M6, jg_ltT, jg_ltF, jg_leT, jg_leF, jg_eqT, jg_eqF, cond_true, cond_false, ne_eq, not_true_eq_false, not_false_eq_true, decide_true, decide_false, if_true, if_false, and_true, true_and, and_false, false_and, or_true, true_or, or_false, false_or, Nat.reduceEqDiff, reduceIte, Nat.reduceMul, Nat.reduceAdd, Nat.reduceSub, Nat.add_zero, Nat.zero_add, Nat.mul_zero, eq_self_iff_true, jg_not_lt, jg_not_le, ma, wo, i534]
        rw [← v1, ← h39, ← u1, ← hm3]
        refine (l_X12_goesThrough_164 _ _ _ _ _ _ _ _).trans ?_
        simp (disch := omega) only [jg_lit, jg_litL, jg_m1, jg_m1L, nI_add, lN_add, pk_mul, jg_sub, jg_subM, jg_addM, jg_addM', jg_negM, jt_in, jt_ix, jt_bi, jt_bl, jt_bv, jt_lt, jg_dT, jg_dF, jt_c, jt_cd, ru_I, ru_L, jg_leI, jg_ltI, jg_eqI, jg_M1, jg_M2, jg_M3, jg_M4, jg_M5, jg_M6, jg_ltT, jg_ltF, jg_leT, jg_leF, jg_eqT, jg_eqF, cond_true, cond_false, ne_eq, not_true_eq_false, not_false_eq_true, decide_true, decide_false, if_true, if_false, and_true, true_and, and_false, false_and, or_true, true_or, or_false, false_or, Nat.reduceEqDiff, reduceIte, Nat.reduceMul, Nat.reduceAdd, Nat.reduceSub, Nat.add_zero, Nat.zero_add, Nat.mul_zero, eq_self_iff_true, jg_not_lt, jg_not_le, hbt]
        refine (l_X12_goesThrough_187 _ _ _ _ _ _ _ _).trans ?_
        by_cases cf : L + 1 ≤ far
        · rw [Nat.max_eq_left cf]
          simp (disch := omega) only [jg_lit, jg_litL, jg_m1, jg_m1L, nI_add, lN_add, pk_mul, jg_sub, jg_subM, jg_addM, jg_addM', jg_negM, jt_in, jt_ix, jt_bi, jt_bl, jt_bv, jt_lt, jg_dT, jg_dF, jt_c, jt_cd, ru_I, ru_L, jg_leI, jg_ltI, jg_eqI, jg_M1, jg_M2, jg_M3, jg_M4, jg_M5, jg_M6, jg_ltT, jg_ltF, jg_leT, jg_leF, jg_eqT, jg_eqF, cond_true, cond_false, ne_eq, not_true_eq_false, not_false_eq_true, decide_true, decide_false, if_true, if_false, and_true, true_and, and_false, false_and, or_true, true_or, or_false, false_or, Nat.reduceEqDiff, reduceIte, Nat.reduceMul, Nat.reduceAdd, Nat.reduceSub, Nat.add_zero, Nat.zero_add, Nat.mul_zero, eq_self_iff_true, jg_not_lt, jg_not_le, a1, b1, c54, c36]
        · rw [Nat.max_eq_right (by omega)]
          simp (disch := omega) only [jg_lit, jg_litL, jg_m1, jg_m1L, nI_add, lN_add, pk_mul, jg_sub, jg_subM, jg_addM, jg_addM', jg_negM, jt_in, jt_ix, jt_bi, jt_bl, jt_bv, jt_lt, jg_dT, jg_dF, jt_c, jt_cd, ru_I, ru_L, jg_leI, jg_ltI, jg_eqI, jg_M1, jg_M2, jg_M3, jg_M4, jg_M5, jg_M6, jg_ltT, jg_ltF, jg_leT, jg_leF, jg_eqT, jg_eqF, cond_true, cond_false, ne_eq, not_true_eq_false, not_false_eq_true, decide_true, decide_false, if_true, if_false, and_true, true_and, and_false, false_and, or_true, true_or, or_false, false_or, Nat.reduceEqDiff, reduceIte, Nat.reduceMul, Nat.reduceAdd, Nat.reduceSub, Nat.add_zero, Nat.zero_add, Nat.mul_zero, eq_self_iff_true, jg_not_lt, jg_not_le, a1, b1, c54, c36]
      · rw [if_pos rfl, if_pos rfl, if_pos rfl, ← Nat.add_assoc, show max far (L + max (farN t (sayV V k) + 1) (farK (farN t) V g r (k + 1))) = max (max (max far (L + 1)) (L + 1 + farN t (sayV V k))) (L + farK (farN t) V g r (k + 1)) by omega]
        exact v2
theorem gt_all {gs : List Nat} (hg : okG gs) {tr d : Nat} (ht : tr < 4) : ∀ (t : List Nat) (L : Nat), gs.drop L = t → L ≤ gs.length → gtH gs tr (d + 6) L t
  | [], L, hd, hl => by
    have h : (gs.drop L).length = 0 := by rw [hd]; rfl
    rw [List.length_drop] at h
    exact gt_leaf hg ht (by omega)
  | g :: t, L, hd, hl => by
    obtain ⟨hpl, hge, hd2, hll⟩ := drop_c hd
    have h5 := hg.1
    have H := gt_all hg ht (d := d) t (L + 1) hd2 (by omega)
    intro V n path rows far b z4 z5 z6 m hp hpx hn hf1 hf2 ho hI h53 hob hF
    have hgl := hg.2 L hpl
    rw [hge] at hgl
    obtain ⟨m', y4, y5, y6, e1, e2, e3⟩ := gt_in hg ht hd H ho hp hn hpx 12 0 rows far b m rfl hf1 hf2 hI hob hF
    refine ⟨m', y4, y5, y6, ?_, e2, e3⟩
    have ma : jm_sem false (d + 6) jn_X12_meaningAt [vM, .inl (nI tr), .inl (nI L)] m = some (.inl (nI g), m) := by
      have t4 := hI.2.2.2.1 L hpl
      rw [hge] at t4
      have li : (lN g).toInt32 = nI g := lN_i _
      rw [e_X12_meaningAt]
      simp (disch := omega) only [jg_lit, jg_litL, jg_m1, jg_m1L, nI_add, lN_add, pk_mul, jg_sub, jg_subM, jg_addM, jg_addM', jg_negM, jt_in, jt_ix, jt_bi, jt_bl, jt_bv, jt_lt, jg_dT, jg_dF, jt_c, jt_cd, ru_I, ru_L, jg_leI, jg_ltI, jg_eqI, jg_M1, jg_M2, jg_M3, jg_M4, jg_M5, jg_M6, jg_ltT, jg_ltF, jg_leT, jg_leF, jg_eqT, jg_eqF, cond_true, cond_false, ne_eq, not_true_eq_false, not_false_eq_true, decide_true, decide_false, if_true, if_false, and_true, true_and, and_false, false_and, or_true, true_or, or_false, false_or, Nat.reduceEqDiff, reduceIte, Nat.reduceMul, Nat.reduceAdd, Nat.reduceSub, Nat.add_zero, Nat.zero_add, Nat.mul_zero, eq_self_iff_true, jg_not_lt, jg_not_le, t4, li]
    have wo := sm_wordsOf hI.1 (by omega) ho.2.2.2.1 (g := g) (by omega) (d + 4)
    have j0 : jM + nI 1 = nI 0 := rfl
    rw [← e1]
    refine (l_X12_goesThrough_39 _ _ _ _ _ _ _ _).trans ?_
    simp (disch := omega) only [jg_lit, jg_litL, jg_m1, jg_m1L, nI_add, lN_add, pk_mul, jg_sub, jg_subM, jg_addM, jg_addM', jg_negM, jt_in, jt_ix, jt_bi, jt_bl, jt_bv, jt_lt, jg_dT, jg_dF, jt_c, jt_cd, ru_I, ru_L, jg_leI, jg_ltI, jg_eqI, jg_M1, jg_M2, jg_M3, jg_M4, jg_M5, jg_M6, jg_ltT, jg_ltF, jg_leT, jg_leF, jg_eqT, jg_eqF, cond_true, cond_false, ne_eq, not_true_eq_false, not_false_eq_true, decide_true, decide_false, if_true, if_false, and_true, true_and, and_false, false_and, or_true, true_or, or_false, false_or, Nat.reduceEqDiff, reduceIte, Nat.reduceMul, Nat.reduceAdd, Nat.reduceSub, Nat.add_zero, Nat.zero_add, Nat.mul_zero, eq_self_iff_true, jg_not_lt, jg_not_le, ma, wo, h53, j0]
def PGt (K _i _j k : Nat) : Prop := (K = 41 ∧ 3850 ≤ k) ∨ (K = 40 ∧ (k = 26 ∨ k = 34 ∨ k = 35 ∨ k = 36)) ∨ K = 49 ∨ K = 50 ∨ K = 53 ∨ K = 54 ∨ K = 56
theorem sm_through {gs : List Nat} (hg : okG gs) {tr : Nat} (ht : tr < 4) {V : Vl} (ho : okV V) {m : jm_M} (h : mF V m) (h4 : ∀ q, q < gs.length → m.2 45 0 0 (60 * tr + q) = lN (gs.getD q 0)) (d : Nat) : ∃ m', jm_sem false (d + 7) jn_X12_goesThrough [vM, .inl (nI tr), .inl (nI gs.length)] m = some (jm_j, m') ∧ gtF gs.length (rowsN gs V) (farN gs V) (bestN gs V 0 [] none) m' ∧ fr PGt m m' := by
  have h5 := hg.1
  have v0 : mV V 0 (jm_sI (jm_sI (jm_sI m 40 0 0 34 (nI 0)) 40 0 0 35 jM) 40 0 0 36 (nI 0)) := mV_k h.1 ho.2.2.2.1 (fun q => by simp (disch := omega) only [jg_lit, jg_litL, jg_m1, jg_m1L, nI_add, lN_add, pk_mul, jg_sub, jg_subM, jg_addM, jg_addM', jg_negM, jt_in, jt_ix, jt_bi, jt_bl, jt_bv, jt_lt, jg_dT, jg_dF, jt_c, jt_cd, ru_I, ru_L, jg_leI, jg_ltI, jg_eqI, jg_M1, jg_M2, jg_M3, jg_M4, jg_M5, jg_M6, jg_ltT, jg_ltF, jg_leT, jg_leF, jg_eqT, jg_eqF, cond_true, cond_false, ne_eq, not_true_eq_false, not_false_eq_true, decide_true, decide_false, if_true, if_false, and_true, true_and, and_false, false_and, or_true, true_or, or_false, false_or, Nat.reduceEqDiff, reduceIte, Nat.reduceMul, Nat.reduceAdd, Nat.reduceSub, Nat.add_zero, Nat.zero_add, Nat.mul_zero, eq_self_iff_true, jg_not_lt, jg_not_le])
  obtain ⟨m1, a1, a2, -, a4⟩ := sm_laysV v0 ho.2.2.2.1 (a := 0) (b := 3850) (by omega) (by omega) (Or.inl (by omega)) (d + 5)
  have lo : ∀ q, q < 3850 → m1.1 41 0 0 q = m.1 41 0 0 q := fun q hq => by rw [(a4 41 0 0 q (by unfold PA; omega)).1]; simp (disch := omega) only [jg_lit, jg_litL, jg_m1, jg_m1L, nI_add, lN_add, pk_mul, jg_sub, jg_subM, jg_addM, jg_addM', jg_negM, jt_in, jt_ix, jt_bi, jt_bl, jt_bv, jt_lt, jg_dT, jg_dF, jt_c, jt_cd, ru_I, ru_L, jg_leI, jg_ltI, jg_eqI, jg_M1, jg_M2, jg_M3, jg_M4, jg_M5, jg_M6, jg_ltT, jg_ltF, jg_leT, jg_leF, jg_eqT, jg_eqF, cond_true, cond_false, ne_eq, not_true_eq_false, not_false_eq_true, decide_true, decide_false, if_true, if_false, and_true, true_and, and_false, false_and, or_true, true_or, or_false, false_or, Nat.reduceEqDiff, reduceIte, Nat.reduceMul, Nat.reduceAdd, Nat.reduceSub, Nat.add_zero, Nat.zero_add, Nat.mul_zero, eq_self_iff_true, jg_not_lt, jg_not_le]
  generalize hm2 : jm_sI (jm_sI m1 53 0 0 0 jM) 54 0 0 0 (nI 0) = m2
  have g2 : ∀ K q, K ≠ 53 → K ≠ 54 → m2.1 K 0 0 q = m1.1 K 0 0 q := fun K q z1 z2 => by rw [← hm2, rd_II, if_neg (by omega), rd_II, if_neg (by omega)]
  obtain ⟨s2, l2⟩ := mLS_lo ho.2.2.2.2.2.2 h.2.2.1 h.2.2.2 (m' := m2) (fun q hq => by rw [g2 41 q (by decide) (by decide)]; exact lo q (by omega))
  have c40 : ∀ q, m1.1 40 0 0 q = (jm_sI (jm_sI (jm_sI m 40 0 0 34 (nI 0)) 40 0 0 35 jM) 40 0 0 36 (nI 0)).1 40 0 0 q := fun q => (a4 40 0 0 q (by unfold PA; omega)).1
  obtain ⟨m', y4, y5, y6, e1, e2, e3⟩ := gt_all hg ht (d := d) gs 0 rfl (Nat.zero_le _) V 0 [] 0 0 none jm_j jm_j jm_j m2 rfl (fun x hx => absurd hx List.not_mem_nil) (Nat.le_refl 0) (Nat.le_refl 0) (Nat.zero_le _) ho ⟨mV_k a2 ho.2.2.2.1 (fun q => g2 41 q (by decide) (by decide)), s2, l2, fun q hq => by rw [← hm2]; exact ((a4 45 0 0 _ (by unfold PA; omega)).2).trans (h4 q hq), by rw [← hm2, rd_II, if_pos ⟨rfl, rfl, rfl, rfl⟩], fun q hq => by omega⟩ (by rw [← hm2, rd_II, if_neg (by omega), rd_II, if_pos ⟨rfl, rfl, rfl, rfl⟩]) (fun c hc => by cases hc) ⟨by rw [g2 40 34 (by decide) (by decide), c40]; simp (disch := omega) only [jg_lit, jg_litL, jg_m1, jg_m1L, nI_add, lN_add, pk_mul, jg_sub, jg_subM, jg_addM, jg_addM', jg_negM, jt_in, jt_ix, jt_bi, jt_bl, jt_bv, jt_lt, jg_dT, jg_dF, jt_c, jt_cd, ru_I, ru_L, jg_leI, jg_ltI, jg_eqI, jg_M1, jg_M2, jg_M3, jg_M4, jg_M5, jg_M6, jg_ltT, jg_ltF, jg_leT, jg_leF, jg_eqT, jg_eqF, cond_true, cond_false, ne_eq, not_true_eq_false, not_false_eq_true, decide_true, decide_false, if_true, if_false, and_true, true_and, and_false, false_and, or_true, true_or, or_false, false_or, Nat.reduceEqDiff, reduceIte, Nat.reduceMul, Nat.reduceAdd, Nat.reduceSub, Nat.add_zero, Nat.zero_add, Nat.mul_zero, eq_self_iff_true, jg_not_lt, jg_not_le], by rw [g2 40 36 (by decide) (by decide), c40]; simp (disch := omega) only [jg_lit, jg_litL, jg_m1, jg_m1L, nI_add, lN_add, pk_mul, jg_sub, jg_subM, jg_addM, jg_addM', jg_negM, jt_in, jt_ix, jt_bi, jt_bl, jt_bv, jt_lt, jg_dT, jg_dF, jt_c, jt_cd, ru_I, ru_L, jg_leI, jg_ltI, jg_eqI, jg_M1, jg_M2, jg_M3, jg_M4, jg_M5, jg_M6, jg_ltT, jg_ltF, jg_leT, jg_leF, jg_eqT, jg_eqF, cond_true, cond_false, ne_eq, not_true_eq_false, not_false_eq_true, decide_true, decide_false, if_true, if_false, and_true, true_and, and_false, false_and, or_true, true_or, or_false, false_or, Nat.reduceEqDiff, reduceIte, Nat.reduceMul, Nat.reduceAdd, Nat.reduceSub, Nat.add_zero, Nat.zero_add, Nat.mul_zero, eq_self_iff_true, jg_not_lt, jg_not_le], by rw [g2 40 35 (by decide) (by decide), c40]; simp (disch := omega) only [jg_lit, jg_litL, jg_m1, jg_m1L, nI_add, lN_add, pk_mul, jg_sub, jg_subM, jg_addM, jg_addM', jg_negM, jt_in, jt_ix, jt_bi, jt_bl, jt_bv, jt_lt, jg_dT, jg_dF, jt_c, jt_cd, ru_I, ru_L, jg_leI, jg_ltI, jg_eqI, jg_M1, jg_M2, jg_M3, jg_M4, jg_M5, jg_M6, jg_ltT, jg_ltF, jg_leT, jg_leF, jg_eqT, jg_eqF, cond_true, cond_false, ne_eq, not_true_eq_false, not_false_eq_true, decide_true, decide_false, if_true, if_false, and_true, true_and, and_false, false_and, or_true, true_or, or_false, false_or, Nat.reduceEqDiff, reduceIte, Nat.reduceMul, Nat.reduceAdd, Nat.reduceSub, Nat.add_zero, Nat.zero_add, Nat.mul_zero, eq_self_iff_true, jg_not_lt, jg_not_le]; rfl, fun c hc => by cases hc⟩
  refine ⟨m', ?_, ?_, ?_⟩
  · rw [e_X12_goesThrough]
    simp (disch := omega) only [jg_lit, jg_litL, jg_m1, jg_m1L, nI_add, lN_add, pk_mul, jg_sub, jg_subM, jg_addM, jg_addM', jg_negM, jt_in, jt_ix, jt_bi, jt_bl, jt_bv, jt_lt, jg_dT, jg_dF, jt_c, jt_cd, ru_I, ru_L, jg_leI, jg_ltI, jg_eqI, jg_M1, jg_M2, jg_M3, jg_M4, jg_M5, jg_M6, jg_ltT, jg_ltF, jg_leT, jg_leF, jg_eqT, jg_eqF, cond_true, cond_false, ne_eq, not_true_eq_false, not_false_eq_true, decide_true, decide_false, if_true, if_false, and_true, true_and, and_false, false_and, or_true, true_or, or_false, false_or, Nat.reduceEqDiff, reduceIte, Nat.reduceMul, Nat.reduceAdd, Nat.reduceSub, Nat.add_zero, Nat.zero_add, Nat.mul_zero, eq_self_iff_true, jg_not_lt, jg_not_le, a1]
    rw [hm2]
    refine e1.trans ?_
    refine (l_X12_goesThrough_39 _ _ _ _ _ _ _ _).trans ?_
    rfl
  · rw [Nat.zero_add, Nat.zero_add, Nat.zero_max] at e2
    exact e2
  · rw [← hm2] at e3
    exact ((fr_sI (fr_sI (fr_sI .rf (by unfold PGt; omega)) (by unfold PGt; omega)) (by unfold PGt; omega)).tr (a4.wk (fun K i j q z => by unfold PA at z; unfold PGt; omega))).tr ((fr_sI (fr_sI .rf (by unfold PGt; omega)) (by unfold PGt; omega)).tr (e3.wk (fun K i j q z => by unfold PG at z; unfold PGt; omega)))
