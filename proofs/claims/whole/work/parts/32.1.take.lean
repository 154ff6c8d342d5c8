/-! ===== which rows can be told ===== -/
theorem lc_lt (a b : Int64) : (lg_cmp a b < nI 0) = (a < b) := propext (lgc_lt a b)
theorem lN_ltI {a b : Nat} (ha : a < 2 ^ 31) (hb : b < 2 ^ 31) : (lN a < lN b) = (a < b) := by
  rw [Int64.lt_iff_toInt_lt, lN_toInt (by omega), lN_toInt (by omega)]
  exact propext (by omega)
theorem lN_leI {a b : Nat} (ha : a < 2 ^ 31) (hb : b < 2 ^ 31) : (lN a ≤ lN b) = (a ≤ b) := by
  rw [Int64.le_iff_toInt_le, lN_toInt (by omega), lN_toInt (by omega)]
  exact propext (by omega)
def P24 (K _i _j k : Nat) : Prop := (K = 22 ∧ k = 10) ∨ K = 24
theorem xT_24 {T : Tr} {m : jm_M} (h : xT T m) {k : Nat} {x : Int32} : xT T (jm_sI m 24 0 0 k x) := xT_k h (fun i j q => by rw [rd_II, if_neg (by omega)]) (fun _ _ _ => rfl)
theorem sx_take_ok {T : Tr} {t : Nat} (ht : t < 4) {so sz : Nat} {f : Nat → Int64} (hT : T t = some (so, sz, f)) {mean : Nat} (hme : mean ≤ 12) {gs : List Nat} (hg : gsB f mean gs) (hs : gs.length ≤ sz) (h5 : gs.length ≤ 5) (z2 : jm_V) (d : Nat) : ∀ (r k : Nat) (z5 z6 : jm_V) (m : jm_M), k + r = gs.length → xT T m → m.1 22 0 0 10 = nI gs.length → (∀ q, q < k → m.1 24 0 0 q = nI (gs.getD q 0)) → ∃ m', jm_ev false (d + 2) 4 2 jc_X5_take 12 [.inr (.inr (.inl (22, 0, 0))), .inr (.inr (.inl (2, t, 0))), z2, .inl (nI mean), .inl (nI k), z5, z6] [] m = some (.inl (nI 1), m') ∧ m'.1 22 0 0 10 = nI gs.length ∧ (∀ q, q < gs.length → m'.1 24 0 0 q = nI (gs.getD q 0)) ∧ fr P24 m m'
  | 0, k, z5, z6, m, hr, hx, h10, hq => by
    refine ⟨m, ?_, h10, fun q hq' => hq q (by omega), .rf⟩
    rw [l_X5_take_12]
    simp (disch := omega) only [jg_lit, jg_litL, jg_m1, jg_m1L, nI_add, lN_add, pk_mul, jg_sub, jg_subM, jg_addM, jg_addM', jg_negM, jt_in, jt_ix, jt_bi, jt_bl, jt_bv, jt_lt, jg_dT, jg_dF, jt_c, jt_cd, ru_I, ru_L, jg_leI, jg_ltI, jg_eqI, jg_M1, jg_M2, jg_M3, jg_M4, jg_M5, jg_M6, jg_ltT, jg_ltF, jg_leT, jg_leF, jg_eqT, jg_eqF, cond_true, cond_false, ne_eq, not_true_eq_false, not_false_eq_true, decide_true, decide_false, if_true, if_false, and_true, true_and, and_false, false_and, or_true, true_or, or_false, false_or, Nat.reduceEqDiff, reduceIte, Nat.reduceMul, Nat.reduceAdd, Nat.reduceSub, Nat.add_zero, Nat.zero_add, Nat.mul_zero, eq_self_iff_true, jg_not_lt, jg_not_le, h10]
  | r + 1, k, z5, z6, m, hr, hx, h10, hq => by
    obtain ⟨g1, g2⟩ := hg k (by omega)
    have a := sx_at hx ht hT (show k < sz by omega) d
    rw [g2] at a
    obtain ⟨m', e1, e2, e3, e4⟩ := sx_take_ok ht hT hme hg hs h5 z2 d r (k + 1) (.inr (.inl (lN (gs.getD k 0)))) jm_j (jm_sI m 24 0 0 k (nI (gs.getD k 0))) (by omega) (xT_24 hx) (by rw [rd_II, if_neg (by omega)]; exact h10) (fun q hq' => by
      rw [rd_II]
      by_cases e : q = k
      · rw [if_pos ⟨rfl, rfl, rfl, e⟩, e]
      · rw [if_neg (by omega)]; exact hq q (by omega))
    refine ⟨m', ?_, e2, e3, (fr_I (show P24 24 0 0 k from Or.inr rfl)).tr e4⟩
    have c1 : (lN (gs.getD k 0) < lN 0) = False := by rw [lN_ltI (by omega) (by omega)]; exact eq_false (by omega)
    have c2 : (lN (gs.getD k 0) < lN mean) = True := by rw [lN_ltI (by omega) (by omega)]; exact eq_true g1
    have c3 : (nI mean).toInt64 = lN mean := nI_l (by omega)
    have c4 : (lN (gs.getD k 0)).toInt32 = nI (gs.getD k 0) := lN_i _
    rw [← e1, l_X5_take_12]
    simp (disch := omega) only [jg_lit, jg_litL, jg_m1, jg_m1L, nI_add, lN_add, pk_mul, jg_sub, jg_subM, jg_addM, jg_addM', jg_negM, jt_in, jt_ix, jt_bi, jt_bl, jt_bv, jt_lt, jg_dT, jg_dF, jt_c, jt_cd, ru_I, ru_L, jg_leI, jg_ltI, jg_eqI, jg_M1, jg_M2, jg_M3, jg_M4, jg_M5, jg_M6, jg_ltT, jg_ltF, jg_leT, jg_leF, jg_eqT, jg_eqF, cond_true, cond_false, ne_eq, not_true_eq_false, not_false_eq_true, decide_true, decide_false, if_true, if_false, and_true, true_and, and_false, false_and, or_true, true_or, or_false, false_or, Nat.reduceEqDiff, reduceIte, Nat.reduceMul, Nat.reduceAdd, Nat.reduceSub, Nat.add_zero, Nat.zero_add, Nat.mul_zero, eq_self_iff_true, jg_not_lt, jg_not_le, h10, a, lc_lt, c1, c3, c2, c4]
theorem sx_take_no {T : Tr} {t : Nat} (ht : t < 4) {so sz : Nat} {f : Nat → Int64} (hT : T t = some (so, sz, f)) {mean n : Nat} (hme : mean ≤ 12) {gs : List Nat} (hg : gsB f mean gs) (hn : gs.length < n) (hs : n ≤ sz) (h5 : n ≤ 5) (hb : f gs.length < 0 ∨ lN mean ≤ f gs.length) (z2 : jm_V) (d : Nat) : ∀ (r k : Nat) (z5 z6 : jm_V) (m : jm_M), k + r = gs.length → xT T m → m.1 22 0 0 10 = nI n → ∃ m', jm_ev false (d + 2) 4 2 jc_X5_take 12 [.inr (.inr (.inl (22, 0, 0))), .inr (.inr (.inl (2, t, 0))), z2, .inl (nI mean), .inl (nI k), z5, z6] [] m = some (.inl (nI 0), m') ∧ fr P24 m m'
  | 0, k, z5, z6, m, hr, hx, h10 => by
    have e : k = gs.length := by omega
    subst e
    have a := sx_at hx ht hT (show gs.length < sz by omega) d
    have c3 : (nI mean).toInt64 = lN mean := nI_l (by omega)
    refine ⟨m, ?_, .rf⟩
    rw [l_X5_take_12]
    by_cases c1 : f gs.length < lN 0
    · simp (disch := omega) only [jg_lit, jg_litL, jg_m1, jg_m1L, nI_add, lN_add, pk_mul, jg_sub, jg_subM, jg_addM, jg_addM', jg_negM, jt_in, jt_ix, jt_bi, jt_bl, jt_bv, jt_lt, jg_dT, jg_dF, jt_c, jt_cd, ru_I, ru_L, jg_leI, jg_ltI, jg_eqI, jg_M1, jg_M2, jg_M3, jg_M4, jg_M5, jg_M6, jg_ltT, jg_ltF, jg_leT, jg_leF, jg_eqT, jg_eqF, cond_true, cond_false, ne_eq, not_true_eq_false, not_false_eq_true, decide_true, decide_false, if_true, if_false, and_true, true_and, and_false, false_and, or_true, true_or, or_false, false_or, Nat.reduceEqDiff, reduceIte, Nat.reduceMul, Nat.reduceAdd, Nat.reduceSub, Nat.add_zero, Nat.zero_add, Nat.mul_zero, eq_self_iff_true, jg_not_lt, jg_not_le, h10, a, lc_lt, c1]
    · have c2 : (f gs.length < lN mean) = False := eq_false (Int64.not_lt.mpr (hb.resolve_left c1))
      have c1 : (f gs.length < lN 0) = False := eq_false c1
      simp (disch := omega) only [jg_lit, jg_litL, jg_m1, jg_m1L, nI_add, lN_add, pk_mul, jg_sub, jg_subM, jg_addM, jg_addM', jg_negM, jt_in, jt_ix, jt_bi, jt_bl, jt_bv, jt_lt, jg_dT, jg_dF, jt_c, jt_cd, ru_I, ru_L, jg_leI, jg_ltI, jg_eqI, jg_M1, jg_M2, jg_M3, jg_M4, jg_M5, jg_M6, jg_ltT, jg_ltF, jg_leT, jg_leF, jg_eqT, jg_eqF, cond_true, cond_false, ne_eq, not_true_eq_false, not_false_eq_true, decide_true, decide_false, if_true, if_false, and_true, true_and, and_false, false_and, or_true, true_or, or_false, false_or, Nat.reduceEqDiff, reduceIte, Nat.reduceMul, Nat.reduceAdd, Nat.reduceSub, Nat.add_zero, Nat.zero_add, Nat.mul_zero, eq_self_iff_true, jg_not_lt, jg_not_le, h10, a, lc_lt, c1, c3, c2]
  | r + 1, k, z5, z6, m, hr, hx, h10 => by
    obtain ⟨g1, g2⟩ := hg k (by omega)
    have a := sx_at hx ht hT (show k < sz by omega) d
    rw [g2] at a
    obtain ⟨m', e1, e4⟩ := sx_take_no ht hT hme hg hn hs h5 hb z2 d r (k + 1) (.inr (.inl (lN (gs.getD k 0)))) jm_j (jm_sI m 24 0 0 k (nI (gs.getD k 0))) (by omega) (xT_24 hx) (by rw [rd_II, if_neg (by omega)]; exact h10)
    refine ⟨m', ?_, (fr_I (show P24 24 0 0 k from Or.inr rfl)).tr e4⟩
    have c1 : (lN (gs.getD k 0) < lN 0) = False := by rw [lN_ltI (by omega) (by omega)]; exact eq_false (by omega)
    have c2 : (lN (gs.getD k 0) < lN mean) = True := by rw [lN_ltI (by omega) (by omega)]; exact eq_true g1
    have c3 : (nI mean).toInt64 = lN mean := nI_l (by omega)
    have c4 : (lN (gs.getD k 0)).toInt32 = nI (gs.getD k 0) := lN_i _
    rw [← e1, l_X5_take_12]
    simp (disch := omega) only [jg_lit, jg_litL, jg_m1, jg_m1L, nI_add, lN_add, pk_mul, jg_sub, jg_subM, jg_addM, jg_addM', jg_negM, jt_in, jt_ix, jt_bi, jt_bl, jt_bv, jt_lt, jg_dT, jg_dF, jt_c, jt_cd, ru_I, ru_L, jg_leI, jg_ltI, jg_eqI, jg_M1, jg_M2, jg_M3, jg_M4, jg_M5, jg_M6, jg_ltT, jg_ltF, jg_leT, jg_leF, jg_eqT, jg_eqF, cond_true, cond_false, ne_eq, not_true_eq_false, not_false_eq_true, decide_true, decide_false, if_true, if_false, and_true, true_and, and_false, false_and, or_true, true_or, or_false, false_or, Nat.reduceEqDiff, reduceIte, Nat.reduceMul, Nat.reduceAdd, Nat.reduceSub, Nat.add_zero, Nat.zero_add, Nat.mul_zero, eq_self_iff_true, jg_not_lt, jg_not_le, h10, a, lc_lt, c1, c3, c2, c4]
theorem xT_10 {T : Tr} {m : jm_M} (h : xT T m) {x : Int32} : xT T (jm_sI m 22 0 0 10 x) := xT_k h (fun i j q => by rw [rd_II, if_neg (by omega)]) (fun _ _ _ => rfl)
theorem min5 {n : Nat} (h : n ≤ 5) : (if nI 5 < nI n then nI 5 else nI n) = nI n := by rw [nI_min (by omega) (by decide), Nat.min_eq_left h]
/-- a row of MEANINGS told by the class -/
def xRow (gs : List Nat) (μ : jm_M) : Prop := μ.1 22 0 0 10 = nI gs.length ∧ ∀ q, q < gs.length → μ.1 24 0 0 q = nI (gs.getD q 0)
theorem if5 {n : Nat} (h : n ≤ 5) : (if 5 < n then nI 5 else nI n) = nI n := if_neg (by omega)
theorem sx_story0 {T : Tr} {V : Vl} {m : jm_M} (h : xT T m) (hV : xH V 0 m) (hme : vlM V ≤ 12) {t : Nat} (ht : t < 4) {so sz : Nat} {f : Nat → Int64} (hT : T t = some (so, sz, f)) {gs : List Nat} (hg : gsB f (vlM V) gs) (h1 : 1 ≤ gs.length) (hs : gs.length ≤ sz) (h5 : gs.length ≤ 5) (d : Nat) : ∃ m', jm_sem false (d + 4) jn_X11_wrongStory [vX, .inl (nI t), .inl (nI gs.length)] m = some (.inl (nI 0), m') ∧ xRow gs m' ∧ fr P24 m m' := by
  have r := sx_row0 (most := 5) h ht h1 h5 (by decide) hT hs (d + 1)
  obtain ⟨m', e1, e2, e3, e4⟩ := sx_take_ok ht hT hme hg hs h5 (.inl (nI gs.length)) d gs.length 0 jm_j jm_j (jm_sI m 22 0 0 10 (nI gs.length)) (by omega) (xT_10 h) (by rw [rd_II, if_pos ⟨rfl, rfl, rfl, rfl⟩]) (fun q hq => by omega)
  have v := hV.1
  have tk : jm_sem false (d + 3) jn_X5_take [.inr (.inr (.inl (22, 0, 0))), .inr (.inr (.inl (2, t, 0))), .inl (nI gs.length), .inl (nI (vlM V))] m = some (.inl (nI 1), m') := by
    rw [← e1, e_X5_take]
    simp (disch := omega) only [jg_lit, jg_litL, jg_m1, jg_m1L, nI_add, lN_add, pk_mul, jg_sub, jg_subM, jg_addM, jg_addM', jg_negM, jt_in, jt_ix, jt_bi, jt_bl, jt_bv, jt_lt, jg_dT, jg_dF, jt_c, jt_cd, ru_I, ru_L, jg_leI, jg_ltI, jg_eqI, jg_M1, jg_M2, jg_M3, jg_M4, jg_M5, jg_M6, jg_ltT, jg_ltF, jg_leT, jg_leF, jg_eqT, jg_eqF, cond_true, cond_false, ne_eq, not_true_eq_false, not_false_eq_true, decide_true, decide_false, if_true, if_false, and_true, true_and, and_false, false_and, or_true, true_or, or_false, false_or, Nat.reduceEqDiff, reduceIte, Nat.reduceMul, Nat.reduceAdd, Nat.reduceSub, Nat.add_zero, Nat.zero_add, Nat.mul_zero, eq_self_iff_true, jg_not_lt, jg_not_le, if5]
  refine ⟨m', ?_, ⟨e2, e3⟩, (fr_I (show P24 22 0 0 10 from Or.inl ⟨rfl, rfl⟩)).tr e4⟩
  rw [e_X11_wrongStory]
  simp (disch := omega) only [jg_lit, jg_litL, jg_m1, jg_m1L, nI_add, lN_add, pk_mul, jg_sub, jg_subM, jg_addM, jg_addM', jg_negM, jt_in, jt_ix, jt_bi, jt_bl, jt_bv, jt_lt, jg_dT, jg_dF, jt_c, jt_cd, ru_I, ru_L, jg_leI, jg_ltI, jg_eqI, jg_M1, jg_M2, jg_M3, jg_M4, jg_M5, jg_M6, jg_ltT, jg_ltF, jg_leT, jg_leF, jg_eqT, jg_eqF, cond_true, cond_false, ne_eq, not_true_eq_false, not_false_eq_true, decide_true, decide_false, if_true, if_false, and_true, true_and, and_false, false_and, or_true, true_or, or_false, false_or, Nat.reduceEqDiff, reduceIte, Nat.reduceMul, Nat.reduceAdd, Nat.reduceSub, Nat.add_zero, Nat.zero_add, Nat.mul_zero, eq_self_iff_true, jg_not_lt, jg_not_le, r, v, tk, Bool.and_true]
theorem sx_story5 {T : Tr} {V : Vl} {m : jm_M} (h : xT T m) (hV : xH V 0 m) (hme : vlM V ≤ 12) {t n : Nat} (ht : t < 4) {so sz : Nat} {f : Nat → Int64} (hT : T t = some (so, sz, f)) {gs : List Nat} (hg : gsB f (vlM V) gs) (hn : gs.length < n) (hs : n ≤ sz) (h5 : n ≤ 5) (hb : f gs.length < 0 ∨ lN (vlM V) ≤ f gs.length) (d : Nat) : ∃ m', jm_sem false (d + 4) jn_X11_wrongStory [vX, .inl (nI t), .inl (nI n)] m = some (.inl (nI 5), m') ∧ fr P24 m m' := by
  have r := sx_row0 (most := 5) h ht (show 1 ≤ n by omega) h5 (by decide) hT hs (d + 1)
  obtain ⟨m', e1, e4⟩ := sx_take_no ht hT hme hg hn hs h5 hb (.inl (nI n)) d gs.length 0 jm_j jm_j (jm_sI m 22 0 0 10 (nI n)) (by omega) (xT_10 h) (by rw [rd_II, if_pos ⟨rfl, rfl, rfl, rfl⟩])
  have v := hV.1
  have tk : jm_sem false (d + 3) jn_X5_take [.inr (.inr (.inl (22, 0, 0))), .inr (.inr (.inl (2, t, 0))), .inl (nI n), .inl (nI (vlM V))] m = some (.inl (nI 0), m') := by
    rw [← e1, e_X5_take]
    simp (disch := omega) only [jg_lit, jg_litL, jg_m1, jg_m1L, nI_add, lN_add, pk_mul, jg_sub, jg_subM, jg_addM, jg_addM', jg_negM, jt_in, jt_ix, jt_bi, jt_bl, jt_bv, jt_lt, jg_dT, jg_dF, jt_c, jt_cd, ru_I, ru_L, jg_leI, jg_ltI, jg_eqI, jg_M1, jg_M2, jg_M3, jg_M4, jg_M5, jg_M6, jg_ltT, jg_ltF, jg_leT, jg_leF, jg_eqT, jg_eqF, cond_true, cond_false, ne_eq, not_true_eq_false, not_false_eq_true, decide_true, decide_false, if_true, if_false, and_true, true_and, and_false, false_and, or_true, true_or, or_false, false_or, Nat.reduceEqDiff, reduceIte, Nat.reduceMul, Nat.reduceAdd, Nat.reduceSub, Nat.add_zero, Nat.zero_add, Nat.mul_zero, eq_self_iff_true, jg_not_lt, jg_not_le, if5]
  refine ⟨m', ?_, (fr_I (show P24 22 0 0 10 from Or.inl ⟨rfl, rfl⟩)).tr e4⟩
  rw [e_X11_wrongStory]
  simp (disch := omega) only [jg_lit, jg_litL, jg_m1, jg_m1L, nI_add, lN_add, pk_mul, jg_sub, jg_subM, jg_addM, jg_addM', jg_negM, jt_in, jt_ix, jt_bi, jt_bl, jt_bv, jt_lt, jg_dT, jg_dF, jt_c, jt_cd, ru_I, ru_L, jg_leI, jg_ltI, jg_eqI, jg_M1, jg_M2, jg_M3, jg_M4, jg_M5, jg_M6, jg_ltT, jg_ltF, jg_leT, jg_leF, jg_eqT, jg_eqF, cond_true, cond_false, ne_eq, not_true_eq_false, not_false_eq_true, decide_true, decide_false, if_true, if_false, and_true, true_and, and_false, false_and, or_true, true_or, or_false, false_or, Nat.reduceEqDiff, reduceIte, Nat.reduceMul, Nat.reduceAdd, Nat.reduceSub, Nat.add_zero, Nat.zero_add, Nat.mul_zero, eq_self_iff_true, jg_not_lt, jg_not_le, r, v, tk, Bool.and_true]
theorem sx_storyN {m : jm_M} {x y : Int32} {w : Nat} (hw : 1 ≤ w) (hw2 : w < 10) (d : Nat) (r : jm_sem false (d + 1) jn_X11_wrongRow [vX, .inl x, .inl y, .inl (nI 5)] m = some (.inl (nI w), m)) : jm_sem false (d + 2) jn_X11_wrongStory [vX, .inl x, .inl y] m = some (.inl (nI w), m) := by
  rw [e_X11_wrongStory]
  simp (disch := omega) only [jg_lit, jg_litL, jg_m1, jg_m1L, nI_add, lN_add, pk_mul, jg_sub, jg_subM, jg_addM, jg_addM', jg_negM, jt_in, jt_ix, jt_bi, jt_bl, jt_bv, jt_lt, jg_dT, jg_dF, jt_c, jt_cd, ru_I, ru_L, jg_leI, jg_ltI, jg_eqI, jg_M1, jg_M2, jg_M3, jg_M4, jg_M5, jg_M6, jg_ltT, jg_ltF, jg_leT, jg_leF, jg_eqT, jg_eqF, cond_true, cond_false, ne_eq, not_true_eq_false, not_false_eq_true, decide_true, decide_false, if_true, if_false, and_true, true_and, and_false, false_and, or_true, true_or, or_false, false_or, Nat.reduceEqDiff, reduceIte, Nat.reduceMul, Nat.reduceAdd, Nat.reduceSub, Nat.add_zero, Nat.zero_add, Nat.mul_zero, eq_self_iff_true, jg_not_lt, jg_not_le, r]
/-! ===== the reference ===== -/
theorem sm_from {mean : Nat} (hme : mean ≤ 12) (y : Int64) (d : Nat) (m : jm_M) : jm_sem false (d + 1) jn_X12_isFrom [.inr (.inl y), .inr (.inl (lN 0)), .inr (.inl ((nI mean - nI 1).toInt64))] m = some (.inl (if y < 0 ∨ lN mean ≤ y then nI 0 else nI 1), m) := by
  rw [sm_isFrom]
  have e : (y < lN 0 ∨ (nI mean - nI 1).toInt64 < y) ↔ (y < 0 ∨ lN mean ≤ y) := by
    have h0 : y < lN 0 ↔ y < 0 := Iff.rfl
    rw [h0, Int64.lt_iff_toInt_lt (x := (nI mean - nI 1).toInt64), Int64.le_iff_toInt_le, lN_toInt (show mean < 2 ^ 31 by omega), Int32.toInt_toInt64]
    have : (nI mean - nI 1).toInt = (mean : Int) - 1 := by
      by_cases c : mean = 0
      · subst c; rfl
      · rw [jg_sub (by omega), nI_toInt (by omega)]; omega
    rw [this]
    exact ⟨fun z => z.imp id (fun z => by omega), fun z => z.imp id (fun z => by omega)⟩
  by_cases c : y < 0 ∨ lN mean ≤ y
  · rw [if_pos c, if_pos (e.mpr c)]
  · rw [if_neg c, if_neg (fun z => c (e.mp z))]
theorem sm_story_loop {T : Tr} {V : Vl} {m : jm_M} (h : mT T m) (hV : mV V 0 m) (hme : vlM V ≤ 12) {t n : Nat} (ht : t < 4) {so sz : Nat} {f : Nat → Int64} (hT : T t = some (so, sz, f)) {gs : List Nat} (hg : gsB f (vlM V) gs) (hn : gs.length ≤ n) (hs : n ≤ sz) (h5 : n ≤ 5) (d : Nat) : ∀ (r k : Nat), k + r = gs.length → jm_ev false (d + 1) 11 1 jc_X12_wrongStory 47 [vM, .inl (nI t), .inl (nI n), .inl (nI k)] [] m = jm_ev false (d + 1) 11 1 jc_X12_wrongStory 47 [vM, .inl (nI t), .inl (nI n), .inl (nI gs.length)] [] m
  | 0, k, hr => by
    have e : k = gs.length := by omega
    rw [e]
  | r + 1, k, hr => by
    obtain ⟨g1, g2⟩ := hg k (by omega)
    have q := h t ht
    rw [hT] at q
    have q5 := q.2.2.2.2 k (by omega)
    rw [g2] at q5
    have v : m.1 41 0 0 0 = nI (vlM V) := hV.1
    have fr0 := sm_from hme (lN (gs.getD k 0)) d m
    rw [if_neg (fun z => by
      rcases z with z | z
      · have z : lN (gs.getD k 0) < lN 0 := z
        rw [lN_ltI (by omega) (by omega)] at z; omega
      · rw [lN_leI (by omega) (by omega)] at z; omega)] at fr0
    rw [← sm_story_loop h hV hme ht hT hg hn hs h5 d r (k + 1) (by omega)]
    refine (l_X12_wrongStory_47 _ _ _ _ _).trans ?_
    by_cases z : vlM V = 0
    · omega
    · rw [jg_sub (by omega)] at fr0
      simp (disch := omega) only [jg_lit, jg_litL, jg_m1, jg_m1L, nI_add, lN_add, pk_mul, jg_sub, jg_subM, jg_addM, jg_addM', jg_negM, jt_in, jt_ix, jt_bi, jt_bl, jt_bv, jt_lt, jg_dT, jg_dF, jt_c, jt_cd, ru_I, ru_L, jg_leI, jg_ltI, jg_eqI, jg_M1, jg_M2, jg_M3, jg_M4, jg_M5, jg_M6, jg_ltT, jg_ltF, jg_leT, jg_leF, jg_eqT, jg_eqF, cond_true, cond_false, ne_eq, not_true_eq_false, not_false_eq_true, decide_true, decide_false, if_true, if_false, and_true, true_and, and_false, false_and, or_true, true_or, or_false, false_or, Nat.reduceEqDiff, reduceIte, Nat.reduceMul, Nat.reduceAdd, Nat.reduceSub, Nat.add_zero, Nat.zero_add, Nat.mul_zero, eq_self_iff_true, jg_not_lt, jg_not_le, q5, v, fr0]
theorem sm_story0 {T : Tr} {V : Vl} {m : jm_M} (h : mT T m) (hV : mV V 0 m) (hme : vlM V ≤ 12) {t : Nat} (ht : t < 4) {so sz : Nat} {f : Nat → Int64} (hT : T t = some (so, sz, f)) {gs : List Nat} (hg : gsB f (vlM V) gs) (h1 : 1 ≤ gs.length) (hs : gs.length ≤ sz) (h5 : gs.length ≤ 5) (d : Nat) : jm_sem false (d + 2) jn_X12_wrongStory [vM, .inl (nI t), .inl (nI gs.length)] m = some (.inl (nI 0), m) := by
  have q := h t ht
  rw [hT] at q
  have q2 := q.2.1
  have q4 := q.2.2.2.1
  have i := sm_isTrayT ht d m
  have f1 := sm_isFromI (lo := 1) (hi := 5) (by decide) (by decide) d (nI gs.length) m
  rw [if_neg (fun z => by
    rcases z with z | z
    · exact nI_nlt h1 (by omega) z
    · exact nI_nlt h5 (by omega) z)] at f1
  have lp := sm_story_loop h hV hme ht hT hg (Nat.le_refl _) hs h5 d gs.length 0 (by omega)
  have la : jm_ev false (d + 1) 11 1 jc_X12_wrongStory 47 [vM, .inl (nI t), .inl (nI gs.length), .inl (nI gs.length)] [] m = some (.inl (nI 0), m) := by
    rw [l_X12_wrongStory_47]
    simp (disch := omega) only [jg_lit, jg_litL, jg_m1, jg_m1L, nI_add, lN_add, pk_mul, jg_sub, jg_subM, jg_addM, jg_addM', jg_negM, jt_in, jt_ix, jt_bi, jt_bl, jt_bv, jt_lt, jg_dT, jg_dF, jt_c, jt_cd, ru_I, ru_L, jg_leI, jg_ltI, jg_eqI, jg_M1, jg_M2, jg_M3, jg_M4, jg_M5, jg_M6, jg_ltT, jg_ltF, jg_leT, jg_leF, jg_eqT, jg_eqF, cond_true, cond_false, ne_eq, not_true_eq_false, not_false_eq_true, decide_true, decide_false, if_true, if_false, and_true, true_and, and_false, false_and, or_true, true_or, or_false, false_or, Nat.reduceEqDiff, reduceIte, Nat.reduceMul, Nat.reduceAdd, Nat.reduceSub, Nat.add_zero, Nat.zero_add, Nat.mul_zero, eq_self_iff_true, jg_not_lt, jg_not_le]
  rw [la] at lp
  rw [e_X12_wrongStory]
  simp (disch := omega) only [jg_lit, jg_litL, jg_m1, jg_m1L, nI_add, lN_add, pk_mul, jg_sub, jg_subM, jg_addM, jg_addM', jg_negM, jt_in, jt_ix, jt_bi, jt_bl, jt_bv, jt_lt, jg_dT, jg_dF, jt_c, jt_cd, ru_I, ru_L, jg_leI, jg_ltI, jg_eqI, jg_M1, jg_M2, jg_M3, jg_M4, jg_M5, jg_M6, jg_ltT, jg_ltF, jg_leT, jg_leF, jg_eqT, jg_eqF, cond_true, cond_false, ne_eq, not_true_eq_false, not_false_eq_true, decide_true, decide_false, if_true, if_false, and_true, true_and, and_false, false_and, or_true, true_or, or_false, false_or, Nat.reduceEqDiff, reduceIte, Nat.reduceMul, Nat.reduceAdd, Nat.reduceSub, Nat.add_zero, Nat.zero_add, Nat.mul_zero, eq_self_iff_true, jg_not_lt, jg_not_le, i, f1, q4, lp]
theorem sm_story5 {T : Tr} {V : Vl} {m : jm_M} (h : mT T m) (hV : mV V 0 m) (hme : vlM V ≤ 12) {t n : Nat} (ht : t < 4) {so sz : Nat} {f : Nat → Int64} (hT : T t = some (so, sz, f)) {gs : List Nat} (hg : gsB f (vlM V) gs) (hn : gs.length < n) (hs : n ≤ sz) (h5 : n ≤ 5) (hb : f gs.length < 0 ∨ lN (vlM V) ≤ f gs.length) (d : Nat) : jm_sem false (d + 2) jn_X12_wrongStory [vM, .inl (nI t), .inl (nI n)] m = some (.inl (nI 5), m) := by
  have q := h t ht
  rw [hT] at q
  have q2 := q.2.1
  have q4 := q.2.2.2.1
  have q5 := q.2.2.2.2 gs.length (by omega)
  have i := sm_isTrayT ht d m
  have v : m.1 41 0 0 0 = nI (vlM V) := hV.1
  have f1 := sm_isFromI (lo := 1) (hi := 5) (by decide) (by decide) d (nI n) m
  rw [if_neg (fun z => by
    rcases z with z | z
    · exact nI_nlt (show 1 ≤ n by omega) (by omega) z
    · exact nI_nlt h5 (by omega) z)] at f1
  have fr0 := sm_from hme (f gs.length) d m
  rw [if_pos hb] at fr0
  have lp := sm_story_loop h hV hme ht hT hg (by omega) hs h5 d gs.length 0 (by omega)
  have la : jm_ev false (d + 1) 11 1 jc_X12_wrongStory 47 [vM, .inl (nI t), .inl (nI n), .inl (nI gs.length)] [] m = some (.inl (nI 5), m) := by
    rw [l_X12_wrongStory_47]
    by_cases z : vlM V = 0
    · rw [z] at fr0 v
      simp (disch := omega) only [jg_lit, jg_litL, jg_m1, jg_m1L, nI_add, lN_add, pk_mul, jg_sub, jg_subM, jg_addM, jg_addM', jg_negM, jt_in, jt_ix, jt_bi, jt_bl, jt_bv, jt_lt, jg_dT, jg_dF, jt_c, jt_cd, ru_I, ru_L, jg_leI, jg_ltI, jg_eqI, jg_M1, jg_M2, jg_M3, jg_M4, jg_M5, jg_M6, jg_ltT, jg_ltF, jg_leT, jg_leF, jg_eqT, jg_eqF, cond_true, cond_false, ne_eq, not_true_eq_false, not_false_eq_true, decide_true, decide_false, if_true, if_false, and_true, true_and, and_false, false_and, or_true, true_or, or_false, false_or, Nat.reduceEqDiff, reduceIte, Nat.reduceMul, Nat.reduceAdd, Nat.reduceSub, Nat.add_zero, Nat.zero_add, Nat.mul_zero, eq_self_iff_true, jg_not_lt, jg_not_le, q5, v]
      rw [show nI 0 - nI 1 = jM from rfl] at fr0
      simp (disch := omega) only [jg_lit, jg_litL, jg_m1, jg_m1L, nI_add, lN_add, pk_mul, jg_sub, jg_subM, jg_addM, jg_addM', jg_negM, jt_in, jt_ix, jt_bi, jt_bl, jt_bv, jt_lt, jg_dT, jg_dF, jt_c, jt_cd, ru_I, ru_L, jg_leI, jg_ltI, jg_eqI, jg_M1, jg_M2, jg_M3, jg_M4, jg_M5, jg_M6, jg_ltT, jg_ltF, jg_leT, jg_leF, jg_eqT, jg_eqF, cond_true, cond_false, ne_eq, not_true_eq_false, not_false_eq_true, decide_true, decide_false, if_true, if_false, and_true, true_and, and_false, false_and, or_true, true_or, or_false, false_or, Nat.reduceEqDiff, reduceIte, Nat.reduceMul, Nat.reduceAdd, Nat.reduceSub, Nat.add_zero, Nat.zero_add, Nat.mul_zero, eq_self_iff_true, jg_not_lt, jg_not_le, fr0]
    · rw [jg_sub (by omega)] at fr0
      simp (disch := omega) only [jg_lit, jg_litL, jg_m1, jg_m1L, nI_add, lN_add, pk_mul, jg_sub, jg_subM, jg_addM, jg_addM', jg_negM, jt_in, jt_ix, jt_bi, jt_bl, jt_bv, jt_lt, jg_dT, jg_dF, jt_c, jt_cd, ru_I, ru_L, jg_leI, jg_ltI, jg_eqI, jg_M1, jg_M2, jg_M3, jg_M4, jg_M5, jg_M6, jg_ltT, jg_ltF, jg_leT, jg_leF, jg_eqT, jg_eqF, cond_true, cond_false, ne_eq, not_true_eq_false, not_false_eq_true, decide_true, decide_false, if_true, if_false, and_true, true_and, and_false, false_and, or_true, true_or, or_false, false_or, Nat.reduceEqDiff, reduceIte, Nat.reduceMul, Nat.reduceAdd, Nat.reduceSub, Nat.add_zero, Nat.zero_add, Nat.mul_zero, eq_self_iff_true, jg_not_lt, jg_not_le, q5, v, fr0]
  rw [la] at lp
  rw [e_X12_wrongStory]
  simp (disch := omega) only [jg_lit, jg_litL, jg_m1, jg_m1L, nI_add, lN_add, pk_mul, jg_sub, jg_subM, jg_addM, jg_addM', jg_negM, jt_in, jt_ix, jt_bi, jt_bl, jt_bv, jt_lt, jg_dT, jg_dF, jt_c, jt_cd, ru_I, ru_L, jg_leI, jg_ltI, jg_eqI, jg_M1, jg_M2, jg_M3, jg_M4, jg_M5, jg_M6, jg_ltT, jg_ltF, jg_leT, jg_leF, jg_eqT, jg_eqF, cond_true, cond_false, ne_eq, not_true_eq_false, not_false_eq_true, decide_true, decide_false, if_true, if_false, and_true, true_and, and_false, false_and, or_true, true_or, or_false, false_or, Nat.reduceEqDiff, reduceIte, Nat.reduceMul, Nat.reduceAdd, Nat.reduceSub, Nat.add_zero, Nat.zero_add, Nat.mul_zero, eq_self_iff_true, jg_not_lt, jg_not_le, i, f1, q4, lp]
theorem sm_story1 {x y : Int32} (h : (x < 0 ∨ 4 ≤ x) ∨ (y < 1 ∨ nI 5 < y)) (d : Nat) (m : jm_M) : jm_sem false (d + 2) jn_X12_wrongStory [vM, .inl x, .inl y] m = some (.inl (nI 1), m) := by
  rw [e_X12_wrongStory]
  rcases in_cases x (show 4 < 2 ^ 31 by decide) with hx | ⟨t, ht, rfl⟩
  · have i := sm_isTrayF hx d m
    simp (disch := omega) only [jg_lit, jg_litL, jg_m1, jg_m1L, nI_add, lN_add, pk_mul, jg_sub, jg_subM, jg_addM, jg_addM', jg_negM, jt_in, jt_ix, jt_bi, jt_bl, jt_bv, jt_lt, jg_dT, jg_dF, jt_c, jt_cd, ru_I, ru_L, jg_leI, jg_ltI, jg_eqI, jg_M1, jg_M2, jg_M3, jg_M4, jg_M5, jg_M6, jg_ltT, jg_ltF, jg_leT, jg_leF, jg_eqT, jg_eqF, cond_true, cond_false, ne_eq, not_true_eq_false, not_false_eq_true, decide_true, decide_false, if_true, if_false, and_true, true_and, and_false, false_and, or_true, true_or, or_false, false_or, Nat.reduceEqDiff, reduceIte, Nat.reduceMul, Nat.reduceAdd, Nat.reduceSub, Nat.add_zero, Nat.zero_add, Nat.mul_zero, eq_self_iff_true, jg_not_lt, jg_not_le, i]
  · have i := sm_isTrayT ht d m
    have hy := h.resolve_left (tr_in ht)
    have f1 := sm_isFromI (lo := 1) (hi := 5) (by decide) (by decide) d y m
    rw [if_pos (show y < nI 1 ∨ nI 5 < y from hy)] at f1
    simp (disch := omega) only [jg_lit, jg_litL, jg_m1, jg_m1L, nI_add, lN_add, pk_mul, jg_sub, jg_subM, jg_addM, jg_addM', jg_negM, jt_in, jt_ix, jt_bi, jt_bl, jt_bv, jt_lt, jg_dT, jg_dF, jt_c, jt_cd, ru_I, ru_L, jg_leI, jg_ltI, jg_eqI, jg_M1, jg_M2, jg_M3, jg_M4, jg_M5, jg_M6, jg_ltT, jg_ltF, jg_leT, jg_leF, jg_eqT, jg_eqF, cond_true, cond_false, ne_eq, not_true_eq_false, not_false_eq_true, decide_true, decide_false, if_true, if_false, and_true, true_and, and_false, false_and, or_true, true_or, or_false, false_or, Nat.reduceEqDiff, reduceIte, Nat.reduceMul, Nat.reduceAdd, Nat.reduceSub, Nat.add_zero, Nat.zero_add, Nat.mul_zero, eq_self_iff_true, jg_not_lt, jg_not_le, i, f1]
theorem sm_story23 {T : Tr} {m : jm_M} (h : mT T m) {t n : Nat} (ht : t < 4) (h1 : 1 ≤ n) (h5 : n ≤ 5) (d : Nat) : (T t = none → jm_sem false (d + 2) jn_X12_wrongStory [vM, .inl (nI t), .inl (nI n)] m = some (.inl (nI 2), m)) ∧ ∀ so sz f, T t = some (so, sz, f) → sz < n → jm_sem false (d + 2) jn_X12_wrongStory [vM, .inl (nI t), .inl (nI n)] m = some (.inl (nI 3), m) := by
  have i := sm_isTrayT ht d m
  have f1 := sm_isFromI (lo := 1) (hi := 5) (by decide) (by decide) d (nI n) m
  rw [if_neg (fun z => by
    rcases z with z | z
    · exact nI_nlt h1 (by omega) z
    · exact nI_nlt h5 (by omega) z)] at f1
  constructor
  · intro hT
    have q := h t ht
    rw [hT] at q
    have q : m.1 44 0 0 t = jM := q
    rw [e_X12_wrongStory]
    simp (disch := omega) only [jg_lit, jg_litL, jg_m1, jg_m1L, nI_add, lN_add, pk_mul, jg_sub, jg_subM, jg_addM, jg_addM', jg_negM, jt_in, jt_ix, jt_bi, jt_bl, jt_bv, jt_lt, jg_dT, jg_dF, jt_c, jt_cd, ru_I, ru_L, jg_leI, jg_ltI, jg_eqI, jg_M1, jg_M2, jg_M3, jg_M4, jg_M5, jg_M6, jg_ltT, jg_ltF, jg_leT, jg_leF, jg_eqT, jg_eqF, cond_true, cond_false, ne_eq, not_true_eq_false, not_false_eq_true, decide_true, decide_false, if_true, if_false, and_true, true_and, and_false, false_and, or_true, true_or, or_false, false_or, Nat.reduceEqDiff, reduceIte, Nat.reduceMul, Nat.reduceAdd, Nat.reduceSub, Nat.add_zero, Nat.zero_add, Nat.mul_zero, eq_self_iff_true, jg_not_lt, jg_not_le, i, f1, q]
  · intro so sz f hT hs
    have q := h t ht
    rw [hT] at q
    have q2 := q.2.1
    have q4 := q.2.2.2.1
    rw [e_X12_wrongStory]
    simp (disch := omega) only [jg_lit, jg_litL, jg_m1, jg_m1L, nI_add, lN_add, pk_mul, jg_sub, jg_subM, jg_addM, jg_addM', jg_negM, jt_in, jt_ix, jt_bi, jt_bl, jt_bv, jt_lt, jg_dT, jg_dF, jt_c, jt_cd, ru_I, ru_L, jg_leI, jg_ltI, jg_eqI, jg_M1, jg_M2, jg_M3, jg_M4, jg_M5, jg_M6, jg_ltT, jg_ltF, jg_leT, jg_leF, jg_eqT, jg_eqF, cond_true, cond_false, ne_eq, not_true_eq_false, not_false_eq_true, decide_true, decide_false, if_true, if_false, and_true, true_and, and_false, false_and, or_true, true_or, or_false, false_or, Nat.reduceEqDiff, reduceIte, Nat.reduceMul, Nat.reduceAdd, Nat.reduceSub, Nat.add_zero, Nat.zero_add, Nat.mul_zero, eq_self_iff_true, jg_not_lt, jg_not_le, i, f1, q4]
