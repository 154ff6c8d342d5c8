/-! ===== readings (reference) ===== -/
def rP (s : Option Nat) : Int32 := match s with
  | none => jM
  | some a => nI a + jM
def P57 (K _i _j k : Nat) : Prop := (K = 40 ∧ k = 26) ∨ K = 49 ∨ K = 50 ∨ K = 51 ∨ K = 57
theorem sm_127 {f : Nat → Int64} {w : Nat} (hw : w < 12) (z1 z2 : Int32) (d : Nat) : ∀ (r k : Nat) (m : jm_M), k + r = 40 → (∀ q, q < 40 → m.2 51 0 0 q = f q) → (∀ q, q < k → m.2 57 0 0 (40 * w + q) = f q) → ∃ m' y, jm_ev false d 11 1 jc_X12_readings 127 [vM, .inl z1, .inl z2, .inl (nI w), .inl (nI k)] [] m = jm_ev false d 11 1 jc_X12_readings 94 [vM, .inl z1, .inl z2, .inl (nI (w + 1)), y] [] m' ∧ (∀ q, q < 40 → m'.2 57 0 0 (40 * w + q) = f q) ∧ fr (fun K _ _ k => K = 57 ∧ 40 * w ≤ k ∧ k < 40 * w + 40) m m'
  | 0, k, m, hr, h1, h2 => by
    refine ⟨m, .inl (nI k), ?_, fun q hq => h2 q (by omega), .rf⟩
    refine (l_X12_readings_127 _ _ _ _ _ _).trans ?_
    simp (disch := omega) only [jg_lit, jg_litL, jg_m1, jg_m1L, nI_add, lN_add, pk_mul, jg_sub, jg_subM, jg_addM, jg_addM', jg_negM, jt_in, jt_ix, jt_bi, jt_bl, jt_bv, jt_lt, jg_dT, jg_dF, jt_c, jt_cd, ru_I, ru_L, jg_leI, jg_ltI, jg_eqI, jg_M1, jg_M2, jg_M3, jg_M4, jg_M5, jg_M6, jg_ltT, jg_ltF, jg_leT, jg_leF, jg_eqT, jg_eqF, cond_true, cond_false, ne_eq, not_true_eq_false, not_false_eq_true, decide_true, decide_false, if_true, if_false, and_true, true_and, and_false, false_and, or_true, true_or, or_false, false_or, Nat.reduceEqDiff, reduceIte, Nat.reduceMul, Nat.reduceAdd, Nat.reduceSub, Nat.add_zero, Nat.zero_add, Nat.mul_zero, eq_self_iff_true, jg_not_lt, jg_not_le]
  | r + 1, k, m, hr, h1, h2 => by
    have h51 := h1 k (by omega)
    obtain ⟨m', y, e1, e2, e3⟩ := sm_127 (f := f) hw z1 z2 d r (k + 1) (jm_sL m 57 0 0 (40 * w + k) (f k)) (by omega) (fun q hq => by rw [rd_LL, if_neg (by omega)]; exact h1 q hq) (fun q hq => by
      rw [rd_LL]
      by_cases e : q = k
      · rw [if_pos ⟨rfl, rfl, rfl, by omega⟩, e]
      · rw [if_neg (by omega)]; exact h2 q (by omega))
    refine ⟨m', y, ?_, e2, (fr_L (by omega)).tr e3⟩
    rw [← e1]
    refine (l_X12_readings_127 _ _ _ _ _ _).trans ?_
    simp (disch := omega) only [jg_lit, jg_litL, jg_m1, jg_m1L, nI_add, lN_add, pk_mul, jg_sub, jg_subM, jg_addM, jg_addM', jg_negM, jt_in, jt_ix, jt_bi, jt_bl, jt_bv, jt_lt, jg_dT, jg_dF, jt_c, jt_cd, ru_I, ru_L, jg_leI, jg_ltI, jg_eqI, jg_M1, jg_M2, jg_M3, jg_M4, jg_M5, jg_M6, jg_ltT, jg_ltF, jg_leT, jg_leF, jg_eqT, jg_eqF, cond_true, cond_false, ne_eq, not_true_eq_false, not_false_eq_true, decide_true, decide_false, if_true, if_false, and_true, true_and, and_false, false_and, or_true, true_or, or_false, false_or, Nat.reduceEqDiff, reduceIte, Nat.reduceMul, Nat.reduceAdd, Nat.reduceSub, Nat.add_zero, Nat.zero_add, Nat.mul_zero, eq_self_iff_true, jg_not_lt, jg_not_le, h51]
theorem sm_94 {V : Vl} (ho : okV V) (z1 z2 : Int32) (d : Nat) : ∀ (r w : Nat) (z4 : jm_V) (m : jm_M), w + r = (vlW V).length → mF V m → (∀ v, v < w → ∀ q, q < 40 → m.2 57 0 0 (40 * v + q) = chF V v q) → ∃ m', jm_ev false (d + 6) 11 1 jc_X12_readings 94 [vM, .inl z1, .inl z2, .inl (nI w), z4] [] m = jm_ev false (d + 6) 11 1 jc_X12_readings 177 [vM, .inl z1, .inl z2, .inl (nI 0), .inl (nI 0)] [] (jm_sI m' 58 0 0 0 jM) ∧ mF V m' ∧ (∀ v, v < (vlW V).length → ∀ q, q < 40 → m'.2 57 0 0 (40 * v + q) = chF V v q) ∧ fr P57 m m'
  | 0, w, z4, m, hr, hF, h7 => by
    have h12 := ho.2.2.2.1.1
    have h1 : m.1 41 0 0 1 = nI (vlW V).length := hF.1.2.1
    refine ⟨m, ?_, hF, fun v hv => h7 v (by omega), .rf⟩
    refine (l_X12_readings_94 _ _ _ _ _ _).trans ?_
    simp (disch := omega) only [jg_lit, jg_litL, jg_m1, jg_m1L, nI_add, lN_add, pk_mul, jg_sub, jg_subM, jg_addM, jg_addM', jg_negM, jt_in, jt_ix, jt_bi, jt_bl, jt_bv, jt_lt, jg_dT, jg_dF, jt_c, jt_cd, ru_I, ru_L, jg_leI, jg_ltI, jg_eqI, jg_M1, jg_M2, jg_M3, jg_M4, jg_M5, jg_M6, jg_ltT, jg_ltF, jg_leT, jg_leF, jg_eqT, jg_eqF, cond_true, cond_false, ne_eq, not_true_eq_false, not_false_eq_true, decide_true, decide_false, if_true, if_false, and_true, true_and, and_false, false_and, or_true, true_or, or_false, false_or, Nat.reduceEqDiff, reduceIte, Nat.reduceMul, Nat.reduceAdd, Nat.reduceSub, Nat.add_zero, Nat.zero_add, Nat.mul_zero, eq_self_iff_true, jg_not_lt, jg_not_le, h1]
  | r + 1, w, z4, m, hr, hF, h7 => by
    have h12 := ho.2.2.2.1.1
    have h1 : m.1 41 0 0 1 = nI (vlW V).length := hF.1.2.1
    have hw : w < (vlW V).length := by omega
    have ok0 := okW2_w0 (ho.2.2.2.1.2.1 w hw)
    have ro := sm_rowOf (d + 5) 0 w m
    obtain ⟨m1, a1, a2, a3⟩ := sm_loads (hF.1.2.2.2.2 w hw).2.2.2.2.2.2.2 (by omega) (d + 5)
    have F1 : mF V m1 := mF_k hF ho (fun k _ => PMh_41 a3 k) (fun k _ => (a3 42 k (by unfold PM_h; omega) 0 0).2)
    obtain ⟨m2, b1, b2, b3⟩ := sm_chains ho ok0 (day := 0) (by decide) (m := m1) a2 F1.2.2.1 F1.2.2.2 d
    have b1 : jm_sem false (d + 6) jn_X12_chains [vM, .inl (bI (shB 0)), .inl 0, .inl (nI 0), .inl (nI 0 - lat (-1))] m1 = some (jm_j, m2) := b1
    rw [shB_0, day_m1] at b1
    have b1 : jm_sem false (d + 6) jn_X12_chains [vM, .inl (nI 0), .inl (nI 0), .inl (nI 0), .inl (nI 0)] m1 = some (jm_j, m2) := b1
    have F2 : mF V m2 := mF_k F1 ho (fun k _ => PCh_41 b3 k) (fun k _ => (b3 42 k (by unfold PCh; omega) 0 0).2)
    obtain ⟨m3, y, c1, c2, c3⟩ := sm_127 (f := chF V w) (show w < 12 by omega) z1 z2 (d + 6) 40 0 m2 rfl (fun q hq => b2 q (by omega)) (fun q hq => by omega)
    have F3 : mF V m3 := mF_fr F2 ho c3 (fun k _ => by omega) (fun k _ => by omega)
    obtain ⟨m', e1, e2, e3, e4⟩ := sm_94 ho z1 z2 d r (w + 1) y m3 (by omega) F3 (fun v hv q hq => by
      by_cases e : v = w
      · subst e; exact c2 q hq
      · rw [(c3 57 0 0 (40 * v + q) (by omega)).2, (b3 57 _ (by unfold PCh; omega) 0 0).2, (a3 57 _ (by unfold PM_h; omega) 0 0).2]; exact h7 v (by omega) q hq)
    refine ⟨m', ?_, e2, e3, ((fr_jk a3 (fun K i j k z => by unfold PM_h at z; unfold P57; omega)).tr (fr_jk b3 (fun K i j k z => by unfold PCh at z; unfold P57; omega))).tr ((c3.wk (fun K i j k z => by unfold P57; omega)).tr e4)⟩
    rw [← e1, ← c1]
    refine (l_X12_readings_94 _ _ _ _ _ _).trans ?_
    simp (disch := omega) only [jg_lit, jg_litL, jg_m1, jg_m1L, nI_add, lN_add, pk_mul, jg_sub, jg_subM, jg_addM, jg_addM', jg_negM, jt_in, jt_ix, jt_bi, jt_bl, jt_bv, jt_lt, jg_dT, jg_dF, jt_c, jt_cd, ru_I, ru_L, jg_leI, jg_ltI, jg_eqI, jg_M1, jg_M2, jg_M3, jg_M4, jg_M5, jg_M6, jg_ltT, jg_ltF, jg_leT, jg_leF, jg_eqT, jg_eqF, cond_true, cond_false, ne_eq, not_true_eq_false, not_false_eq_true, decide_true, decide_false, if_true, if_false, and_true, true_and, and_false, false_and, or_true, true_or, or_false, false_or, Nat.reduceEqDiff, reduceIte, Nat.reduceMul, Nat.reduceAdd, Nat.reduceSub, Nat.add_zero, Nat.zero_add, Nat.mul_zero, eq_self_iff_true, jg_not_lt, jg_not_le, h1, ro, a1, b1]
theorem sm_finds {f : Nat → Int64} {w : Nat} (hw : w < 12) {m : jm_M} (h : ∀ q, q < 40 → m.2 57 0 0 (40 * w + q) = f q) (x : Int64) (z2 : jm_V) (d : Nat) : ∀ (r k : Nat), k + r = 40 → jm_ev false d 11 1 jc_X12_findsOn 3 [vM, .inl (nI w), z2, .inr (.inl x), jm_j, .inl (nI k)] [] m = some (.inl (jpl (fd f x r k)), m)
  | 0, k, hr => by
    rw [l_X12_findsOn_3]
    simp (disch := omega) only [jg_lit, jg_litL, jg_m1, jg_m1L, nI_add, lN_add, pk_mul, jg_sub, jg_subM, jg_addM, jg_addM', jg_negM, jt_in, jt_ix, jt_bi, jt_bl, jt_bv, jt_lt, jg_dT, jg_dF, jt_c, jt_cd, ru_I, ru_L, jg_leI, jg_ltI, jg_eqI, jg_M1, jg_M2, jg_M3, jg_M4, jg_M5, jg_M6, jg_ltT, jg_ltF, jg_leT, jg_leF, jg_eqT, jg_eqF, cond_true, cond_false, ne_eq, not_true_eq_false, not_false_eq_true, decide_true, decide_false, if_true, if_false, and_true, true_and, and_false, false_and, or_true, true_or, or_false, false_or, Nat.reduceEqDiff, reduceIte, Nat.reduceMul, Nat.reduceAdd, Nat.reduceSub, Nat.add_zero, Nat.zero_add, Nat.mul_zero, eq_self_iff_true, jg_not_lt, jg_not_le]
    rfl
  | r + 1, k, hr => by
    have h57 := h k (by omega)
    rw [l_X12_findsOn_3]
    unfold fd
    by_cases c : f k = x
    · have c' : (f k = x) = True := eq_true c
      rw [if_pos c]
      simp (disch := omega) only [jg_lit, jg_litL, jg_m1, jg_m1L, nI_add, lN_add, pk_mul, jg_sub, jg_subM, jg_addM, jg_addM', jg_negM, jt_in, jt_ix, jt_bi, jt_bl, jt_bv, jt_lt, jg_dT, jg_dF, jt_c, jt_cd, ru_I, ru_L, jg_leI, jg_ltI, jg_eqI, jg_M1, jg_M2, jg_M3, jg_M4, jg_M5, jg_M6, jg_ltT, jg_ltF, jg_leT, jg_leF, jg_eqT, jg_eqF, cond_true, cond_false, ne_eq, not_true_eq_false, not_false_eq_true, decide_true, decide_false, if_true, if_false, and_true, true_and, and_false, false_and, or_true, true_or, or_false, false_or, Nat.reduceEqDiff, reduceIte, Nat.reduceMul, Nat.reduceAdd, Nat.reduceSub, Nat.add_zero, Nat.zero_add, Nat.mul_zero, eq_self_iff_true, jg_not_lt, jg_not_le, h57, lc_eq, c']
      rfl
    · have c' : (f k = x) = False := eq_false c
      rw [if_neg c]
      simp (disch := omega) only [jg_lit, jg_litL, jg_m1, jg_m1L, nI_add, lN_add, pk_mul, jg_sub, jg_subM, jg_addM, jg_addM', jg_negM, jt_in, jt_ix, jt_bi, jt_bl, jt_bv, jt_lt, jg_dT, jg_dF, jt_c, jt_cd, ru_I, ru_L, jg_leI, jg_ltI, jg_eqI, jg_M1, jg_M2, jg_M3, jg_M4, jg_M5, jg_M6, jg_ltT, jg_ltF, jg_leT, jg_leF, jg_eqT, jg_eqF, cond_true, cond_false, ne_eq, not_true_eq_false, not_false_eq_true, decide_true, decide_false, if_true, if_false, and_true, true_and, and_false, false_and, or_true, true_or, or_false, false_or, Nat.reduceEqDiff, reduceIte, Nat.reduceMul, Nat.reduceAdd, Nat.reduceSub, Nat.add_zero, Nat.zero_add, Nat.mul_zero, eq_self_iff_true, jg_not_lt, jg_not_le, h57, lc_eq, c']
      exact sm_finds hw h x z2 d r (k + 1) (by omega)
/-- how far one of the words chosen has got -/
def rnI (f : Nat → Int64) (c : Nat) (ch : Nat → Nat) (hs : Nat → Int64) : Nat → Option Nat
  | 0 => some 0
  | n + 1 => if ch n = c then stS f (rnI f c ch hs n) (hs n) else rnI f c ch hs n
theorem rnI_none {f : Nat → Int64} {c : Nat} {ch : Nat → Nat} {hs : Nat → Int64} {i : Nat} (h : rnI f c ch hs i = none) : ∀ n, i ≤ n → rnI f c ch hs n = none
  | 0, hn => by have : i = 0 := by omega
                subst this; exact h
  | n + 1, hn => by
    by_cases e : i = n + 1
    · rw [← e]; exact h
    · unfold rnI
      rw [rnI_none h n (by omega)]
      split <;> rfl
theorem rnI_le {f : Nat → Int64} {c : Nat} {ch : Nat → Nat} {hs : Nat → Int64} : ∀ n a, rnI f c ch hs n = some a → a ≤ 40
  | 0, a, h => by have := Option.some.inj h; omega
  | n + 1, a, h => by
    unfold rnI at h
    split at h
    · exact stS_le h
    · exact rnI_le n a h
theorem rnI_cg {f : Nat → Int64} {c : Nat} {ch ch' : Nat → Nat} {hs : Nat → Int64} : ∀ n, (∀ i, i < n → ch i = ch' i) → rnI f c ch hs n = rnI f c ch' hs n
  | 0, _ => rfl
  | n + 1, h => by
    unfold rnI
    rw [h n (by omega), rnI_cg n (fun i hi => h i (by omega))]
theorem sm_place_loop {f : Nat → Int64} {c t k n : Nat} {hs : Nat → Int64} {ch : Nat → Nat} (ht : t < 4) (hc : c < 12) (hn : n ≤ 6) (hk : k < n) (hch : ∀ i, i ≤ k → ch i < 12) (hck : ch k = c) {m : jm_M} (h7 : ∀ q, q < 40 → m.2 57 0 0 (40 * c + q) = f q) (h5 : ∀ q, q < n → m.2 45 0 0 (60 * t + q) = hs q) (h8 : ∀ i, i ≤ k → m.1 58 0 0 i = nI (ch i)) (d : Nat) : ∀ (r i a : Nat), i + r = k + 1 → rnI f c ch hs i = some a → jm_ev false (d + 1) 11 1 jc_X12_placeIn 5 [vM, .inl (nI t), .inl (nI k), .inl (nI a + jM), .inl (nI i)] [] m = some (.inl (rP (rnI f c ch hs (k + 1))), m)
  | 0, i, a, hr, hs' => by
    have : i = k + 1 := by omega
    subst this
    rw [l_X12_placeIn_5, hs', jt_dt (nI_lt (Nat.lt_succ_self k) (by omega)), cond_true]
    rfl
  | r + 1, i, a, hr, hs' => by
    have a40 := rnI_le i a hs'
    have h8i := h8 i (by omega)
    have h8k := h8 k (Nat.le_refl k)
    rw [hck] at h8k
    have ci := hch i (by omega)
    have h5i := h5 i (by omega)
    have s1 : nI a + jM + nI 1 = nI a := by
      rw [Int32.add_assoc]
      show nI a + 0 = nI a
      rw [Int32.add_zero]
    have un : rnI f c ch hs (i + 1) = if ch i = c then stS f (rnI f c ch hs i) (hs i) else rnI f c ch hs i := rfl
    by_cases e : ch i = c
    · rw [if_pos e, hs'] at un
      rw [e] at h8i
      have fo : jm_sem false (d + 1) jn_X12_findsOn [vM, .inl (nI c), .inl (nI a), .inr (.inl (hs i))] m = some (.inl (jpl (fd f (hs i) (40 - a) a)), m) := by
        rw [e_X12_findsOn]
        exact sm_finds hc h7 (hs i) (.inl (nI a)) d (40 - a) a (by omega)
      have step : jm_ev false (d + 1) 11 1 jc_X12_placeIn 5 [vM, .inl (nI t), .inl (nI k), .inl (nI a + jM), .inl (nI i)] [] m = cond (jm_dec (jpl (fd f (hs i) (40 - a) a) ≠ jM)) (jm_ev false (d + 1) 11 1 jc_X12_placeIn 5 [vM, .inl (nI t), .inl (nI k), .inl (jpl (fd f (hs i) (40 - a) a)), .inl (nI (i + 1))] [] m) (some (.inl jM, m)) := by
        refine (l_X12_placeIn_5 _ _ _ _ _ _).trans ?_
        simp only [jg_lit]
        rw [jt_df (nI_nlt (show i ≤ k by omega) (by omega)), cond_false, jt_in (show i < 6 by omega) (by decide), cond_true, jt_in (show k < 6 by omega) (by decide), cond_true, jt_ix (by omega), jt_ix (by omega), h8i, h8k, jt_dt rfl, cond_true, cond_true, pk_mul, nI_add, jt_in (show 60 * t + i < 240 by omega) (by decide), cond_true, jt_ix (by omega), h5i, s1, fo, jt_bi, nI_add]
        rfl
      rw [step]
      cases hfd : fd f (hs i) (40 - a) a with
      | none =>
        have un' : rnI f c ch hs (i + 1) = none := by rw [un]; show (match fd f (hs i) (40 - a) a with | none => none | some k => some (k + 1)) = _; rw [hfd]
        rw [rnI_none un' (k + 1) (by omega), jt_df (fun z => z rfl), cond_false]
        rfl
      | some q =>
        have q1 := fd_lt _ _ _ hfd
        have un' : rnI f c ch hs (i + 1) = some (q + 1) := by rw [un]; show (match fd f (hs i) (40 - a) a with | none => none | some k => some (k + 1)) = _; rw [hfd]
        have ih := sm_place_loop ht hc hn hk hch hck h7 h5 h8 d r (i + 1) (q + 1) (by omega) un'
        rw [show nI (q + 1) + jM = nI q from pk_m1 q] at ih
        rw [jt_dt (show jpl (some q) ≠ jM from jt_m1 (by omega)), cond_true]
        exact ih
    · rw [if_neg e, hs'] at un
      have ih := sm_place_loop ht hc hn hk hch hck h7 h5 h8 d r (i + 1) a (by omega) un
      rw [← ih]
      refine (l_X12_placeIn_5 _ _ _ _ _ _).trans ?_
      simp only [jg_lit]
      rw [jt_df (nI_nlt (show i ≤ k by omega) (by omega)), cond_false, jt_in (show i < 6 by omega) (by decide), cond_true, jt_in (show k < 6 by omega) (by decide), cond_true, jt_ix (by omega), jt_ix (by omega), h8i, h8k, jt_df (fun z => e ((nI_eq (by omega) (by omega)).mp z)), cond_false, nI_add]
theorem sm_placeIn {f : Nat → Int64} {c t k n : Nat} {hs : Nat → Int64} {ch : Nat → Nat} (ht : t < 4) (hc : c < 12) (hn : n ≤ 6) (hk : k < n) (hch : ∀ i, i ≤ k → ch i < 12) (hck : ch k = c) {m : jm_M} (h7 : ∀ q, q < 40 → m.2 57 0 0 (40 * c + q) = f q) (h5 : ∀ q, q < n → m.2 45 0 0 (60 * t + q) = hs q) (h8 : ∀ i, i ≤ k → m.1 58 0 0 i = nI (ch i)) (d : Nat) : jm_sem false (d + 2) jn_X12_placeIn [vM, .inl (nI t), .inl (nI k)] m = some (.inl (rP (rnI f c ch hs (k + 1))), m) := by
  rw [e_X12_placeIn]
  exact sm_place_loop ht hc hn hk hch hck h7 h5 h8 d (k + 1) 0 0 (by omega) rfl
/-! ===== all rows of words (reference) ===== -/
/-- what stays while rows are counted -/
def rdI (V : Vl) (t : Nat) (hs : List Int64) (m : jm_M) : Prop := mV V 0 m ∧ (∀ v, v < (vlW V).length → ∀ q, q < 40 → m.2 57 0 0 (40 * v + q) = chF V v q) ∧ ∀ q, q < hs.length → m.2 45 0 0 (60 * t + q) = hs.getD q 0
theorem rdI_58 {V : Vl} (ho : okV V) {t : Nat} {hs : List Int64} {P : Nat → Nat → Nat → Nat → Prop} {m m' : jm_M} (h : rdI V t hs m) (f : fr P m m') (hP : ∀ K i j k, P K i j k → K = 58) : rdI V t hs m' := ⟨mV_k h.1 ho.2.2.2.1 (fun k => (f 41 0 0 k (fun z => absurd (hP _ _ _ _ z) (by decide))).1), fun v hv q hq => by rw [(f 57 0 0 _ (fun z => absurd (hP _ _ _ _ z) (by decide))).2]; exact h.2.1 v hv q hq, fun q hq => by rw [(f 45 0 0 _ (fun z => absurd (hP _ _ _ _ z) (by decide))).2]; exact h.2.2 q hq⟩
def P58 (l K _i _j k : Nat) : Prop := K = 58 ∧ l ≤ k
/-- from one level on, and back to that ahead -/
def rdH (V : Vl) (t D : Nat) (hs : List Int64) (l : Nat) (rest : List Int64) : Prop := ∀ (σ : Nat → Option Nat) (ch : Nat → Nat) (v : Nat) (m : jm_M), (∀ i, i < l → ch i < 12 ∧ m.1 58 0 0 i = nI (ch i)) → (∀ c, c < (vlW V).length → σ c = rnI (chF V c) c ch (fun q => hs.getD q 0) l) → rdI V t hs m → m.1 58 0 0 l = jM → ∃ m', jm_ev false D 11 1 jc_X12_readings 177 [vM, .inl (nI t), .inl (nI hs.length), .inl (nI v), .inl (nI l)] [] m = jm_ev false D 11 1 jc_X12_readings 177 [vM, .inl (nI t), .inl (nI hs.length), .inl (nI (v + cnt (liveB (vlW V)) (chF V) (vlW V).length rest σ)), .inl (nI l + jM)] [] m' ∧ fr (P58 l) m m'
theorem drop_c6 {gs t : List Int64} {p : Nat} {g : Int64} (h : gs.drop p = g :: t) : p < gs.length ∧ gs.getD p 0 = g ∧ gs.drop (p + 1) = t ∧ gs.length = p + 1 + t.length := by
  have hl : (gs.drop p).length = t.length + 1 := by rw [h]; rfl
  rw [List.length_drop] at hl
  have hp : p < gs.length := by omega
  have e := List.drop_eq_getElem_cons hp
  rw [h] at e
  have e1 := List.cons.inj e
  refine ⟨hp, ?_, e1.2.symm, by omega⟩
  simp only [List.getD, List.getElem?_eq_getElem hp, Option.getD_some]
  exact e1.1.symm
def rdF (V : Vl) (σ : Nat → Option Nat) (x : Int64) (rest : List Int64) (c : Nat) : Nat := if liveB (vlW V) c then (match stS (chF V c) (σ c) x with | none => 0 | some a => cnt (liveB (vlW V)) (chF V) (vlW V).length rest (upS σ c a)) else 0
theorem rd_in {V : Vl} (ho : okV V) {t d l : Nat} (ht : t < 4) {hs rest : List Int64} {x : Int64} (h6 : hs.length ≤ 6) (hd : hs.drop l = x :: rest) (H : rest ≠ [] → rdH V t (d + 3) hs (l + 1) rest) {σ : Nat → Option Nat} {ch : Nat → Nat} (hσ : ∀ c, c < (vlW V).length → σ c = rnI (chF V c) c ch (fun q => hs.getD q 0) l) : ∀ (r c v : Nat) (m : jm_M), c + r = (vlW V).length → (∀ i, i < l → ch i < 12 ∧ m.1 58 0 0 i = nI (ch i)) → rdI V t hs m → m.1 58 0 0 l = nI c + jM → ∃ m', jm_ev false (d + 3) 11 1 jc_X12_readings 177 [vM, .inl (nI t), .inl (nI hs.length), .inl (nI v), .inl (nI l)] [] m = jm_ev false (d + 3) 11 1 jc_X12_readings 177 [vM, .inl (nI t), .inl (nI hs.length), .inl (nI (v + sm (rdF V σ x rest) r c)), .inl (nI l + jM)] [] m' ∧ fr (P58 l) m m'
  | 0, c, v, m, hr, hch, hI, h58 => by
    have h12 := ho.2.2.2.1.1
    obtain ⟨hl, -, -, -⟩ := drop_c6 hd
    have h1 : m.1 41 0 0 1 = nI (vlW V).length := hI.1.2.1
    have e : c = (vlW V).length := by omega
    have s1 : nI c + jM + nI 1 = nI c := by
      rw [Int32.add_assoc]
      show nI c + 0 = nI c
      rw [Int32.add_zero]
    refine ⟨jm_sI m 58 0 0 l (nI c), ?_, fr_I ⟨rfl, Nat.le_refl l⟩⟩
    have z : sm (rdF V σ x rest) 0 c = 0 := rfl
    rw [z, Nat.add_zero]
    refine (l_X12_readings_177 _ _ _ _ _ _).trans ?_
    simp (disch := omega) only [jg_lit, jg_litL, jg_m1, jg_m1L, nI_add, lN_add, pk_mul, jg_sub, jg_subM, jg_addM, jg_addM', jg_negM, jt_in, jt_ix, jt_bi, jt_bl, jt_bv, jt_lt, jg_dT, jg_dF, jt_c, jt_cd, ru_I, ru_L, jg_leI, jg_ltI, jg_eqI, jg_M1, jg_M2, jg_M3, jg_M4, jg_M5, jg_M6, jg_ltT, jg_ltF, jg_leT, jg_leF, jg_eqT, jg_eqF, cond_true, cond_false, ne_eq, not_true_eq_false, not_false_eq_true, decide_true, decide_false, if_true, if_false, and_true, true_and, and_false, false_and, or_true, true_or, or_false, false_or, Nat.reduceEqDiff, reduceIte, Nat.reduceMul, Nat.reduceAdd, Nat.reduceSub, Nat.add_zero, Nat.zero_add, Nat.mul_zero, eq_self_iff_true, jg_not_lt, jg_not_le, h58, s1, h1]
  | r + 1, c, v, m, hr, hch, hI, h58 => by
    have h12 := ho.2.2.2.1.1
    obtain ⟨hl, hge, hd2, hll⟩ := drop_c6 hd
    have hc : c < (vlW V).length := by omega
    have h1 : m.1 41 0 0 1 = nI (vlW V).length := hI.1.2.1
    have s1 : nI c + jM + nI 1 = nI c := by
      rw [Int32.add_assoc]
      show nI c + 0 = nI c
      rw [Int32.add_zero]
    have f1 : fr (P58 l) m (jm_sI m 58 0 0 l (nI c)) := fr_I ⟨rfl, Nat.le_refl l⟩
    have P58K : ∀ K i j k, P58 l K i j k → K = 58 := fun K i j k z => z.1
    have hI1 := rdI_58 ho hI f1 P58K
    have c58 : (jm_sI m 58 0 0 l (nI c)).1 58 0 0 l = nI c := by rw [rd_II, if_pos ⟨rfl, rfl, rfl, rfl⟩]
    have hch1 : ∀ i, i < l → ch i < 12 ∧ (jm_sI m 58 0 0 l (nI c)).1 58 0 0 i = nI (ch i) := fun i hi => ⟨(hch i hi).1, by rw [rd_II, if_neg (by omega)]; exact (hch i hi).2⟩
    have o := sm_ofWord (k := c) (c := 0) (by omega) (by omega) (d + 1) (jm_sI m 58 0 0 l (nI c))
    rw [sm_size hI1.1 hc] at o
    have un : sm (rdF V σ x rest) (r + 1) c = rdF V σ x rest c + sm (rdF V σ x rest) r (c + 1) := rfl
    have nx : nI (c + 1) + jM = nI c := pk_m1 c
    have w8 := okW_8 (ho.2.2.2.1.2.1 c hc).1
    generalize hm1 : jm_sI m 58 0 0 l (nI c) = m1 at *
    by_cases c1 : wL (gw (vlW V) c) = []
    · have rd0 : rdF V σ x rest c = 0 := by
        unfold rdF
        rw [show liveB (vlW V) c = false from decide_eq_false (fun z => z c1)]
        rfl
      obtain ⟨m', e1, e2⟩ := rd_in ho ht h6 hd H hσ r (c + 1) v m1 (by omega) hch1 hI1 (by rw [nx]; exact c58)
      refine ⟨m', ?_, f1.tr e2⟩
      rw [un, rd0, Nat.zero_add, ← e1]
      rw [c1] at o
      refine (l_X12_readings_177 _ _ _ _ _ _).trans ?_
      simp (disch := omega) only [jg_lit, jg_litL, jg_m1, jg_m1L, nI_add, lN_add, pk_mul, jg_sub, jg_subM, jg_addM, jg_addM', jg_negM, jt_in, jt_ix, jt_bi, jt_bl, jt_bv, jt_lt, jg_dT, jg_dF, jt_c, jt_cd, ru_I, ru_L, jg_leI, jg_ltI, jg_eqI, jg_M1, jg_M2, jg_M3, jg_M4, jg_M5, jg_M6, jg_ltT, jg_ltF, jg_leT, jg_leF, jg_eqT, jg_eqF, cond_true, cond_false, ne_eq, not_true_eq_false, not_false_eq_true, decide_true, decide_false, if_true, if_false, and_true, true_and, and_false, false_and, or_true, true_or, or_false, false_or, Nat.reduceEqDiff, reduceIte, Nat.reduceMul, Nat.reduceAdd, Nat.reduceSub, Nat.add_zero, Nat.zero_add, Nat.mul_zero, eq_self_iff_true, jg_not_lt, jg_not_le, h58, s1, h1, hm1, o, List.length_nil]
    · have wp : 0 < (wL (gw (vlW V) c)).length := List.length_pos_iff.mpr c1
      have lv : liveB (vlW V) c = true := decide_eq_true c1
      have hcl : ∀ i, i ≤ l → (fun i => if i = l then c else ch i) i < 12 := fun i hi => by
        show (if i = l then c else ch i) < 12
        split
        · omega
        · exact (hch i (by omega)).1
      have h8 : ∀ i, i ≤ l → m1.1 58 0 0 i = nI ((fun i => if i = l then c else ch i) i) := fun i hi => by
        show _ = nI (if i = l then c else ch i)
        split
        · rename_i e; rw [e]; exact c58
        · exact (hch1 i (by omega)).2
      have pl := sm_placeIn (f := chF V c) (c := c) (t := t) (k := l) (n := hs.length) (hs := fun q => hs.getD q 0) (ch := fun i => if i = l then c else ch i) ht (by omega) h6 hl hcl (if_pos rfl) (hI1.2.1 c hc) hI1.2.2 h8 (d + 1)
      have rn1 : rnI (chF V c) c (fun i => if i = l then c else ch i) (fun q => hs.getD q 0) (l + 1) = stS (chF V c) (σ c) x := by
        show (if (if l = l then c else ch l) = c then stS (chF V c) (rnI _ _ _ _ l) (hs.getD l 0) else _) = _
        rw [if_pos rfl, if_pos rfl, hge, hσ c hc, rnI_cg l (fun i hi => show (if i = l then c else ch i) = ch i from if_neg (by omega))]
      rw [rn1] at pl
      cases hst : stS (chF V c) (σ c) x with
      | none =>
        rw [hst] at pl
        have pl : jm_sem false (d + 3) jn_X12_placeIn [vM, .inl (nI t), .inl (nI l)] m1 = some (.inl jM, m1) := pl
        have rd0 : rdF V σ x rest c = 0 := by
          unfold rdF
          rw [lv, if_pos rfl, hst]
        obtain ⟨m', e1, e2⟩ := rd_in ho ht h6 hd H hσ r (c + 1) v m1 (by omega) hch1 hI1 (by rw [nx]; exact c58)
        refine ⟨m', ?_, f1.tr e2⟩
        rw [un, rd0, Nat.zero_add, ← e1]
        refine (l_X12_readings_177 _ _ _ _ _ _).trans ?_
        simp (disch := omega) only [jg_lit, jg_litL, jg_m1, jg_m1L, nI_add, lN_add, pk_mul, jg_sub, jg_subM, jg_addM, jg_addM', jg_negM, jt_in, jt_ix, jt_bi, jt_bl, jt_bv, jt_lt, jg_dT, jg_dF, jt_c, jt_cd, ru_I, ru_L, jg_leI, jg_ltI, jg_eqI, jg_M1, jg_M2, jg_M3, jg_M4, jg_M5, jg_M6, jg_ltT, jg_ltF, jg_leT, jg_leF, jg_eqT, jg_eqF, cond_true, cond_false, ne_eq, not_true_eq_false, not_false_eq_true, decide_true, decide_false, if_true, if_false, and_true, true_and, and_false, false_and, or_true, true_or, or_false, false_or, Nat.reduceEqDiff, reduceIte, Nat.reduceMul, Nat.reduceAdd, Nat.reduceSub, Nat.add_zero, Nat.zero_add, Nat.mul_zero, eq_self_iff_true, jg_not_lt, jg_not_le, h58, s1, h1, hm1, o, pl]
      | some a =>
        rw [hst] at pl
        have a40 := stS_le hst
        have a1 : 1 ≤ a := by
          unfold stS at hst
          split at hst
          · cases hst
          · split at hst
            · cases hst
            · have := Option.some.inj hst; omega
        have pl : jm_sem false (d + 3) jn_X12_placeIn [vM, .inl (nI t), .inl (nI l)] m1 = some (.inl (nI a + jM), m1) := pl
        rw [jg_addM a1] at pl
        have rdE : rdF V σ x rest c = cnt (liveB (vlW V)) (chF V) (vlW V).length rest (upS σ c a) := by
          unfold rdF
          rw [lv, if_pos rfl, hst]
        cases hrest : rest with
        | nil =>
          have hlen : hs.length = l + 1 := by rw [hrest] at hll; exact hll
          have rd1 : rdF V σ x rest c = 1 := by rw [rdE, hrest]; rfl
          obtain ⟨m', e1, e2⟩ := rd_in ho ht h6 hd H hσ r (c + 1) (v + 1) m1 (by omega) hch1 hI1 (by rw [nx]; exact c58)
          refine ⟨m', ?_, f1.tr e2⟩
          rw [← hrest, un, rd1, ← Nat.add_assoc, ← e1]
          refine (l_X12_readings_177 _ _ _ _ _ _).trans ?_
          rw [hlen]
          simp (disch := omega) only [jg_lit, jg_litL, jg_m1, jg_m1L, nI_add, lN_add, pk_mul, jg_sub, jg_subM, jg_addM, jg_addM', jg_negM, jt_in, jt_ix, jt_bi, jt_bl, jt_bv, jt_lt, jg_dT, jg_dF, jt_c, jt_cd, ru_I, ru_L, jg_leI, jg_ltI, jg_eqI, jg_M1, jg_M2, jg_M3, jg_M4, jg_M5, jg_M6, jg_ltT, jg_ltF, jg_leT, jg_leF, jg_eqT, jg_eqF, cond_true, cond_false, ne_eq, not_true_eq_false, not_false_eq_true, decide_true, decide_false, if_true, if_false, and_true, true_and, and_false, false_and, or_true, true_or, or_false, false_or, Nat.reduceEqDiff, reduceIte, Nat.reduceMul, Nat.reduceAdd, Nat.reduceSub, Nat.add_zero, Nat.zero_add, Nat.mul_zero, eq_self_iff_true, jg_not_lt, jg_not_le, h58, s1, h1, hm1, o, pl]
        | cons x2 t2 =>
          have hlen : l + 1 < hs.length := by rw [hrest] at hll; have : (x2 :: t2).length = t2.length + 1 := rfl; omega
          have hm2 : ∃ m2, m2 = jm_sI m1 58 0 0 (l + 1) jM := ⟨_, rfl⟩
          obtain ⟨m2, hm2⟩ := hm2
          have f2 : fr (P58 l) m1 m2 := by rw [hm2]; exact fr_I ⟨rfl, by omega⟩
          obtain ⟨m3, u1, u2⟩ := H (by rw [hrest]; exact fun z => by cases z) (upS σ c a) (fun i => if i = l then c else ch i) v m2 (fun i hi => ⟨hcl i (by omega), by rw [hm2, rd_II, if_neg (by omega)]; exact h8 i (by omega)⟩) (fun c' hc' => by
            show (if c' = c then some a else σ c') = (if (if l = l then c else ch l) = c' then stS (chF V c') (rnI _ _ _ _ l) (hs.getD l 0) else _)
            rw [if_pos rfl]
            by_cases e : c' = c
            · subst e
              rw [if_pos rfl, if_pos rfl, hge, ← hst, hσ c' hc', rnI_cg l (fun i hi => show (if i = l then c' else ch i) = ch i from if_neg (by omega))]
            · rw [if_neg e, if_neg (fun z => e z.symm), hσ c' hc', rnI_cg l (fun i hi => show (if i = l then c else ch i) = ch i from if_neg (by omega))]) (rdI_58 ho hI1 f2 P58K) (by rw [hm2, rd_II, if_pos ⟨rfl, rfl, rfl, rfl⟩])
          have u2' : fr (P58 l) m2 m3 := u2.wk (fun K i j k z => ⟨z.1, by have := z.2; omega⟩)
          have f3 : fr (P58 l) m1 m3 := f2.tr u2'
          have c583 : m3.1 58 0 0 l = nI c := by rw [(u2 58 0 0 l (fun z => by have := z.2; omega)).1, hm2, rd_II, if_neg (by omega)]; exact c58
          obtain ⟨m', e1, e2⟩ := rd_in ho ht h6 hd H hσ r (c + 1) (v + rdF V σ x rest c) m3 (by omega) (fun i hi => ⟨(hch i hi).1, by rw [(u2 58 0 0 i (fun z => by have := z.2; omega)).1, hm2, rd_II, if_neg (by omega)]; exact (hch1 i hi).2⟩) (rdI_58 ho hI1 f3 P58K) (by rw [nx]; exact c583)
          refine ⟨m', ?_, (f1.tr f3).tr e2⟩
          rw [← rdE, show nI (l + 1) + jM = nI l from pk_m1 l] at u1
          rw [← hrest, un, ← Nat.add_assoc, ← e1, ← u1, hm2]
          refine (l_X12_readings_177 _ _ _ _ _ _).trans ?_
          simp (disch := omega) only [jg_lit, jg_litL, jg_m1, jg_m1L, nI_add, lN_add, pk_mul, jg_sub, jg_subM, jg_addM, jg_addM', jg_negM, jt_in, jt_ix, jt_bi, jt_bl, jt_bv, jt_lt, jg_dT, jg_dF, jt_c, jt_cd, ru_I, ru_L, jg_leI, jg_ltI, jg_eqI, jg_M1, jg_M2, jg_M3, jg_M4, jg_M5, jg_M6, jg_ltT, jg_ltF, jg_leT, jg_leF, jg_eqT, jg_eqF, cond_true, cond_false, ne_eq, not_true_eq_false, not_false_eq_true, decide_true, decide_false, if_true, if_false, and_true, true_and, and_false, false_and, or_true, true_or, or_false, false_or, Nat.reduceEqDiff, reduceIte, Nat.reduceMul, Nat.reduceAdd, Nat.reduceSub, Nat.add_zero, Nat.zero_add, Nat.mul_zero, eq_self_iff_true, jg_not_lt, jg_not_le, h58, s1, h1, hm1, o, pl]
theorem rd_all {V : Vl} (ho : okV V) {t d : Nat} (ht : t < 4) {hs : List Int64} (h6 : hs.length ≤ 6) : ∀ (rest : List Int64) (x : Int64) (l : Nat), hs.drop l = x :: rest → rdH V t (d + 3) hs l (x :: rest)
  | [], x, l, hd => fun σ ch v m h1 h2 h3 h4 => rd_in ho ht h6 hd (fun z => absurd rfl z) h2 (vlW V).length 0 v m (by omega) h1 h3 h4
  | x2 :: rest, x, l, hd => fun σ ch v m h1 h2 h3 h4 => rd_in ho ht h6 hd (fun _ => rd_all ho ht h6 rest x2 (l + 1) (drop_c6 hd).2.2.1) h2 (vlW V).length 0 v m (by omega) h1 h3 h4
