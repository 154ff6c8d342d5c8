/-! ===== keys in the reference ===== -/
def stOk : List (List Nat) → Nat → Bool
  | [], k => k == 128
  | w :: t, k => (List.range w.length).all (fun i => kst.getD (k + i) 0 == w.getD i 0 + 96) && kst.getD (k + w.length) 0 == 32 && decide (k + w.length < 128) && w.all (fun c => decide (1 ≤ c ∧ c ≤ 26)) && stOk t (k + w.length + 1)
theorem stOk_M : stOk keysM 1 = true := by decide +kernel
theorem stOk_c {w : List Nat} {t : List (List Nat)} {k : Nat} (h : stOk (w :: t) k = true) : (∀ i, i < w.length → kst.getD (k + i) 0 = w.getD i 0 + 96) ∧ kst.getD (k + w.length) 0 = 32 ∧ k + w.length < 128 ∧ (∀ c ∈ w, 1 ≤ c ∧ c ≤ 26) ∧ stOk t (k + w.length + 1) = true := by
  unfold stOk at h
  simp only [Bool.and_eq_true, List.all_eq_true, List.mem_range, beq_iff_eq, decide_eq_true_eq] at h
  obtain ⟨⟨⟨⟨h1, h2⟩, h3⟩, h4⟩, h5⟩ := h
  exact ⟨h1, h2, h3, h4, h5⟩
theorem list_ext {a b : List Nat} (hl : a.length = b.length) (h : ∀ i, i < a.length → a.getD i 0 = b.getD i 0) : a = b := by
  apply List.ext_getElem hl
  intro i h1 h2
  have := h i h1
  simp only [List.getD, List.getElem?_eq_getElem h1, List.getElem?_eq_getElem h2, Option.getD_some] at this
  exact this
theorem s_ch2 {k : Nat} (hk : k < 128) (d : Nat) (m : jm_M) : jm_sem false (d + 5) jn_J0_charAt_5068e [.inr (.inr (.inl (60, 2, 0))), .inl (nI k)] m = some (.inl (nI (kst.getD k 0)), m) := s_char st_len2 (by decide) hk (st_2 k hk).1 (st_2 k hk).2 d m
theorem sm_w25 {w : List Nat} {k : Nat} (h1 : ∀ i, i < w.length → kst.getD (k + i) 0 = w.getD i 0 + 96) (h2 : kst.getD (k + w.length) 0 = 32) (h3 : k + w.length < 128) (h4 : ∀ c ∈ w, 1 ≤ c ∧ c ≤ 26) (x2 : Int32) (z5 z6 : jm_V) (d : Nat) (m : jm_M) {a e : Nat} (ha : m.1 40 0 0 13 = nI a) (he : m.1 40 0 0 14 = nI e) (hae : a ≤ e) (h9 : e ≤ 900) : ∀ (r i : Nat), i + r = w.length → jm_ev false (d + 5) 11 1 jc_X12_inWords 25 [vM, .inr (.inr (.inl (60, 2, 0))), .inl x2, .inl (nI k), .inl (nI (k + i)), z5, z6] [] m = jm_ev false (d + 5) 11 1 jc_X12_inWords 68 [vM, .inr (.inr (.inl (60, 2, 0))), .inl x2, .inl (nI k), .inl (nI (k + w.length)), .inl (if w.length = e - a then nI 1 else nI 0), .inl (nI k)] [] m
  | 0, i, hr => by
    have : i = w.length := by omega
    subst this
    have sc := s_ch2 h3 d m
    rw [h2] at sc
    refine (l_X12_inWords_25 _ _ _ _ _ _ _ _).trans ?_
    have s1 : nI (k + w.length) - nI k = nI w.length := by rw [jg_sub (by omega), show k + w.length - k = w.length by omega]
    by_cases c : w.length = e - a
    · rw [if_pos c]
      have c' : (w.length = e - a) = True := eq_true c
      have wl : w.length < 2 ^ 31 := by omega
      simp (disch := omega) only [jg_lit, jg_litL, jg_m1, jg_m1L, nI_add, lN_add, pk_mul, jg_sub, jg_subM, jg_addM, jg_addM', jg_negM, jt_in, jt_ix, jt_bi, jt_bl, jt_bv, jt_lt, jg_dT, jg_dF, jt_c, jt_cd, ru_I, ru_L, jg_leI, jg_ltI, jg_eqI, jg_M1, jg_M2, jg_M3, jg_M4, jg_M5, jg_M6, jg_ltT, jg_ltF, jg_leT, jg_leF, jg_eqT, jg_eqF, cond_true, cond_false, ne_eq, not_true_eq_false, not_false_eq_true, decide_true, decide_false, if_true, if_false, and_true, true_and, and_false, false_and, or_true, true_or, or_false, false_or, Nat.reduceEqDiff, reduceIte, Nat.reduceMul, Nat.reduceAdd, Nat.reduceSub, Nat.add_zero, Nat.zero_add, Nat.mul_zero, eq_self_iff_true, jg_not_lt, jg_not_le, sc, s1, ha, he, c']
    · rw [if_neg c]
      simp (disch := omega) only [jg_lit, jg_litL, jg_m1, jg_m1L, nI_add, lN_add, pk_mul, jg_sub, jg_subM, jg_addM, jg_addM', jg_negM, jt_in, jt_ix, jt_bi, jt_bl, jt_bv, jt_lt, jg_dT, jg_dF, jt_c, jt_cd, ru_I, ru_L, jg_leI, jg_ltI, jg_eqI, jg_M1, jg_M2, jg_M3, jg_M4, jg_M5, jg_M6, jg_ltT, jg_ltF, jg_leT, jg_leF, jg_eqT, jg_eqF, cond_true, cond_false, ne_eq, not_true_eq_false, not_false_eq_true, decide_true, decide_false, if_true, if_false, and_true, true_and, and_false, false_and, or_true, true_or, or_false, false_or, Nat.reduceEqDiff, reduceIte, Nat.reduceMul, Nat.reduceAdd, Nat.reduceSub, Nat.add_zero, Nat.zero_add, Nat.mul_zero, eq_self_iff_true, jg_not_lt, jg_not_le, sc, s1, ha, he]
  | r + 1, i, hr => by
    have sc := s_ch2 (show k + i < 128 by omega) d m
    have hc := h4 _ (getD_memN (show i < w.length by omega))
    rw [h1 i (by omega)] at sc
    have ih := sm_w25 h1 h2 h3 h4 x2 z5 z6 d m ha he hae h9 r (i + 1) (by omega)
    rw [← ih]
    refine (l_X12_inWords_25 _ _ _ _ _ _ _ _).trans ?_
    rw [sc, jt_bi, jt_df (fun z => by have := (nI_eq (b := 32) (by omega) (by decide)).mp z; omega), cond_false, nI_1]
    rfl
theorem sm_w68_0 {n k e' : Nat} (x6 : Int32) (d : Nat) (m : jm_M) : ∃ z4 z5 z6, jm_ev false d 11 1 jc_X12_inWords 68 [vM, .inr (.inr (.inl (60, 2, 0))), .inl (nI n), .inl (nI k), .inl (nI e'), .inl (nI 0), .inl x6] [] m = jm_ev false d 11 1 jc_X12_inWords 14 [vM, .inr (.inr (.inl (60, 2, 0))), .inl (nI (n + 1)), .inl (nI (e' + 1)), z4, z5, z6] [] m := by
  refine ⟨.inl (nI e'), .inl (nI 0), .inl x6, ?_⟩
  refine (l_X12_inWords_68 _ _ _ _ _ _ _ _).trans ?_
  rw [show decide (nI 0 = 0) = true by decide, cond_true]
  cases jm_dec (nI e' ≤ x6) with
  | true => rw [cond_true, nI_1, nI_1]
  | false => rw [cond_false, cond_true, nI_1, nI_1]
theorem sm_w68 {T : Tb} {a : Nat} {w : List Nat} {n k : Nat} (hk : tkK T a = 1) (hl : w.length = (tkL T a).length) (h1 : ∀ i, i < w.length → kst.getD (k + i) 0 = w.getD i 0 + 96) (h3 : k + w.length < 128) (h4 : ∀ c ∈ w, 1 ≤ c ∧ c ≤ 26) (d : Nat) {m : jm_M} (hT : mTb T m) (ha : m.1 40 0 0 13 = nI a) : ∀ (r i : Nat), i + r = w.length → (∀ j, j < i → w.getD j 0 = (tkL T a).getD j 0) → (w = tkL T a → jm_ev false (d + 5) 11 1 jc_X12_inWords 68 [vM, .inr (.inr (.inl (60, 2, 0))), .inl (nI n), .inl (nI k), .inl (nI (k + w.length)), .inl (nI 1), .inl (nI (k + i))] [] m = some (.inl (nI n), m)) ∧ (w ≠ tkL T a → ∃ z4 z5 z6, jm_ev false (d + 5) 11 1 jc_X12_inWords 68 [vM, .inr (.inr (.inl (60, 2, 0))), .inl (nI n), .inl (nI k), .inl (nI (k + w.length)), .inl (nI 1), .inl (nI (k + i))] [] m = jm_ev false (d + 5) 11 1 jc_X12_inWords 14 [vM, .inr (.inr (.inl (60, 2, 0))), .inl (nI (n + 1)), .inl (nI (k + w.length + 1)), z4, z5, z6] [] m)
  | 0, i, hr, hj => by
    have : i = w.length := by omega
    subst this
    have e := list_ext hl hj
    refine ⟨fun _ => ?_, fun z => absurd e z⟩
    rw [l_X12_inWords_68]
    simp (disch := omega) only [jg_lit, jg_litL, jg_m1, jg_m1L, nI_add, lN_add, pk_mul, jg_sub, jg_subM, jg_addM, jg_addM', jg_negM, jt_in, jt_ix, jt_bi, jt_bl, jt_bv, jt_lt, jg_dT, jg_dF, jt_c, jt_cd, ru_I, ru_L, jg_leI, jg_ltI, jg_eqI, jg_M1, jg_M2, jg_M3, jg_M4, jg_M5, jg_M6, jg_ltT, jg_ltF, jg_leT, jg_leF, jg_eqT, jg_eqF, cond_true, cond_false, ne_eq, not_true_eq_false, not_false_eq_true, decide_true, decide_false, if_true, if_false, and_true, true_and, and_false, false_and, or_true, true_or, or_false, false_or, Nat.reduceEqDiff, reduceIte, Nat.reduceMul, Nat.reduceAdd, Nat.reduceSub, Nat.add_zero, Nat.zero_add, Nat.mul_zero, eq_self_iff_true, jg_not_lt, jg_not_le]
  | r + 1, i, hr, hj => by
    have h9 := hT.1.1
    have tl := tkL_len T a
    have te := tkE_le (Nat.le_of_lt (tkK_w hk).1)
    have hi : i < tkE T a - a := by omega
    have tg := tkL_get hi
    have ts := tkL_sm hk hi
    have sc := s_ch2 (show k + i < 128 by omega) d m
    have hc := h4 _ (getD_memN (show i < w.length by omega))
    rw [h1 i (by omega)] at sc
    have sb := sm_byT hT (show a + i < T.1 by omega) (d + 4)
    have s1 : nI (a + (k + i)) - nI k = nI (a + i) := by rw [jg_sub (by omega), show a + (k + i) - k = a + i by omega]
    have step : jm_ev false (d + 5) 11 1 jc_X12_inWords 68 [vM, .inr (.inr (.inl (60, 2, 0))), .inl (nI n), .inl (nI k), .inl (nI (k + w.length)), .inl (nI 1), .inl (nI (k + i))] [] m = jm_ev false (d + 5) 11 1 jc_X12_inWords 68 [vM, .inr (.inr (.inl (60, 2, 0))), .inl (nI n), .inl (nI k), .inl (nI (k + w.length)), .inl (if w.getD i 0 = (tkL T a).getD i 0 then nI 1 else nI 0), .inl (nI (k + i + 1))] [] m := by
      refine (l_X12_inWords_68 _ _ _ _ _ _ _ _).trans ?_
      rw [jt_df (nI_ge (show k + i < k + w.length by omega) (by omega)), cond_false, show decide (nI 1 = 0) = false by decide, cond_false, sc, jt_bi, ha, nI_add, s1, sb, jt_bi, nI_1]
      by_cases c : w.getD i 0 = (tkL T a).getD i 0
      · rw [if_pos c, jt_df (fun z => z (congrArg nI (by omega))), cond_false]
        rfl
      · rw [if_neg c, jt_dt (fun z => by have := (nI_eq (by omega) (by omega)).mp z; omega), cond_true]
        rfl
    by_cases c : w.getD i 0 = (tkL T a).getD i 0
    · rw [if_pos c] at step
      obtain ⟨i1, i2⟩ := sm_w68 (n := n) hk hl h1 h3 h4 d hT ha r (i + 1) (by omega) (fun j hj' => by
        by_cases e : j = i
        · rw [e]; exact c
        · exact hj j (by omega))
      exact ⟨fun z => by rw [step]; exact i1 z, fun z => by rw [step]; exact i2 z⟩
    · rw [if_neg c] at step
      refine ⟨fun z => absurd (by rw [z]) c, fun _ => ?_⟩
      obtain ⟨z4, z5, z6, e⟩ := sm_w68_0 (n := n) (k := k) (e' := k + w.length) (nI (k + i + 1)) (d + 5) m
      exact ⟨z4, z5, z6, by rw [step]; exact e⟩
theorem sm_inW {T : Tb} {a : Nat} (hk : tkK T a = 1) (d : Nat) {m : jm_M} (hT : mTb T m) (hm : mTk T a m) : ∀ (K : List (List Nat)) (n k : Nat) (z4 z5 z6 : jm_V), stOk K k = true → jm_ev false (d + 5) 11 1 jc_X12_inWords 14 [vM, .inr (.inr (.inl (60, 2, 0))), .inl (nI n), .inl (nI k), z4, z5, z6] [] m = some (.inl (jpl (ixOf (tkL T a) K n)), m)
  | [], n, k, z4, z5, z6, h => by
    have : k = 128 := by unfold stOk at h; simpa using h
    subst this
    have sl := s_len st_len2 (d + 3) m
    rw [l_X12_inWords_14]
    simp (disch := omega) only [jg_lit, jg_litL, jg_m1, jg_m1L, nI_add, lN_add, pk_mul, jg_sub, jg_subM, jg_addM, jg_addM', jg_negM, jt_in, jt_ix, jt_bi, jt_bl, jt_bv, jt_lt, jg_dT, jg_dF, jt_c, jt_cd, ru_I, ru_L, jg_leI, jg_ltI, jg_eqI, jg_M1, jg_M2, jg_M3, jg_M4, jg_M5, jg_M6, jg_ltT, jg_ltF, jg_leT, jg_leF, jg_eqT, jg_eqF, cond_true, cond_false, ne_eq, not_true_eq_false, not_false_eq_true, decide_true, decide_false, if_true, if_false, and_true, true_and, and_false, false_and, or_true, true_or, or_false, false_or, Nat.reduceEqDiff, reduceIte, Nat.reduceMul, Nat.reduceAdd, Nat.reduceSub, Nat.add_zero, Nat.zero_add, Nat.mul_zero, eq_self_iff_true, jg_not_lt, jg_not_le, sl]
    rfl
  | w :: t, n, k, z4, z5, z6, h => by
    obtain ⟨h1, h2, h3, h4, h5⟩ := stOk_c h
    have h9 := hT.1.1
    have te := tkE_le (Nat.le_of_lt (tkK_w hk).1)
    have tg := tkE_ge T a
    have tl := tkL_len T a
    have sl := s_len st_len2 (d + 3) m
    have st : jm_ev false (d + 5) 11 1 jc_X12_inWords 14 [vM, .inr (.inr (.inl (60, 2, 0))), .inl (nI n), .inl (nI k), z4, z5, z6] [] m = jm_ev false (d + 5) 11 1 jc_X12_inWords 68 [vM, .inr (.inr (.inl (60, 2, 0))), .inl (nI n), .inl (nI k), .inl (nI (k + w.length)), .inl (if w.length = tkE T a - a then nI 1 else nI 0), .inl (nI k)] [] m := by
      rw [← sm_w25 h1 h2 h3 h4 (nI n) z5 z6 d m hm.2.1 hm.2.2.1 tg (by omega) w.length 0 (by omega)]
      refine (l_X12_inWords_14 _ _ _ _ _ _ _ _).trans ?_
      rw [sl, jt_bi, jt_df (nI_ge (show k < 128 by omega) (by omega)), cond_false]
      rfl
    rw [st]
    unfold ixOf
    by_cases c : w.length = tkE T a - a
    · rw [if_pos c]
      obtain ⟨i1, i2⟩ := sm_w68 (n := n) hk (by omega) h1 h3 h4 d hT hm.2.1 w.length 0 (by omega) (fun j hj => by omega)
      by_cases e : w = tkL T a
      · rw [if_pos e]
        exact i1 e
      · rw [if_neg e]
        obtain ⟨y4, y5, y6, i2⟩ := i2 e
        have i2 : jm_ev false (d + 5) 11 1 jc_X12_inWords 68 [vM, .inr (.inr (.inl (60, 2, 0))), .inl (nI n), .inl (nI k), .inl (nI (k + w.length)), .inl (nI 1), .inl (nI k)] [] m = _ := i2
        rw [i2]
        exact sm_inW hk d hT hm t (n + 1) (k + w.length + 1) y4 y5 y6 h5
    · rw [if_neg c, if_neg (fun z => c (by rw [z, tl]))]
      obtain ⟨y4, y5, y6, i2⟩ := sm_w68_0 (n := n) (k := k) (e' := k + w.length) (nI k) (d + 5) m
      rw [i2]
      exact sm_inW hk d hT hm t (n + 1) (k + w.length + 1) y4 y5 y6 h5
/-- a key as the reference numbers it -/
def pmO (k : Option Nat) : Option Nat := k.map (fun j => pmL.getD j 0)
theorem kd_w {T : Tb} {a : Nat} : kdM (tkK T a) = 2 ↔ tkK T a = 1 := by
  have := tkK_le T a
  unfold kdM
  constructor
  · intro h
    repeat' split at h
    all_goals omega
  · intro h; rw [h]; rfl
theorem kdM_le (k : Nat) : kdM k ≤ 4 := by
  unfold kdM
  repeat' split
  all_goals omega
theorem sm_inWords {T : Tb} {a : Nat} {m : jm_M} (hT : mTb T m) (hm : mTk T a m) (d : Nat) : jm_sem false (d + 6) jn_X12_inWords [vM, .inr (.inr (.inl (60, 2, 0)))] m = some (.inl (jpl (pmO (tkY T a))), m) := by
  have h12 := hm.1
  have kl := kdM_le (tkK T a)
  rw [e_X12_inWords, h12]
  unfold tkY
  by_cases c : tkK T a = 1
  · rw [if_pos c, jt_dt (show nI (kdM (tkK T a)) = 2 from by rw [kd_w.mpr c]; rfl), cond_true]
    have := sm_inW c d hT hm keysM 0 1 jm_j jm_j jm_j stOk_M
    have e : ixOf (tkL T a) keysM 0 = pmO (keyX (tkL T a)) := km_kx (tkL T a)
    rw [e] at this
    exact this
  · rw [if_neg c, jt_df (show ¬ nI (kdM (tkK T a)) = 2 from fun z => c (kd_w.mp ((nI_eq (b := 2) (by omega) (by decide)).mp z))), cond_false]
    rfl
