/-! ===== bestCut ===== -/
theorem okW2_new {ls : List Nat} (h : okL ls) (h8 : ls.length ≤ 8) (h26 : ∀ c ∈ ls, c ≤ 26) {g : Nat} (hg : g < 4096) (hn : ls ≠ []) : okW2 (wNew ls g) := ⟨⟨h, by show ls.length + 0 ≤ 8; omega, fun _ _ hq => nil_get hq, hg, h, h8, fun e => absurd e hn⟩, h26, fun _ hc => absurd hc List.not_mem_nil, h26, Or.inl rfl⟩
theorem cutW_ok {ws : List Wd} (ho : okWs ws) {a b i j : Nat} (ha : a < ws.length) (hb : b < ws.length) (hi : i ≤ (wL (gw ws a)).length) (hj : j ≤ (wL (gw ws b)).length) (hij : i + j ≤ 8) (h1 : 1 ≤ i) : okL (cutW ws a i b j) ∧ (cutW ws a i b j).length = i + j ∧ cutW ws a i b j ≠ [] ∧ ∀ c ∈ cutW ws a i b j, c ≤ 26 := by
  have l : (cutW ws a i b j).length = i + j := cutL_length hi hj
  exact ⟨cutL_ok (ho.2.1 a ha).1.1 (ho.2.1 b hb).1.1 i j, l, fun z => by rw [z] at l; simp only [List.length_nil] at l; omega, cutL_26 (ho.2.1 a ha).2.1 (ho.2.1 b hb).2.1 i j⟩
def lifeC (V : Vl) (a b i j : Nat) : Nat := min (lifeW V (vlD V) (wNew (cutW (vlW V) a i b j) 0)) 40
theorem lifeF_pos {V : Vl} {day : Nat} {w : Wd} (h : wL w ≠ []) : 1 ≤ lifeW V day w := by
  unfold lifeW
  rw [lifeF, if_neg (show ¬ wL (wearN V day w 0) = [] from h)]
  exact (lifeF_le V day w 40 1).1
abbrev Bc : Type := Nat × Nat × Nat
def bcS (V : Vl) (a b i j : Nat) (st : Bc) : Bc := if cutB (vlW V) a i b j = true ∧ st.1 < lifeC V a b i j then (lifeC V a b i j, i, j) else st
def bcJ (V : Vl) (a b i : Nat) : Nat → Nat → Bc → Bc
  | 0, _, st => st
  | r + 1, j, st => bcJ V a b i r (j + 1) (bcS V a b i j st)
def bcI (V : Vl) (a b : Nat) : Nat → Nat → Bc → Bc
  | 0, _, st => st
  | r + 1, i, st => bcI V a b r (i + 1) (bcJ V a b i (8 - i) 1 st)
theorem bcS_le {V : Vl} {a b i j : Nat} {st : Bc} (h : st.1 ≤ 40) : (bcS V a b i j st).1 ≤ 40 := by
  unfold bcS
  split
  · show lifeC V a b i j ≤ 40
    unfold lifeC; omega
  · exact h
theorem bcJ_le {V : Vl} {a b i : Nat} : ∀ (r j : Nat) {st : Bc}, st.1 ≤ 40 → (bcJ V a b i r j st).1 ≤ 40
  | 0, _, _, h => h
  | r + 1, j, _, h => bcJ_le r (j + 1) (bcS_le h)
theorem bcS_F {V : Vl} {a b i j : Nat} {st : Bc} (h : cutB (vlW V) a i b j = false) : bcS V a b i j st = st := if_neg (fun z => by rw [h] at z; exact absurd z.1 (by decide))
theorem bcJ_out {V : Vl} {a b i : Nat} {st : Bc} : ∀ (r j : Nat), (wL (gw (vlW V) b)).length < j → bcJ V a b i r j st = st
  | 0, _, _ => rfl
  | r + 1, j, h => by
    unfold bcJ
    rw [bcS_F (decide_eq_false (fun z => by have := z.2.1; omega))]
    exact bcJ_out r (j + 1) (by omega)
theorem bcJ_out2 {V : Vl} {a b i : Nat} {st : Bc} (h : (wL (gw (vlW V) a)).length < i) : ∀ (r j : Nat), bcJ V a b i r j st = st
  | 0, _ => rfl
  | r + 1, j => by
    unfold bcJ
    rw [bcS_F (decide_eq_false (fun z => by have := z.1; omega))]
    exact bcJ_out2 h r (j + 1)
theorem bcI_out {V : Vl} {a b : Nat} {st : Bc} : ∀ (r i : Nat), (wL (gw (vlW V) a)).length < i → bcI V a b r i st = st
  | 0, _, _ => rfl
  | r + 1, i, h => by
    unfold bcI
    rw [bcJ_out2 h]
    exact bcI_out r (i + 1) (by omega)
theorem nI_min40 {a : Nat} (h : a < 2 ^ 31) : (if nI 40 < nI a then nI 40 else nI a) = nI (min a 40) := nI_min h (by decide)
theorem sx_lifeOfCut {V : Vl} (ho : okV V) {m : jm_M} (h : xV V 0 m) {a b i j : Nat} (ha : a < (vlW V).length) (hb : b < (vlW V).length) (hi : i ≤ (wL (gw (vlW V) a)).length) (hj : j ≤ (wL (gw (vlW V) b)).length) (hij : i + j ≤ 8) (h1 : 1 ≤ i) (d : Nat) : ∃ m', jm_sem false (d + 7) jn_X8_lifeOfCut [.inr (.inr (.inl (10, 0, 0))), .inl (nI a), .inl (nI i), .inl (nI b), .inl (nI j)] m = some (.inl (nI (lifeC V a b i j)), m') ∧ fr (PT 0) m m' := by
  obtain ⟨c1, c2, c3, c4⟩ := cutW_ok ho.2.2.2.1 ha hb hi hj hij h1
  have f := sx_cutForm h ho.2.2.2.1 ha hb hi hj (d + 4)
  obtain ⟨m1, e1, e2, e3⟩ := sx_begin (d + 4) 0 12 (cutW (vlW V) a i b j) 0 m
  rw [c2] at e1
  obtain ⟨m2, f1, f2⟩ := sx_lifeOfTried ho (okW2_new c1 (by omega) c4 (by decide) c3) (xH_T h.1 (fr_jcT e3)) e2 d
  have lw := lifeW_le V (vlD V) (wNew (cutW (vlW V) a i b j) 0)
  have mn := nI_min40 (a := lifeW V (vlD V) (wNew (cutW (vlW V) a i b j) 0)) (by omega)
  refine ⟨m2, ?_, (fr_jcT e3).tr f2⟩
  unfold lifeC
  rw [e_X8_lifeOfCut, ← mn]
  simp (disch := omega) only [jg_lit, jg_litL, jg_m1, jg_m1L, nI_add, lN_add, pk_mul, jg_sub, jg_subM, jg_addM, jg_addM', jg_negM, jt_in, jt_ix, jt_bi, jt_bl, jt_bv, jt_lt, jg_dT, jg_dF, jt_c, jt_cd, ru_I, ru_L, jg_leI, jg_ltI, jg_eqI, jg_M1, jg_M2, jg_M3, jg_M4, jg_M5, jg_M6, jg_ltT, jg_ltF, jg_leT, jg_leF, jg_eqT, jg_eqF, cond_true, cond_false, ne_eq, not_true_eq_false, not_false_eq_true, decide_true, decide_false, if_true, if_false, and_true, true_and, and_false, false_and, or_true, true_or, or_false, false_or, Nat.reduceEqDiff, reduceIte, Nat.reduceMul, Nat.reduceAdd, Nat.reduceSub, Nat.add_zero, Nat.zero_add, Nat.mul_zero, eq_self_iff_true, jg_not_lt, jg_not_le, f, e1, f1]
def bcA (st : Bc) (w : Nat) : Int32 := if st.1 = 0 then jM else if w = 0 then nI st.2.1 else if w = 1 then nI st.2.2 else nI st.1
def bcZ (st : Bc) : Int32 := if st.1 = 0 then nI 7 else nI 0
theorem sx_bc_in {V : Vl} (ho : okV V) {a b w : Nat} (ha : a < (vlW V).length) (hb : b < (vlW V).length) (z4 : jm_V) {i : Nat} (hi : 1 ≤ i) (hi8 : i < 8) (d : Nat) : ∀ (r j : Nat) (st : Bc) (z10 : jm_V) (m : jm_M), i + j + r = 9 → st.1 ≤ 40 → xV V 0 m → ∃ m' z9' z10', jm_ev false (d + 7) 10 1 jc_X11_bestCut 55 [vX, .inl (nI a), .inl (nI b), .inl (nI w), z4, .inl (nI st.2.1), .inl (nI st.2.2), .inl (nI st.1), .inl (nI i), .inl (nI j), z10] [] m = jm_ev false (d + 7) 10 1 jc_X11_bestCut 45 [vX, .inl (nI a), .inl (nI b), .inl (nI w), z4, .inl (nI (bcJ V a b i r j st).2.1), .inl (nI (bcJ V a b i r j st).2.2), .inl (nI (bcJ V a b i r j st).1), .inl (nI (i + 1)), z9', z10'] [] m' ∧ fr (PT 0) m m'
  | 0, j, st, z10, m, hr, hs, hx => by
    refine ⟨m, .inl (nI j), z10, ?_, .rf⟩
    rw [l_X11_bestCut_55]
    simp (disch := omega) only [jg_lit, jg_litL, jg_m1, jg_m1L, nI_add, lN_add, pk_mul, jg_sub, jg_subM, jg_addM, jg_addM', jg_negM, jt_in, jt_ix, jt_bi, jt_bl, jt_bv, jt_lt, jg_dT, jg_dF, jt_c, jt_cd, ru_I, ru_L, jg_leI, jg_ltI, jg_eqI, jg_M1, jg_M2, jg_M3, jg_M4, jg_M5, jg_M6, jg_ltT, jg_ltF, jg_leT, jg_leF, jg_eqT, jg_eqF, cond_true, cond_false, ne_eq, not_true_eq_false, not_false_eq_true, decide_true, decide_false, if_true, if_false, and_true, true_and, and_false, false_and, or_true, true_or, or_false, false_or, Nat.reduceEqDiff, reduceIte, Nat.reduceMul, Nat.reduceAdd, Nat.reduceSub, Nat.add_zero, Nat.zero_add, Nat.mul_zero, eq_self_iff_true, jg_not_lt, jg_not_le]
    rfl
  | r + 1, j, st, z10, m, hr, hs, hx => by
    have h12 := ho.2.2.2.1.1
    have can := sx_canCut hx ho.2.2.2.1 ha hb (show i < 2 ^ 31 by omega) (show j < 2 ^ 31 by omega) (d + 4)
    unfold bcJ
    cases hc : cutB (vlW V) a i b j with
    | false =>
      rw [hc, bI_F] at can
      obtain ⟨m', z9', z10', e1, e2⟩ := sx_bc_in ho ha hb z4 hi hi8 d r (j + 1) st (.inl (nI 0)) m (by omega) hs hx
      refine ⟨m', z9', z10', ?_, e2⟩
      rw [bcS_F hc, ← e1, l_X11_bestCut_55]
      simp (disch := omega) only [jg_lit, jg_litL, jg_m1, jg_m1L, nI_add, lN_add, pk_mul, jg_sub, jg_subM, jg_addM, jg_addM', jg_negM, jt_in, jt_ix, jt_bi, jt_bl, jt_bv, jt_lt, jg_dT, jg_dF, jt_c, jt_cd, ru_I, ru_L, jg_leI, jg_ltI, jg_eqI, jg_M1, jg_M2, jg_M3, jg_M4, jg_M5, jg_M6, jg_ltT, jg_ltF, jg_leT, jg_leF, jg_eqT, jg_eqF, cond_true, cond_false, ne_eq, not_true_eq_false, not_false_eq_true, decide_true, decide_false, if_true, if_false, and_true, true_and, and_false, false_and, or_true, true_or, or_false, false_or, Nat.reduceEqDiff, reduceIte, Nat.reduceMul, Nat.reduceAdd, Nat.reduceSub, Nat.add_zero, Nat.zero_add, Nat.mul_zero, eq_self_iff_true, jg_not_lt, jg_not_le, can]
    | true =>
      rw [hc, bI_T] at can
      obtain ⟨c1, c2, c3, c4⟩ := cutB_T hc
      obtain ⟨m1, l1, l2⟩ := sx_lifeOfCut ho hx ha hb c1 c2 c3 hi d
      have lc : lifeC V a b i j ≤ 40 := by unfold lifeC; omega
      obtain ⟨m', z9', z10', e1, e2⟩ := sx_bc_in ho ha hb z4 hi hi8 d r (j + 1) (bcS V a b i j st) (.inl (nI (lifeC V a b i j))) m1 (by omega) (bcS_le hs) (xV_T hx h12 l2)
      refine ⟨m', z9', z10', ?_, l2.tr e2⟩
      rw [← e1, l_X11_bestCut_55]
      by_cases c : st.1 < lifeC V a b i j
      · rw [show bcS V a b i j st = (lifeC V a b i j, i, j) from if_pos ⟨hc, c⟩]
        simp (disch := omega) only [jg_lit, jg_litL, jg_m1, jg_m1L, nI_add, lN_add, pk_mul, jg_sub, jg_subM, jg_addM, jg_addM', jg_negM, jt_in, jt_ix, jt_bi, jt_bl, jt_bv, jt_lt, jg_dT, jg_dF, jt_c, jt_cd, ru_I, ru_L, jg_leI, jg_ltI, jg_eqI, jg_M1, jg_M2, jg_M3, jg_M4, jg_M5, jg_M6, jg_ltT, jg_ltF, jg_leT, jg_leF, jg_eqT, jg_eqF, cond_true, cond_false, ne_eq, not_true_eq_false, not_false_eq_true, decide_true, decide_false, if_true, if_false, and_true, true_and, and_false, false_and, or_true, true_or, or_false, false_or, Nat.reduceEqDiff, reduceIte, Nat.reduceMul, Nat.reduceAdd, Nat.reduceSub, Nat.add_zero, Nat.zero_add, Nat.mul_zero, eq_self_iff_true, jg_not_lt, jg_not_le, can, l1]
      · rw [show bcS V a b i j st = st from if_neg (fun z => c z.2)]
        simp (disch := omega) only [jg_lit, jg_litL, jg_m1, jg_m1L, nI_add, lN_add, pk_mul, jg_sub, jg_subM, jg_addM, jg_addM', jg_negM, jt_in, jt_ix, jt_bi, jt_bl, jt_bv, jt_lt, jg_dT, jg_dF, jt_c, jt_cd, ru_I, ru_L, jg_leI, jg_ltI, jg_eqI, jg_M1, jg_M2, jg_M3, jg_M4, jg_M5, jg_M6, jg_ltT, jg_ltF, jg_leT, jg_leF, jg_eqT, jg_eqF, cond_true, cond_false, ne_eq, not_true_eq_false, not_false_eq_true, decide_true, decide_false, if_true, if_false, and_true, true_and, and_false, false_and, or_true, true_or, or_false, false_or, Nat.reduceEqDiff, reduceIte, Nat.reduceMul, Nat.reduceAdd, Nat.reduceSub, Nat.add_zero, Nat.zero_add, Nat.mul_zero, eq_self_iff_true, jg_not_lt, jg_not_le, can, l1]
theorem sx_bc_out {V : Vl} (ho : okV V) {a b w : Nat} (ha : a < (vlW V).length) (hb : b < (vlW V).length) (hw : w < 3) (z4 : jm_V) (d : Nat) : ∀ (r i : Nat) (st : Bc) (z9 z10 : jm_V) (m : jm_M), i + r = 8 → 1 ≤ i → st.1 ≤ 40 → xV V 0 m → ∃ m', jm_ev false (d + 7) 10 1 jc_X11_bestCut 45 [vX, .inl (nI a), .inl (nI b), .inl (nI w), z4, .inl (nI st.2.1), .inl (nI st.2.2), .inl (nI st.1), .inl (nI i), z9, z10] [] m = some (.inl (bcA (bcI V a b r i st) w), jm_sI m' 0 0 0 14 (bcZ (bcI V a b r i st))) ∧ fr (PT 0) m m'
  | 0, i, st, z9, z10, m, hr, hi, hs, hx => by
    refine ⟨m, ?_, .rf⟩
    rw [l_X11_bestCut_45]
    unfold bcI bcA bcZ
    by_cases c : st.1 = 0
    · simp (disch := omega) only [jg_lit, jg_litL, jg_m1, jg_m1L, nI_add, lN_add, pk_mul, jg_sub, jg_subM, jg_addM, jg_addM', jg_negM, jt_in, jt_ix, jt_bi, jt_bl, jt_bv, jt_lt, jg_dT, jg_dF, jt_c, jt_cd, ru_I, ru_L, jg_leI, jg_ltI, jg_eqI, jg_M1, jg_M2, jg_M3, jg_M4, jg_M5, jg_M6, jg_ltT, jg_ltF, jg_leT, jg_leF, jg_eqT, jg_eqF, cond_true, cond_false, ne_eq, not_true_eq_false, not_false_eq_true, decide_true, decide_false, if_true, if_false, and_true, true_and, and_false, false_and, or_true, true_or, or_false, false_or, Nat.reduceEqDiff, reduceIte, Nat.reduceMul, Nat.reduceAdd, Nat.reduceSub, Nat.add_zero, Nat.zero_add, Nat.mul_zero, eq_self_iff_true, jg_not_lt, jg_not_le, c, sx_fail]
    · by_cases c0 : w = 0
      · simp (disch := omega) only [jg_lit, jg_litL, jg_m1, jg_m1L, nI_add, lN_add, pk_mul, jg_sub, jg_subM, jg_addM, jg_addM', jg_negM, jt_in, jt_ix, jt_bi, jt_bl, jt_bv, jt_lt, jg_dT, jg_dF, jt_c, jt_cd, ru_I, ru_L, jg_leI, jg_ltI, jg_eqI, jg_M1, jg_M2, jg_M3, jg_M4, jg_M5, jg_M6, jg_ltT, jg_ltF, jg_leT, jg_leF, jg_eqT, jg_eqF, cond_true, cond_false, ne_eq, not_true_eq_false, not_false_eq_true, decide_true, decide_false, if_true, if_false, and_true, true_and, and_false, false_and, or_true, true_or, or_false, false_or, Nat.reduceEqDiff, reduceIte, Nat.reduceMul, Nat.reduceAdd, Nat.reduceSub, Nat.add_zero, Nat.zero_add, Nat.mul_zero, eq_self_iff_true, jg_not_lt, jg_not_le, c, c0, sx_give]
      · by_cases c1 : w = 1
        · simp (disch := omega) only [jg_lit, jg_litL, jg_m1, jg_m1L, nI_add, lN_add, pk_mul, jg_sub, jg_subM, jg_addM, jg_addM', jg_negM, jt_in, jt_ix, jt_bi, jt_bl, jt_bv, jt_lt, jg_dT, jg_dF, jt_c, jt_cd, ru_I, ru_L, jg_leI, jg_ltI, jg_eqI, jg_M1, jg_M2, jg_M3, jg_M4, jg_M5, jg_M6, jg_ltT, jg_ltF, jg_leT, jg_leF, jg_eqT, jg_eqF, cond_true, cond_false, ne_eq, not_true_eq_false, not_false_eq_true, decide_true, decide_false, if_true, if_false, and_true, true_and, and_false, false_and, or_true, true_or, or_false, false_or, Nat.reduceEqDiff, reduceIte, Nat.reduceMul, Nat.reduceAdd, Nat.reduceSub, Nat.add_zero, Nat.zero_add, Nat.mul_zero, eq_self_iff_true, jg_not_lt, jg_not_le, c, c1, sx_give]
        · simp (disch := omega) only [jg_lit, jg_litL, jg_m1, jg_m1L, nI_add, lN_add, pk_mul, jg_sub, jg_subM, jg_addM, jg_addM', jg_negM, jt_in, jt_ix, jt_bi, jt_bl, jt_bv, jt_lt, jg_dT, jg_dF, jt_c, jt_cd, ru_I, ru_L, jg_leI, jg_ltI, jg_eqI, jg_M1, jg_M2, jg_M3, jg_M4, jg_M5, jg_M6, jg_ltT, jg_ltF, jg_leT, jg_leF, jg_eqT, jg_eqF, cond_true, cond_false, ne_eq, not_true_eq_false, not_false_eq_true, decide_true, decide_false, if_true, if_false, and_true, true_and, and_false, false_and, or_true, true_or, or_false, false_or, Nat.reduceEqDiff, reduceIte, Nat.reduceMul, Nat.reduceAdd, Nat.reduceSub, Nat.add_zero, Nat.zero_add, Nat.mul_zero, eq_self_iff_true, jg_not_lt, jg_not_le, c, sx_give]
  | r + 1, i, st, z9, z10, m, hr, hi, hs, hx => by
    obtain ⟨m1, z9', z10', e1, e2⟩ := sx_bc_in ho (w := w) ha hb z4 hi (show i < 8 by omega) d (8 - i) 1 st z10 m (by omega) hs hx
    obtain ⟨m', f1, f2⟩ := sx_bc_out ho ha hb hw z4 d r (i + 1) (bcJ V a b i (8 - i) 1 st) z9' z10' m1 (by omega) (by omega) (bcJ_le _ _ hs) (xV_T hx ho.2.2.2.1.1 e2)
    refine ⟨m', ?_, e2.tr f2⟩
    show _ = some (Sum.inl (bcA (bcI V a b r (i + 1) (bcJ V a b i (8 - i) 1 st)) w), jm_sI m' 0 0 0 14 (bcZ (bcI V a b r (i + 1) (bcJ V a b i (8 - i) 1 st))))
    rw [← f1, ← e1, l_X11_bestCut_45]
    simp (disch := omega) only [jg_lit, jg_litL, jg_m1, jg_m1L, nI_add, lN_add, pk_mul, jg_sub, jg_subM, jg_addM, jg_addM', jg_negM, jt_in, jt_ix, jt_bi, jt_bl, jt_bv, jt_lt, jg_dT, jg_dF, jt_c, jt_cd, ru_I, ru_L, jg_leI, jg_ltI, jg_eqI, jg_M1, jg_M2, jg_M3, jg_M4, jg_M5, jg_M6, jg_ltT, jg_ltF, jg_leT, jg_leF, jg_eqT, jg_eqF, cond_true, cond_false, ne_eq, not_true_eq_false, not_false_eq_true, decide_true, decide_false, if_true, if_false, and_true, true_and, and_false, false_and, or_true, true_or, or_false, false_or, Nat.reduceEqDiff, reduceIte, Nat.reduceMul, Nat.reduceAdd, Nat.reduceSub, Nat.add_zero, Nat.zero_add, Nat.mul_zero, eq_self_iff_true, jg_not_lt, jg_not_le]
