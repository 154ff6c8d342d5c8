/-! ===== village ===== -/
theorem gN_inj {s : Pv} (hn : ((pW s).map (fun q => q.1)).Nodup) {a b : Nat} (ha : a < (pW s).length) (hb : b < (pW s).length) (hab : a ≠ b) : ((pW s).getD a ([], 0)).1 ≠ ((pW s).getD b ([], 0)).1 := by
  have key : ∀ i j, i < j → j < (pW s).length → ((pW s).getD i ([], 0)).1 ≠ ((pW s).getD j ([], 0)).1 := by
    intro i j hij hj
    have hi : i < (pW s).length := by omega
    have := List.pairwise_iff_getElem.mp hn i j (by rw [List.length_map]; exact hi) (by rw [List.length_map]; exact hj) hij
    simp only [List.getElem_map] at this
    simp only [List.getD, List.getElem?_eq_getElem hi, List.getElem?_eq_getElem hj, Option.getD_some]
    exact this
  by_cases c : a < b
  · exact key a b c hb
  · exact fun z => key b a (by omega) ha z.symm
theorem okV_of {s : Pv} (ho : okPv s) : okV (vOf s) := by
  obtain ⟨o1, o2, o3, o4, o5, o6, o7, o8⟩ := ho
  have lw : (wsOf s).length = (pW s).length := by unfold wsOf; rw [List.length_map]
  have okw : ∀ j, j < (pW s).length → okW2 (gw (wsOf s) j) := fun j hj => by
    rw [gw_ws hj]
    have hm : (pW s).getD j ([], 0) ∈ pW s := by
      simp only [List.getD, List.getElem?_eq_getElem hj, Option.getD_some]
      exact List.getElem_mem hj
    obtain ⟨⟨w1, w2, w3, w4⟩, w5⟩ := o6 _ hm
    exact okW2_new w1 w2 w3 w5 w4
  refine ⟨o1, o2, Nat.zero_le _, ⟨by show (wsOf s).length ≤ 12; omega, fun j hj => okw j (by have hj : j < (wsOf s).length := hj; omega), fun a b ha hb hab _ => ?_⟩, fun q w hq hw => ?_, ?_, ⟨Nat.zero_le _, Nat.zero_le _, fun r hr => absurd hr List.not_mem_nil⟩⟩
  · have ha : a < (wsOf s).length := ha
    have hb : b < (wsOf s).length := hb
    rw [lw] at ha hb
    show wL (gw (wsOf s) a) ≠ wL (gw (wsOf s) b)
    rw [gw_ws ha, gw_ws hb]
    exact gN_inj o7 ha hb hab
  · have hw : w < (wsOf s).length := hw
    have := okw w (by omega)
    exact ⟨this.1.1, okW_8 this.1⟩
  · show okS (sfO (pS s))
    intro c k hk
    cases hs : pS s with
    | none => rw [hs] at hk; cases hk
    | some l =>
      rw [hs] at hk
      have hk : ixN c l 0 = some k := hk
      obtain ⟨h1, h2⟩ := o8 l hs
      have := dsc_len h2 h1
      have := (ixN_lt l 0 k hk).2
      omega
def stX (s : St) (P : Tp) (X : Int32 × Int32) : St := (aV s, aS s, aT s, P, aM s, aB s, aG s, aF s, X)
theorem xO_X {s : St} {μ μ' : jm_M} (h : xO s μ) (ho : okA s) {P : Tp} {X : Int32 × Int32} (hP : xP P μ') (b15 : μ'.1 0 0 0 15 = X.1) (b16 : μ'.1 0 0 0 16 = X.2) (hf : ∀ K i j k, SO K i j k → K ≠ 4 → ¬ (K = 0 ∧ (k = 12 ∨ k = 15 ∨ k = 16)) → μ'.1 K i j k = μ.1 K i j k ∧ μ'.2 K i j k = μ.2 K i j k) : xO (stX s P X) μ' := by
  obtain ⟨h1, h2, h3, h4, h5, h6, h7, h8, h9, h10, h11, h12⟩ := h
  have k0 := fun k (hk : ¬ (0 = 0 ∧ (k = 12 ∨ k = 15 ∨ k = 16))) => (hf 0 0 0 k (Or.inl rfl) (by decide) hk).1
  have k0L := fun k (hk : ¬ (0 = 0 ∧ (k = 12 ∨ k = 15 ∨ k = 16))) => (hf 0 0 0 k (Or.inl rfl) (by decide) hk).2
  have k2 := fun i j k => (hf 2 i j k (Or.inr (Or.inl rfl)) (by decide) (by omega)).1
  have k3 := fun i j k => (hf 3 i j k (Or.inr (Or.inr (Or.inl rfl))) (by decide) (by omega)).2
  have k37 := fun k => (hf 37 0 0 k (by unfold SO; omega) (by decide) (by omega)).1
  refine ⟨by rw [k0 14 (by omega)]; exact h1, xT_k h2 k2 k3, hP, by rw [k0 13 (by omega)]; exact h4, fun k hk => ?_, by rw [(hf 22 0 0 1 (by unfold SO; omega) (by decide) (by omega)).1]; exact h6, fun k hk => by rw [(hf 23 0 0 k (by unfold SO; omega) (by decide) (by omega)).1]; exact h7 k hk, ?_, by rw [k0L 18 (by omega)]; exact h9, by rw [k0L 19 (by omega)]; exact h10, b15, b16⟩
  · have := ho.2.1
    have hk : k < (aM s).length := hk
    have hv := (ho.2.2.1 k hk).2.2.2.1.1
    exact ⟨xH_k (h5 k hk).1 (fun K q hK => hf K (2 + k) 0 q (by unfold SO; omega) (by omega) (by omega)), fun j hj => xW_k ((h5 k hk).2 j hj) (fun q => (hf 12 (2 + k) j q (by unfold SO; omega) (by decide) (by omega)).1) (fun q => (hf 12 (2 + k) j q (by unfold SO; omega) (by decide) (by omega)).2)⟩
  · show xG (aG s) _
    unfold xG at h8 ⊢
    split at h8
    · rw [k0 17 (by omega)]; exact h8
    · rw [k0 17 (by omega), k37, k37, k37, k37]; exact h8
theorem mO_X {s : St} {μ μ' : jm_M} (h : mO s μ) (ho : okA s) {P : Tp} {X : Int32 × Int32} (hP : mP P μ') (b15 : μ'.1 40 0 0 16 = X.1) (b16 : μ'.1 40 0 0 17 = X.2) (hf : ∀ K i j k, SM K i j k → ¬ (K = 40 ∧ (k = 10 ∨ k = 16 ∨ k = 17)) → μ'.1 K i j k = μ.1 K i j k ∧ μ'.2 K i j k = μ.2 K i j k) : mO (stX s P X) μ' := by
  obtain ⟨h1, h2, h3, h4, h5, h6, h7, h8, h9, h10, h11, h12⟩ := h
  have hl := ho.2.1
  have k43 := fun i j k => (hf 43 i j k (by unfold SM; omega) (by omega)).1
  have k44 := fun i j k => (hf 44 i j k (by unfold SM; omega) (by omega)).1
  have k45 := fun i j k => (hf 45 i j k (by unfold SM; omega) (by omega)).2
  have k59 := fun k => (hf 59 0 0 k (by unfold SM; omega) (by omega)).1
  have q := fun k (hk : SM 40 0 0 k) (h37 : ¬ (40 = 40 ∧ (k = 10 ∨ k = 16 ∨ k = 17))) => (hf 40 0 0 k hk h37).1
  refine ⟨by rw [q 2 (by unfold SM; omega) (by omega)]; exact h1, mT_k h2 k43 k44 k45, hP, by rw [q 47 (by unfold SM; omega) (by omega)]; exact h4, fun k hk => ?_, by rw [q 37 (by unfold SM; omega) (by omega)]; exact h6, fun k hk => by rw [(hf 55 0 0 k (by unfold SM; omega) (by omega)).1]; exact h7 k hk, ?_, by rw [(hf 40 0 0 3 (by unfold SM; omega) (by omega)).2]; exact h9, by rw [(hf 40 0 0 4 (by unfold SM; omega) (by omega)).2]; exact h10, b15, b16⟩
  · have hk : k < (aM s).length := hk
    obtain ⟨ν, n1, n2, n3⟩ := h5 k hk
    exact ⟨ν, n1, fun c hc => by rw [(hf 41 0 0 _ (by unfold SM; omega) (by omega)).1]; exact n2 c hc, fun c hc => by rw [(hf 42 0 0 _ (by unfold SM; omega) (by omega)).2]; exact n3 c hc⟩
  · show mG (aG s) _
    unfold mG at h8 ⊢
    split at h8
    · rw [q 46 (by unfold SM; omega) (by omega)]; exact h8
    · rw [q 46 (by unfold SM; omega) (by omega), k59, k59, k59, k59]; exact h8
theorem sx_open {q : Tp} {n : Nat} {m : jm_M} (hP : xP q m) (hn : n ≤ q.1) (d : Nat) : ∃ m', jm_sem false (d + 9) jn_X6_open [.inr (.inr (.inl (5, 0, 0))), .inl (nI n)] m = some (jm_j, m') ∧ xF (tOf q n) (tkS (tOf q n) 0) m' ∧ fr (fun K _ _ _ => K = 5) m m' := by
  obtain ⟨p1, p2, p3⟩ := hP
  generalize hm1 : jm_sI (jm_sI (jm_sI (jm_sI m 5 0 0 1 (nI n)) 5 0 0 2 0) 5 0 0 8 0) 5 0 0 9 (-1) = m1
  have f1 : fr (fun K _ _ _ => K = 5) m m1 := by
    rw [← hm1]
    exact fr_sI (fr_sI (fr_sI (fr_sI .rf rfl) rfl) rfl) rfl
  have hT : xTb (tOf q n) m1 := ⟨tOf_ok (by omega), by rw [← hm1]; simp (disch := omega) only [jg_lit, jg_litL, jg_m1, jg_m1L, nI_add, lN_add, pk_mul, jg_sub, jg_subM, jg_addM, jg_addM', jg_negM, jt_in, jt_ix, jt_bi, jt_bl, jt_bv, jt_lt, jg_dT, jg_dF, jt_c, jt_cd, ru_I, ru_L, jg_leI, jg_ltI, jg_eqI, jg_M1, jg_M2, jg_M3, jg_M4, jg_M5, jg_M6, jg_ltT, jg_ltF, jg_leT, jg_leF, jg_eqT, jg_eqF, cond_true, cond_false, ne_eq, not_true_eq_false, not_false_eq_true, decide_true, decide_false, if_true, if_false, and_true, true_and, and_false, false_and, or_true, true_or, or_false, false_or, Nat.reduceEqDiff, reduceIte, Nat.reduceMul, Nat.reduceAdd, Nat.reduceSub, Nat.add_zero, Nat.zero_add, Nat.mul_zero, eq_self_iff_true, jg_not_lt, jg_not_le]; rfl, fun k hk => by
    have hk : k < n := hk
    rw [(f1 4 0 0 k (by omega)).1, p3 k (by omega), by8_eq]; rfl⟩
  have h2 : m1.1 5 0 0 2 = nI 0 := by rw [← hm1]; simp (disch := omega) only [jg_lit, jg_litL, jg_m1, jg_m1L, nI_add, lN_add, pk_mul, jg_sub, jg_subM, jg_addM, jg_addM', jg_negM, jt_in, jt_ix, jt_bi, jt_bl, jt_bv, jt_lt, jg_dT, jg_dF, jt_c, jt_cd, ru_I, ru_L, jg_leI, jg_ltI, jg_eqI, jg_M1, jg_M2, jg_M3, jg_M4, jg_M5, jg_M6, jg_ltT, jg_ltF, jg_leT, jg_leF, jg_eqT, jg_eqF, cond_true, cond_false, ne_eq, not_true_eq_false, not_false_eq_true, decide_true, decide_false, if_true, if_false, and_true, true_and, and_false, false_and, or_true, true_or, or_false, false_or, Nat.reduceEqDiff, reduceIte, Nat.reduceMul, Nat.reduceAdd, Nat.reduceSub, Nat.add_zero, Nat.zero_add, Nat.mul_zero, eq_self_iff_true, jg_not_lt, jg_not_le]
  obtain ⟨m2, b1, b2, b3⟩ := sx_advE (T := tOf q n) (e := 0) (Nat.zero_le _) hT h2 d
  refine ⟨m2, ?_, ⟨(tkS_le (T := tOf q n) (Nat.zero_le _)).2, xTb_5 hT b3, b2, ?_, ?_⟩, f1.tr (b3.wk (fun K i j k z => z.1))⟩
  · rw [e_X6_open, hm1, b1, jt_bv]
  · rw [(b3 5 0 0 8 (by unfold P5; omega)).1, ← hm1]; simp (disch := omega) only [jg_lit, jg_litL, jg_m1, jg_m1L, nI_add, lN_add, pk_mul, jg_sub, jg_subM, jg_addM, jg_addM', jg_negM, jt_in, jt_ix, jt_bi, jt_bl, jt_bv, jt_lt, jg_dT, jg_dF, jt_c, jt_cd, ru_I, ru_L, jg_leI, jg_ltI, jg_eqI, jg_M1, jg_M2, jg_M3, jg_M4, jg_M5, jg_M6, jg_ltT, jg_ltF, jg_leT, jg_leF, jg_eqT, jg_eqF, cond_true, cond_false, ne_eq, not_true_eq_false, not_false_eq_true, decide_true, decide_false, if_true, if_false, and_true, true_and, and_false, false_and, or_true, true_or, or_false, false_or, Nat.reduceEqDiff, reduceIte, Nat.reduceMul, Nat.reduceAdd, Nat.reduceSub, Nat.add_zero, Nat.zero_add, Nat.mul_zero, eq_self_iff_true, jg_not_lt, jg_not_le]
  · rw [(b3 5 0 0 9 (by unfold P5; omega)).1, ← hm1]; simp (disch := omega) only [jg_lit, jg_litL, jg_m1, jg_m1L, nI_add, lN_add, pk_mul, jg_sub, jg_subM, jg_addM, jg_addM', jg_negM, jt_in, jt_ix, jt_bi, jt_bl, jt_bv, jt_lt, jg_dT, jg_dF, jt_c, jt_cd, ru_I, ru_L, jg_leI, jg_ltI, jg_eqI, jg_M1, jg_M2, jg_M3, jg_M4, jg_M5, jg_M6, jg_ltT, jg_ltF, jg_leT, jg_leF, jg_eqT, jg_eqF, cond_true, cond_false, ne_eq, not_true_eq_false, not_false_eq_true, decide_true, decide_false, if_true, if_false, and_true, true_and, and_false, false_and, or_true, true_or, or_false, false_or, Nat.reduceEqDiff, reduceIte, Nat.reduceMul, Nat.reduceAdd, Nat.reduceSub, Nat.add_zero, Nat.zero_add, Nat.mul_zero, eq_self_iff_true, jg_not_lt, jg_not_le]
theorem tp0 (q : Tp) : (0, q.2) = ((0, q.2) : Tp) := rfl
theorem xV_PVt {V : Vl} {m m' : jm_M} (h : xV V 0 m) (hl : (vlW V).length ≤ 12) (f : fr PVt m m') : xV V 0 m' := xV_fr h hl f (fun K j k hK hj z => by unfold PVt at z; omega)
theorem c_village (x : Int32) : jcall jn_X11_village jn_X12_village [.inl x] := by
  intro s μ ho hx hm
  have xP' : xP (aP s) μ := hx.2.2.2.1
  have mP' : mP (aP s) μ := hm.2.2.2.1
  have t9 := xP'.1
  have x12 := xP'.2.1
  have l12 := ho.1.2.2.2.1.1
  rcases in_cases x (show (aP s).1 + 1 < 2 ^ 31 by omega) with h | ⟨n, hn, rfl⟩
  · have h' : x < 0 ∨ nI (aP s).1 < x ∨ nI 900 < x := h.imp id (fun z => Or.inl (Int32.lt_of_lt_of_le (nI_lt (Nat.lt_succ_self _) (by omega)) z))
    refine jcall_no ho hx hm (nI 1) (v := .inl jM) ?_ ?_
    · rw [e_X11_village, x12]
      by_cases c : x < 0
      · rw [decide_eq_true c, cond_true]; simp (disch := omega) only [jg_lit, jg_litL, jg_m1, jg_m1L, nI_add, lN_add, pk_mul, jg_sub, jg_subM, jg_addM, jg_addM', jg_negM, jt_in, jt_ix, jt_bi, jt_bl, jt_bv, jt_lt, jg_dT, jg_dF, jt_c, jt_cd, ru_I, ru_L, jg_leI, jg_ltI, jg_eqI, jg_M1, jg_M2, jg_M3, jg_M4, jg_M5, jg_M6, jg_ltT, jg_ltF, jg_leT, jg_leF, jg_eqT, jg_eqF, cond_true, cond_false, ne_eq, not_true_eq_false, not_false_eq_true, decide_true, decide_false, if_true, if_false, and_true, true_and, and_false, false_and, or_true, true_or, or_false, false_or, Nat.reduceEqDiff, reduceIte, Nat.reduceMul, Nat.reduceAdd, Nat.reduceSub, Nat.add_zero, Nat.zero_add, Nat.mul_zero, eq_self_iff_true, jg_not_lt, jg_not_le, sx_fail]
      · rw [decide_eq_false c, cond_false, jt_df (not_in h c (by omega) (Nat.lt_succ_self _)), cond_false]; simp (disch := omega) only [jg_lit, jg_litL, jg_m1, jg_m1L, nI_add, lN_add, pk_mul, jg_sub, jg_subM, jg_addM, jg_addM', jg_negM, jt_in, jt_ix, jt_bi, jt_bl, jt_bv, jt_lt, jg_dT, jg_dF, jt_c, jt_cd, ru_I, ru_L, jg_leI, jg_ltI, jg_eqI, jg_M1, jg_M2, jg_M3, jg_M4, jg_M5, jg_M6, jg_ltT, jg_ltF, jg_leT, jg_leF, jg_eqT, jg_eqF, cond_true, cond_false, ne_eq, not_true_eq_false, not_false_eq_true, decide_true, decide_false, if_true, if_false, and_true, true_and, and_false, false_and, or_true, true_or, or_false, false_or, Nat.reduceEqDiff, reduceIte, Nat.reduceMul, Nat.reduceAdd, Nat.reduceSub, Nat.add_zero, Nat.zero_add, Nat.mul_zero, eq_self_iff_true, jg_not_lt, jg_not_le, sx_fail]
    · have bn := sm_beginsN mP' (by decide) h' 97
      have bn : jm_sem false 98 jn_X12_begins [vM, .inl x, .inl 900] μ = some (.inl 0, μ) := bn
      rw [e_X12_village, bn, jt_bi, show decide ((0 : Int32) ≠ 0) = false by decide, cond_false]; simp (disch := omega) only [jg_lit, jg_litL, jg_m1, jg_m1L, nI_add, lN_add, pk_mul, jg_sub, jg_subM, jg_addM, jg_addM', jg_negM, jt_in, jt_ix, jt_bi, jt_bl, jt_bv, jt_lt, jg_dT, jg_dF, jt_c, jt_cd, ru_I, ru_L, jg_leI, jg_ltI, jg_eqI, jg_M1, jg_M2, jg_M3, jg_M4, jg_M5, jg_M6, jg_ltT, jg_ltF, jg_leT, jg_leF, jg_eqT, jg_eqF, cond_true, cond_false, ne_eq, not_true_eq_false, not_false_eq_true, decide_true, decide_false, if_true, if_false, and_true, true_and, and_false, false_and, or_true, true_or, or_false, false_or, Nat.reduceEqDiff, reduceIte, Nat.reduceMul, Nat.reduceAdd, Nat.reduceSub, Nat.add_zero, Nat.zero_add, Nat.mul_zero, eq_self_iff_true, jg_not_lt, jg_not_le, sm_refuse]
  · have hn : n ≤ (aP s).1 := by omega
    obtain ⟨m1, a1, a2, a3⟩ := sx_open xP' hn 89
    have f2 : fr (fun K _ _ k => K = 5 ∨ (K = 0 ∧ k = 12)) μ (jm_sI m1 0 0 0 12 0) := (a3.wk (fun K i j k z => Or.inl z)).tr (fr_I (Or.inr ⟨rfl, rfl⟩))
    have h2 : xF (tOf (aP s) n) (tkS (tOf (aP s) n) 0) (jm_sI m1 0 0 0 12 0) := xF_fr (P := fun K _ _ _ => K = 0) a2 (fr_I rfl) (fun k => by omega) (fun k => by omega)
    obtain ⟨m3, b1, b2, b3⟩ := sx_readAll h2 86
    have x0 : jm_sem false 99 jn_X11_village [vX, .inl (nI n)] μ = _ := e_X11_village 98 (nI n) μ
    rw [show decide (nI n < 0) = false from decide_eq_false (nI_nlt (b := 0) (Nat.zero_le n) (by omega)), cond_false, x12, jt_dt (nI_le hn (by omega)), cond_true, a1, jt_bv, b1, jt_bi, e_X11_keepFault, jt_bv] at x0
    have f3 : fr (fun K i j k => PVt K i j k ∨ K = 5 ∨ (K = 0 ∧ k = 12)) μ m3 := (f2.wk (fun K i j k z => Or.inr z)).tr (b3.wk (fun K i j k z => Or.inl z))
    have v3 : xV (aV s) 0 m3 := xV_fr hx.1 l12 f3 (fun K j k hK hj z => by unfold PVt at z; omega)
    obtain ⟨n1, c1, c2, c3, c4, c5⟩ := sm_begins (most := 900) mP' hn (by omega) (by decide) 95
    obtain ⟨n2, d1, d2, d3⟩ := sm_zero (.inl (nI n)) jm_j jm_j 98 770 0 n1 rfl (fun j hj => by omega)
    obtain ⟨n3, e1, e2, e3⟩ := sm_softens 97 26 1 n2 rfl (Nat.le_refl 1) (fun j j1 j2 => by omega)
    have so : jm_sem false 98 jn_X12_softens [vM, .inl 3080] n2 = some (jm_j, n3) := by
      rw [e_X12_softens]; exact e1
    have g3 : fr (fun K _ _ k => K = 41 ∧ 3080 ≤ k ∧ k < 3850) n1 n3 := d3.tr (e3.wk (fun K i j k z => by omega))
    have h3 : mFn (tOf (aP s) n) (tkS (tOf (aP s) n) 0) n3 := mFn_fr c2 g3 (fun k _ _ z => by omega) (fun k z => by omega)
    have z3 : ∀ j, j < 491 → n3.1 41 0 0 (3080 + j) = nI 0 := fun j hj => by rw [(e3 41 0 0 _ (by omega)).1]; exact d2 j (by omega)
    have p3 : mPv pv0 n3 := ⟨z3 0 (by omega), z3 1 (by omega), z3 2 (by omega), z3 3 (by omega), z3 4 (by omega), fun j hj => absurd hj (Nat.not_lt_zero j), fun c k1 k2 => e2 c k1 k2, fun k hk => absurd hk (Nat.not_lt_zero k), fun k hk => absurd hk (Nat.not_lt_zero k), by rw [(g3 40 0 0 19 (by omega)).1, c4]; rfl⟩
    have lp := sm_v52 (T := tOf (aP s) n) (.inl (nI n)) jm_j jm_j 88 ((tOf (aP s) n).1 + 1) (tkS (tOf (aP s) n) 0) pv0 n3 (by omega) h3 p3 okPv0
    have y0 : jm_sem false 99 jn_X12_village [vM, .inl (nI n)] μ = jm_ev false 98 11 1 jc_X12_village 52 [vM, .inl (nI n), .inl (nI 1), jm_j, jm_j] [] n3 := by
      have c1 : jm_sem false 98 jn_X12_begins [vM, .inl (nI n), .inl 900] μ = some (.inl 1, n1) := c1
      rw [e_X12_village, c1, jt_bi, show decide ((1 : Int32) ≠ 0) = true by decide, cond_true]
      refine d1.trans ?_
      rw [l_X12_village_19, jt_dt (show (770 : Int32) ≤ nI 770 by decide), cond_true, so, jt_bv]
      rfl
    have fm3 : fr (fun K i j k => PMt K i j k ∨ Pbg K i j k) μ n3 := (c5.wk (fun K i j k z => Or.inr z)).tr (g3.wk (fun K i j k z => Or.inl (by unfold PMt; omega)))
    have cell1 : n3.1 41 0 0 1 = nI (vlW (aV s)).length := by
      rw [(fm3 41 0 0 1 (by unfold PMt Pbg; omega)).1]
      exact hm.1.1.2.1
    cases hr : vAll (tOf (aP s) n) ((tOf (aP s) n).1 + 1) pv0 (tkS (tOf (aP s) n) 0) with
    | inl f =>
      rw [hr] at b2 lp x0
      obtain ⟨q1, q2, q3, q4⟩ := b2
      obtain ⟨n4, u1, ⟨u2, u3, u4, u5⟩, u6⟩ := lp
      have y1 := y0.trans (u1 _ cell1)
      have k9 : (jm_sI m3 0 0 0 15 (nI f.1)).1 5 0 0 9 = nI f.2 := by rw [rd_II, if_neg (by omega)]; exact q4
      rw [q3, k9, show decide (reI (.inl f) ≠ 0) = false from (by decide : decide (nI 0 ≠ 0) = false), cond_false, sx_fail, jt_bi] at x0
      refine ⟨.inl jM, stV (stX s (0, (aP s).2) (nI f.1, nI f.2)) (aV s) 9, _, _, okA_V (s := stX s (0, (aP s).2) (nI f.1, nI f.2)) ho ho.1 9, x0, y1, ?_, ?_⟩
      · refine ⟨xV_st (xV_k0 (xV_k0 v3)) 9, xO_st (s := stX s (0, (aP s).2) (nI f.1, nI f.2)) (xO_X (P := (0, (aP s).2)) (X := (nI f.1, nI f.2)) hx.2 ho ⟨Nat.zero_le _, ?_, fun k hk => absurd hk (Nat.not_lt_zero k)⟩ ?_ ?_ (fun K i j k hS h4 hk => ?_)) ho (aV s) 9⟩
        · rw [rd_II, if_neg (by omega), rd_II, if_neg (by omega), (b3 0 0 0 12 (by unfold PVt; omega)).1, rd_II, if_pos ⟨rfl, rfl, rfl, rfl⟩]; rfl
        · rw [rd_II, if_neg (by omega), rd_II, if_pos ⟨rfl, rfl, rfl, rfl⟩]
        · rw [rd_II, if_pos ⟨rfl, rfl, rfl, rfl⟩]
        · have e := f3 K i j k (by unfold PVt; unfold SO at hS; omega)
          exact ⟨by rw [rd_II, if_neg (by omega), rd_II, if_neg (by omega)]; exact e.1, e.2⟩
      · have fm4 : fr (fun K i j k => PMt K i j k ∨ Pbg K i j k) μ n4 := fm3.tr (u6.wk (fun K i j k z => Or.inl z))
        have F4 : mF (aV s) n4 := mF_fr hm.1 ho.1 fm4 (fun k hk z => by unfold PMt Pbg at z; omega) (fun k hk z => by unfold PMt Pbg at z; omega)
        have F5 : mF (aV s) (jm_sI n4 40 0 0 16 (nI f.1)) := mF_k F4 ho.1 (fun k _ => by rw [rd_II, if_neg (by omega)]) (fun k _ => rfl)
        refine ⟨mF_st F5 ho.1 9, mO_st (s := stX s (0, (aP s).2) (nI f.1, nI f.2)) (mO_X (P := (0, (aP s).2)) (X := (nI f.1, nI f.2)) hm.2 ho ⟨Nat.zero_le _, ?_, fun k hk => absurd hk (Nat.not_lt_zero k)⟩ ?_ ?_ (fun K i j k hS hk => ?_)) (aV s) 9⟩
        · rw [rd_II, if_neg (by omega), (u6 40 0 0 10 (by unfold PMt; omega)).1, (g3 40 0 0 10 (by omega)).1, c3]
        · rw [rd_II, if_pos ⟨rfl, rfl, rfl, rfl⟩]
        · rw [rd_II, if_neg (by omega)]; exact u5
        · have e := fm4 K i j k (by unfold PMt Pbg; unfold SM at hS; omega)
          exact ⟨by rw [rd_II, if_neg (by omega)]; exact e.1, e.2⟩
    | inr s' =>
      rw [hr] at b2 lp x0
      obtain ⟨⟨b, hF⟩, os, vs⟩ := b2
      have oV := okV_of os
      have q3 := hF.2.2.2.1
      have q4 := hF.2.2.2.2
      have lw : (wsOf s').length = (pW s').length := by unfold wsOf; rw [List.length_map]
      have w12 := os.2.2.1
      have k9 : (jm_sI m3 0 0 0 15 (nI 0)).1 5 0 0 9 = jM := by rw [rd_II, if_neg (by omega)]; exact q4
      obtain ⟨m5, r1, r2, r3⟩ := sx_copyV (xV_k0 (q := 16) (x := jM) (xV_k0 (q := 15) (x := nI 0) vs)) oV (i := 0) (by decide) 96
      have n5 : m5.1 10 0 0 4 = nI (pW s').length := by rw [← lw]; exact r2.1.2.1
      rw [q3, k9, show decide (reI (.inr s') ≠ 0) = true from (by decide : decide (nI 1 ≠ 0) = true), cond_true, r1, jt_bv, n5, sx_give, jt_bi] at x0
      obtain ⟨n4, b', u1, u2, u3, u4, u5⟩ := lp
      obtain ⟨n5', y4, v1, v2, v3', v4⟩ := sm_v80 os (.inl (nI n)) (.inl (nI 1)) 96 4 0 jm_j n4 rfl u3 (fun p v hp => by omega)
      obtain ⟨n6, w1, w2, w3⟩ := sm_v151 (.inl (nI n)) (.inl (nI 1)) y4 98 770 0 n5' rfl
      obtain ⟨n7, z1, z2, z3'⟩ := sm_v182 (.inl (nI n)) (.inl (nI 1)) y4 98 64 0 n6 rfl
      have c41 : ∀ k, k < 770 → n7.1 41 0 0 k = n5'.1 41 0 0 (3080 + k) := fun k hk => by rw [(z3' 41 0 0 k (by omega)).1]; exact w2 k (Nat.zero_le _) hk
      have c42 : ∀ k, k < 64 → n7.2 42 0 0 k = n5'.2 42 0 0 (256 + k) := fun k hk => by rw [z2 k (Nat.zero_le _) hk, (w3 42 0 0 _ (by unfold PA; omega)).2]
      obtain ⟨h1, h2', h3', h4, h5, h6, h7, h8, h9, h10⟩ := v2
      have F7 : mF (vOf s') n7 := by
        refine ⟨⟨by rw [c41 0 (by omega)]; exact h1, ?_, by show n7.1 41 0 0 2 = _; rw [c41 2 (by omega)]; exact h3', by show n7.1 41 0 0 4 = _; rw [c41 4 (by omega)]; exact h5, fun j hj => ?_⟩, fun q w hq hw => ?_, fun c c1 c2 => ?_, ⟨by rw [c41 3 (by omega)]; exact h4, fun k hk => absurd hk (Nat.not_lt_zero k), fun r hr => absurd hr (Nat.not_lt_zero r)⟩⟩
        · show n7.1 41 0 0 1 = nI (wsOf s').length
          rw [c41 1 (by omega), lw]; exact h2'
        · have hj : j < (wsOf s').length := hj
          show mW (gw (wsOf s') j) (0 + 10 + 40 * j) n7
          exact mW_cp (h6 j (by omega)) (ws_X (by omega)) (fun k hk => by rw [c41 _ (by omega), show 3080 + (0 + 10 + 40 * j + k) = 3080 + 10 + 40 * j + k by omega])
        · have hw : w < (wsOf s').length := hw
          have hq : q < (pP s').length := hq
          have p4 := os.2.1
          rw [c42 _ (by omega), show 256 + (0 + 12 * q + w) = 256 + 12 * q + w by omega]
          exact v3' q w (by omega) (by omega)
        · rw [c41 _ (by omega), show 3080 + (490 + c) = 3570 + c by omega]
          exact h7 c c1 c2
      have fm7 : fr (fun K i j k => PMt K i j k ∨ Pbg K i j k ∨ (K = 41 ∧ k < 770) ∨ (K = 42 ∧ k < 64) ∨ (K = 40 ∧ k = 26) ∨ K = 49) μ n7 := by
        refine ((((fm3.wk (fun K i j k z => ?_)).tr (u5.wk (fun K i j k z => ?_))).tr (v4.wk (fun K i j k z => ?_))).tr (w3.wk (fun K i j k z => ?_))).tr (z3'.wk (fun K i j k z => ?_))
        · rcases z with z | z
          · exact Or.inl z
          · exact Or.inr (Or.inl z)
        · exact Or.inl z
        · unfold PMt; omega
        · unfold PA at z; omega
        · omega
      have k18 : n7.1 40 0 0 18 = nI 0 := by rw [(z3' 40 0 0 18 (by omega)).1, (w3 40 0 0 18 (by unfold PA; omega)).1, (v4 40 0 0 18 (by omega)).1]; exact u2.2.2.2.1
      have k17 : n7.1 40 0 0 17 = jM := by rw [(z3' 40 0 0 17 (by omega)).1, (w3 40 0 0 17 (by unfold PA; omega)).1, (v4 40 0 0 17 (by omega)).1]; exact u2.2.2.2.2
      have k10 : n7.1 40 0 0 10 = nI 0 := by rw [(z3' 40 0 0 10 (by omega)).1, (w3 40 0 0 10 (by unfold PA; omega)).1, (v4 40 0 0 10 (by omega)).1, (u5 40 0 0 10 (by unfold PMt; omega)).1, (g3 40 0 0 10 (by omega)).1, c3]
      have k1 : n7.1 41 0 0 1 = nI (pW s').length := by rw [c41 1 (by omega)]; exact h2'
      have tk := sm_taken (x := (pW s').length) (f := 0) (by decide) k18 96
      rw [if_pos rfl] at tk
      have i1 : jm_dec (vp_in 1 8600) = true := jt_in (n := 1) (N := 8600) (by decide) (by decide)
      have ix1 : jm_ix 1 = 1 := jt_ix (n := 1) (by decide)
      have y1 : jm_sem false 99 jn_X12_village [vM, .inl (nI n)] μ = some (.inl (nI (pW s').length), jm_sI (jm_sI n7 40 0 0 16 (nI 0)) 40 0 0 2 0) := by
        refine ((((y0.trans u1).trans v1).trans w1).trans z1).trans ?_
        rw [l_X12_village_182, jt_dt (show (64 : Int32) ≤ nI 64 by decide), cond_true, i1, cond_true, ix1, k1, tk, jt_bi]
      refine ⟨.inl (nI (pW s').length), stV (stX s (0, (aP s).2) (nI 0, jM)) (vOf s') 0, _, _, okA_V (s := stX s (0, (aP s).2) (nI 0, jM)) ho oV 0, x0, y1, ?_, ?_⟩
      · refine ⟨xV_st r2 0, xO_st (s := stX s (0, (aP s).2) (nI 0, jM)) (xO_X (P := (0, (aP s).2)) (X := (nI 0, jM)) hx.2 ho ⟨Nat.zero_le _, ?_, fun k hk => absurd hk (Nat.not_lt_zero k)⟩ ?_ ?_ (fun K i j k hS h4 hk => ?_)) ho (vOf s') 0⟩
        · rw [(r3 0 0 0 12 (by unfold PV; omega)).1, rd_II, if_neg (by omega), rd_II, if_neg (by omega), (b3 0 0 0 12 (by unfold PVt; omega)).1, rd_II, if_pos ⟨rfl, rfl, rfl, rfl⟩]; rfl
        · rw [(r3 0 0 0 15 (by unfold PV; omega)).1, rd_II, if_neg (by omega), rd_II, if_pos ⟨rfl, rfl, rfl, rfl⟩]
        · rw [(r3 0 0 0 16 (by unfold PV; omega)).1, rd_II, if_pos ⟨rfl, rfl, rfl, rfl⟩]
        · have e := f3 K i j k (by unfold PVt; unfold SO at hS; omega)
          have e2 := r3 K i j k (by unfold PV; unfold SO at hS; omega)
          exact ⟨by rw [e2.1, rd_II, if_neg (by omega), rd_II, if_neg (by omega)]; exact e.1, e2.2.trans e.2⟩
      · have F8 : mF (vOf s') (jm_sI n7 40 0 0 16 (nI 0)) := mF_k F7 oV (fun k _ => by rw [rd_II, if_neg (by omega)]) (fun k _ => rfl)
        refine ⟨mF_st F8 oV 0, mO_st (s := stX s (0, (aP s).2) (nI 0, jM)) (mO_X (P := (0, (aP s).2)) (X := (nI 0, jM)) hm.2 ho ⟨Nat.zero_le _, ?_, fun k hk => absurd hk (Nat.not_lt_zero k)⟩ ?_ ?_ (fun K i j k hS hk => ?_)) (vOf s') 0⟩
        · rw [rd_II, if_neg (by omega)]; exact k10
        · rw [rd_II, if_pos ⟨rfl, rfl, rfl, rfl⟩]
        · rw [rd_II, if_neg (by omega)]; exact k17
        · have e := fm7 K i j k (by unfold PMt Pbg; unfold SM at hS; omega)
          exact ⟨by rw [rd_II, if_neg (by omega)]; exact e.1, e.2⟩
