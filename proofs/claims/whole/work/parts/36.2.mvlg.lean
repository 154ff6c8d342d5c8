/-! ===== a VILLAGE taken (reference) ===== -/
theorem by8_i8 (x : Int32) : x.toInt8.toInt32 &&& nI 255 = nI (by8 x) := by
  rw [← by8_eq]
  apply Int32.toBitVec_inj.mp
  apply BitVec.eq_of_getLsbD_eq
  intro i hi
  rw [Int32.toBitVec_and, Int32.toBitVec_and, BitVec.getLsbD_and, BitVec.getLsbD_and]
  by_cases c : i < 8
  · have : (x.toInt8.toInt32).toBitVec.getLsbD i = x.toBitVec.getLsbD i := by
      rw [Int8.toBitVec_toInt32, BitVec.getLsbD_signExtend, Int32.toBitVec_toInt8, BitVec.getLsbD_signExtend]
      simp [c, hi]
    rw [this]
  · have : (nI 255).toBitVec.getLsbD i = false := by
      have h : (nI 255).toBitVec = BitVec.ofNat 32 (2 ^ 8 - 1) := rfl
      rw [h, BitVec.getLsbD_ofNat, Nat.testBit_two_pow_sub_one]
      simp [c]
    rw [this, Bool.and_false, Bool.and_false]
def tOf (q : Tp) (n : Nat) : Tb := (n, fun k => by8 (q.2 k))
theorem tOf_ok {q : Tp} {n : Nat} (h : n ≤ 900) : okT (tOf q n) := ⟨h, fun k => by8_lt _⟩
theorem sm_beg_loop {q : Tp} {n : Nat} (h9 : n ≤ 900) (z2 : jm_V) (d : Nat) : ∀ (r k : Nat) (m : jm_M), k + r = n → (∀ j, j < n → m.1 46 0 0 j = q.2 j) → (∀ j, j < k → m.1 47 0 0 j &&& nI 255 = nI (by8 (q.2 j))) → ∃ m', jm_ev false d 11 2 jc_X12_begins 26 [vM, .inl (nI n), z2, .inl (nI k)] [] m = jm_ev false d 11 2 jc_X12_begins 26 [vM, .inl (nI n), z2, .inl (nI n)] [] m' ∧ (∀ j, j < n → m'.1 47 0 0 j &&& nI 255 = nI (by8 (q.2 j))) ∧ fr (fun K _ _ _ => K = 47) m m'
  | 0, k, m, hr, h1, h2 => ⟨m, by rw [show k = n by omega], fun j hj => h2 j (by omega), .rf⟩
  | r + 1, k, m, hr, h1, h2 => by
    have h46 := h1 k (by omega)
    obtain ⟨m', e1, e2, e3⟩ := sm_beg_loop (q := q) h9 z2 d r (k + 1) (jm_sI m 47 0 0 k ((q.2 k).toInt8.toInt32)) (by omega) (fun j hj => by rw [rd_II, if_neg (by omega)]; exact h1 j hj) (fun j hj => by
      rw [rd_II]
      by_cases e : j = k
      · rw [if_pos ⟨rfl, rfl, rfl, e⟩, e]; exact by8_i8 _
      · rw [if_neg (by omega)]; exact h2 j (by omega))
    refine ⟨m', ?_, e2, (fr_I rfl).tr e3⟩
    rw [← e1]
    refine (l_X12_begins_26 _ _ _ _ _).trans ?_
    rw [jt_df (nI_ge (show k < n by omega) (by omega)), cond_false, jt_in (show k < 900 by omega) (by decide), cond_true, cond_true, jt_ix (by omega), h46, nI_1]
/-- what the beginning of a text changes -/
def Pbg (K _i _j k : Nat) : Prop := K = 47 ∨ (K = 40 ∧ (k = 10 ∨ k = 11 ∨ (12 ≤ k ∧ k ≤ 15) ∨ k = 17 ∨ k = 18 ∨ k = 19))
theorem sm_begins {q : Tp} {n most : Nat} {m : jm_M} (hP : mP q m) (hn : n ≤ q.1) (hm : n ≤ most) (hmo : most < 2 ^ 31) (d : Nat) : ∃ m', jm_sem false (d + 3) jn_X12_begins [vM, .inl (nI n), .inl (nI most)] m = some (.inl 1, m') ∧ mFn (tOf q n) (tkS (tOf q n) 0) m' ∧ m'.1 40 0 0 10 = nI 0 ∧ m'.1 40 0 0 19 = nI 0 ∧ fr Pbg m m' := by
  obtain ⟨p1, p2, p3⟩ := hP
  obtain ⟨m1, a1, a2, a3⟩ := sm_beg_loop (q := q) (n := n) (by omega) (.inl (nI most)) (d + 2) n 0 (jm_sI m 40 0 0 11 (nI n)) (by omega) (fun j hj => by rw [rd_II, if_neg (by omega)]; exact p3 j (by omega)) (fun j hj => by omega)
  generalize hm2 : jm_sI (jm_sI (jm_sI (jm_sI (jm_sI m1 40 0 0 10 0) 40 0 0 18 0) 40 0 0 17 (-1)) 40 0 0 14 0) 40 0 0 19 0 = m2
  have f2 : fr (fun K _ _ k => K = 40 ∧ (k = 10 ∨ k = 14 ∨ k = 17 ∨ k = 18 ∨ k = 19)) m1 m2 := by
    rw [← hm2]
    refine fr_sI (fr_sI (fr_sI (fr_sI (fr_sI .rf ?_) ?_) ?_) ?_) ?_ <;> exact ⟨rfl, by omega⟩
  have hT : mTb (tOf q n) m2 := ⟨tOf_ok (by omega), by rw [(f2 40 0 0 11 (by omega)).1, (a3 40 0 0 11 (show ¬ ((40 : Nat) = 47) by decide)).1, rd_II, if_pos ⟨rfl, rfl, rfl, rfl⟩]; rfl, fun k hk => by rw [(f2 47 0 0 k (by omega)).1]; exact a2 k hk⟩
  have h14 : m2.1 40 0 0 14 = nI 0 := by rw [← hm2]; simp (disch := omega) only [jg_lit, jg_litL, jg_m1, jg_m1L, nI_add, lN_add, pk_mul, jg_sub, jg_subM, jg_addM, jg_addM', jg_negM, jt_in, jt_ix, jt_bi, jt_bl, jt_bv, jt_lt, jg_dT, jg_dF, jt_c, jt_cd, ru_I, ru_L, jg_leI, jg_ltI, jg_eqI, jg_M1, jg_M2, jg_M3, jg_M4, jg_M5, jg_M6, jg_ltT, jg_ltF, jg_leT, jg_leF, jg_eqT, jg_eqF, cond_true, cond_false, ne_eq, not_true_eq_false, not_false_eq_true, decide_true, decide_false, if_true, if_false, and_true, true_and, and_false, false_and, or_true, true_or, or_false, false_or, Nat.reduceEqDiff, reduceIte, Nat.reduceMul, Nat.reduceAdd, Nat.reduceSub, Nat.add_zero, Nat.zero_add, Nat.mul_zero, eq_self_iff_true, jg_not_lt, jg_not_le]
  obtain ⟨m3, b1, b2, b3⟩ := sm_aheadE (T := tOf q n) (e := 0) (Nat.zero_le _) hT h14 d
  refine ⟨m3, ?_, ⟨(tkS_le (T := tOf q n) (Nat.zero_le _)).2, mTb_40 hT b3, b2, ?_, ?_⟩, ?_, ?_, ?_⟩
  · rw [e_X12_begins, show decide (nI n < 0) = false from decide_eq_false (nI_nlt (b := 0) (Nat.zero_le n) (by omega)), cond_false, p2, jt_df (nI_nlt hn (by omega)), cond_false, jt_dt (nI_le hm hmo), cond_true]
    refine a1.trans ?_
    rw [l_X12_begins_26, jt_dt (nI_le (Nat.le_refl n) (by omega)), cond_true, hm2, b1, jt_bv]
  · rw [(b3 40 0 0 18 (by unfold P40; omega)).1, ← hm2]; simp (disch := omega) only [jg_lit, jg_litL, jg_m1, jg_m1L, nI_add, lN_add, pk_mul, jg_sub, jg_subM, jg_addM, jg_addM', jg_negM, jt_in, jt_ix, jt_bi, jt_bl, jt_bv, jt_lt, jg_dT, jg_dF, jt_c, jt_cd, ru_I, ru_L, jg_leI, jg_ltI, jg_eqI, jg_M1, jg_M2, jg_M3, jg_M4, jg_M5, jg_M6, jg_ltT, jg_ltF, jg_leT, jg_leF, jg_eqT, jg_eqF, cond_true, cond_false, ne_eq, not_true_eq_false, not_false_eq_true, decide_true, decide_false, if_true, if_false, and_true, true_and, and_false, false_and, or_true, true_or, or_false, false_or, Nat.reduceEqDiff, reduceIte, Nat.reduceMul, Nat.reduceAdd, Nat.reduceSub, Nat.add_zero, Nat.zero_add, Nat.mul_zero, eq_self_iff_true, jg_not_lt, jg_not_le]
  · rw [(b3 40 0 0 17 (by unfold P40; omega)).1, ← hm2]; simp (disch := omega) only [jg_lit, jg_litL, jg_m1, jg_m1L, nI_add, lN_add, pk_mul, jg_sub, jg_subM, jg_addM, jg_addM', jg_negM, jt_in, jt_ix, jt_bi, jt_bl, jt_bv, jt_lt, jg_dT, jg_dF, jt_c, jt_cd, ru_I, ru_L, jg_leI, jg_ltI, jg_eqI, jg_M1, jg_M2, jg_M3, jg_M4, jg_M5, jg_M6, jg_ltT, jg_ltF, jg_leT, jg_leF, jg_eqT, jg_eqF, cond_true, cond_false, ne_eq, not_true_eq_false, not_false_eq_true, decide_true, decide_false, if_true, if_false, and_true, true_and, and_false, false_and, or_true, true_or, or_false, false_or, Nat.reduceEqDiff, reduceIte, Nat.reduceMul, Nat.reduceAdd, Nat.reduceSub, Nat.add_zero, Nat.zero_add, Nat.mul_zero, eq_self_iff_true, jg_not_lt, jg_not_le]
  · rw [(b3 40 0 0 10 (by unfold P40; omega)).1, ← hm2]; simp (disch := omega) only [jg_lit, jg_litL, jg_m1, jg_m1L, nI_add, lN_add, pk_mul, jg_sub, jg_subM, jg_addM, jg_addM', jg_negM, jt_in, jt_ix, jt_bi, jt_bl, jt_bv, jt_lt, jg_dT, jg_dF, jt_c, jt_cd, ru_I, ru_L, jg_leI, jg_ltI, jg_eqI, jg_M1, jg_M2, jg_M3, jg_M4, jg_M5, jg_M6, jg_ltT, jg_ltF, jg_leT, jg_leF, jg_eqT, jg_eqF, cond_true, cond_false, ne_eq, not_true_eq_false, not_false_eq_true, decide_true, decide_false, if_true, if_false, and_true, true_and, and_false, false_and, or_true, true_or, or_false, false_or, Nat.reduceEqDiff, reduceIte, Nat.reduceMul, Nat.reduceAdd, Nat.reduceSub, Nat.add_zero, Nat.zero_add, Nat.mul_zero, eq_self_iff_true, jg_not_lt, jg_not_le]
  · rw [(b3 40 0 0 19 (by unfold P40; omega)).1, ← hm2]; simp (disch := omega) only [jg_lit, jg_litL, jg_m1, jg_m1L, nI_add, lN_add, pk_mul, jg_sub, jg_subM, jg_addM, jg_addM', jg_negM, jt_in, jt_ix, jt_bi, jt_bl, jt_bv, jt_lt, jg_dT, jg_dF, jt_c, jt_cd, ru_I, ru_L, jg_leI, jg_ltI, jg_eqI, jg_M1, jg_M2, jg_M3, jg_M4, jg_M5, jg_M6, jg_ltT, jg_ltF, jg_leT, jg_leF, jg_eqT, jg_eqF, cond_true, cond_false, ne_eq, not_true_eq_false, not_false_eq_true, decide_true, decide_false, if_true, if_false, and_true, true_and, and_false, false_and, or_true, true_or, or_false, false_or, Nat.reduceEqDiff, reduceIte, Nat.reduceMul, Nat.reduceAdd, Nat.reduceSub, Nat.add_zero, Nat.zero_add, Nat.mul_zero, eq_self_iff_true, jg_not_lt, jg_not_le]
  · exact (((fr_I (by unfold Pbg; omega)).tr (a3.wk (fun K i j k z => by unfold Pbg; omega))).tr (f2.wk (fun K i j k z => by unfold Pbg; omega))).tr (b3.wk (fun K i j k z => by unfold P40 at z; unfold Pbg; omega))
theorem sm_beginsN {q : Tp} {x : Int32} {most : Nat} {m : jm_M} (hP : mP q m) (hm : most < 2 ^ 31) (h : x < 0 ∨ nI q.1 < x ∨ nI most < x) (d : Nat) : jm_sem false (d + 1) jn_X12_begins [vM, .inl x, .inl (nI most)] m = some (.inl 0, m) := by
  obtain ⟨p1, p2, p3⟩ := hP
  rw [e_X12_begins, p2]
  by_cases c1 : x < 0
  · rw [decide_eq_true c1, cond_true]
  · rw [decide_eq_false c1, cond_false]
    by_cases c2 : nI q.1 < x
    · rw [jt_dt c2, cond_true]
    · rw [jt_df c2, cond_false, jt_df (Int32.not_le.mpr ((h.resolve_left c1).resolve_left c2)), cond_false]
theorem sm_zero (z1 z3 z4 : jm_V) (d : Nat) : ∀ (r k : Nat) (m : jm_M), k + r = 770 → (∀ j, j < k → m.1 41 0 0 (3080 + j) = nI 0) → ∃ m', jm_ev false d 11 1 jc_X12_village 19 [vM, z1, .inl (nI k), z3, z4] [] m = jm_ev false d 11 1 jc_X12_village 19 [vM, z1, .inl (nI 770), z3, z4] [] m' ∧ (∀ j, j < 770 → m'.1 41 0 0 (3080 + j) = nI 0) ∧ fr (fun K _ _ k => K = 41 ∧ 3080 ≤ k ∧ k < 3850) m m'
  | 0, k, m, hr, h => ⟨m, by rw [show k = 770 by omega], fun j hj => h j (by omega), .rf⟩
  | r + 1, k, m, hr, h => by
    obtain ⟨m', e1, e2, e3⟩ := sm_zero z1 z3 z4 d r (k + 1) (jm_sI m 41 0 0 (3080 + k) (nI 0)) (by omega) (fun j hj => by
      rw [rd_II]
      by_cases e : j = k
      · rw [if_pos ⟨rfl, rfl, rfl, by rw [e]⟩]
      · rw [if_neg (by omega)]; exact h j (by omega))
    refine ⟨m', ?_, e2, (fr_I ⟨rfl, by omega, by omega⟩).tr e3⟩
    rw [← e1]
    refine (l_X12_village_19 _ _ _ _ _ _).trans ?_
    rw [jt_df (show ¬ (770 : Int32) ≤ nI k from nI_ge (b := 770) (by omega) (by omega)), cond_false, show (3080 : Int32) + nI k = nI (3080 + k) from nI_add 3080 k, i41 (by omega), cond_true, jt_ix (by omega), nI_1]
    rfl
theorem sm_softens (d : Nat) : ∀ (r c : Nat) (m : jm_M), c + r = 27 → 1 ≤ c → (∀ j, 1 ≤ j → j < c → m.1 41 0 0 (3570 + j) = nI (100 + j)) → ∃ m', jm_ev false d 11 0 jc_X12_softens 2 [vM, .inl (nI 3080), .inl (nI c)] [] m = some (jm_j, m') ∧ (∀ j, 1 ≤ j → j ≤ 26 → m'.1 41 0 0 (3570 + j) = nI (100 + j)) ∧ fr (fun K _ _ k => K = 41 ∧ 3571 ≤ k ∧ k < 3597) m m'
  | 0, c, m, hr, h1, h => by
    refine ⟨m, ?_, fun j j1 j2 => h j j1 (by omega), .rf⟩
    rw [l_X12_softens_2, jt_dt (show (26 : Int32) < nI c from nI_lt (a := 26) (by omega) (by omega)), cond_true]
  | r + 1, c, m, hr, h1, h => by
    obtain ⟨m', e1, e2, e3⟩ := sm_softens d r (c + 1) (jm_sI m 41 0 0 (3570 + c) (nI (100 + c))) (by omega) (by omega) (fun j j1 j2 => by
      rw [rd_II]
      by_cases e : j = c
      · rw [if_pos ⟨rfl, rfl, rfl, by rw [e]⟩, e]
      · rw [if_neg (by omega)]; exact h j j1 (by omega))
    refine ⟨m', ?_, e2, (fr_I ⟨rfl, by omega, by omega⟩).tr e3⟩
    rw [← e1]
    refine (l_X12_softens_2 _ _ _ _).trans ?_
    have ix : nI 3080 + 490 + nI c = nI (3570 + c) := by
      show nI 3080 + nI 490 + nI c = _
      rw [nI_add, nI_add]
    rw [jt_df (show ¬ (26 : Int32) < nI c from nI_nlt (a := 26) (by omega) (by omega)), cond_false, ix, i41 (by omega), cond_true, jt_ix (by omega), show (100 : Int32) + nI c = nI (100 + c) from nI_add 100 c, nI_1]
theorem sm_v88 {s : Pv} (ho : okPv s) {q : Nat} (hq : q < 4) (z1 z2 : jm_V) (d : Nat) : ∀ (r w : Nat) (m : jm_M), w + r = 12 → mPv s m → (∀ v, v < w → v < (pW s).length → m.2 42 0 0 (256 + 12 * q + v) = lN (enc (wL (gw (wsOf s) v)))) → ∃ m', jm_ev false (d + 2) 11 1 jc_X12_village 88 [vM, z1, z2, .inl (nI q), .inl (nI w)] [] m = jm_ev false (d + 2) 11 1 jc_X12_village 80 [vM, z1, z2, .inl (nI (q + 1)), .inl (nI 12)] [] m' ∧ mPv s m' ∧ (∀ v, v < (pW s).length → m'.2 42 0 0 (256 + 12 * q + v) = lN (enc (wL (gw (wsOf s) v)))) ∧ fr (fun K _ _ k => (K = 42 ∧ 256 + 12 * q ≤ k ∧ k < 268 + 12 * q) ∨ (K = 40 ∧ k = 26) ∨ K = 49) m m'
  | 0, w, m, hr, hp, hv => by
    have l12 := ho.2.2.1
    have : w = 12 := by omega
    subst this
    refine ⟨m, ?_, hp, fun v hv' => hv v (by omega) hv', .rf⟩
    refine (l_X12_village_88 _ _ _ _ _ _).trans ?_
    rw [jt_dt (show (12 : Int32) ≤ nI 12 by decide), cond_true, nI_1]
  | r + 1, w, m, hr, hp, hv => by
    have l12 := ho.2.2.1
    have n4 := hp.2.1
    have i1 : jm_dec (vp_in 3081 8600) = true := jt_in (n := 3081) (N := 8600) (by decide) (by decide)
    have x1 : jm_ix 3081 = 3081 := jt_ix (n := 3081) (by decide)
    have ix : (256 : Int32) + (12 : Int32) * nI q + nI w = nI (256 + 12 * q + w) := by
      show nI 256 + nI 12 * nI q + nI w = _
      rw [pk_mul, nI_add, nI_add]
    have st := l_X12_village_88 (d + 2) z1 z2 (nI q) (nI w) m
    rw [jt_df (show ¬ (12 : Int32) ≤ nI w from nI_ge (b := 12) (by omega) (by omega)), cond_false, i1, cond_true, x1, n4] at st
    by_cases c : (pW s).length ≤ w
    · rw [jt_dt (nI_le c (by omega)), cond_true, ix, jt_in (show 256 + 12 * q + w < 720 by omega) (by decide), cond_true, jt_ix (by omega), nI_1] at st
      have f1 : fr (fun K _ _ k => (K = 42 ∧ 256 + 12 * q ≤ k ∧ k < 268 + 12 * q) ∨ (K = 40 ∧ k = 26) ∨ K = 49) m (jm_sL m 42 0 0 (256 + 12 * q + w) 0) := fr_L (Or.inl ⟨rfl, by omega, by omega⟩)
      obtain ⟨m', e1, e2, e3, e4⟩ := sm_v88 ho hq z1 z2 d r (w + 1) (jm_sL m 42 0 0 (256 + 12 * q + w) 0) (by omega) (by
        obtain ⟨a1, a2, a3, a4, a5, a6, a7, a8, a9, a10⟩ := hp
        exact ⟨a1, a2, a3, a4, a5, a6, a7, fun k hk => by rw [rd_LL, if_neg (by omega)]; exact a8 k hk, fun k hk => by rw [rd_LL, if_neg (by omega)]; exact a9 k hk, a10⟩) (fun v v1 v2 => by rw [rd_LL, if_neg (by omega)]; exact hv v (by omega) v2)
      exact ⟨m', st.trans e1, e2, e3, f1.tr e4⟩
    · have hw : w < (pW s).length := by omega
      have row := hp.2.2.2.2.2.1 w hw
      have okw : okL (wL (gw (wsOf s) w)) := by
        rw [gw_ws hw]
        have hm : (pW s).getD w ([], 0) ∈ pW s := by
          simp only [List.getD, List.getElem?_eq_getElem hw, Option.getD_some]
          exact List.getElem_mem hw
        exact (ho.2.2.2.2.2.1 _ hm).1.1
      obtain ⟨m1, b1, b2⟩ := sm_formOf okw (s := 3080) (w := w) row.1 (by omega) d
      have b3 := b2.2
      have b1 : jm_sem false (d + 2) jn_X12_formOf [vM, .inl 3080, .inl (nI w)] m = some (.inr (.inl (lN (enc (wL (gw (wsOf s) w))))), m1) := b1
      have f0 : fr (fun K _ _ k => (K = 42 ∧ 256 + 12 * q ≤ k ∧ k < 268 + 12 * q) ∨ (K = 40 ∧ k = 26) ∨ K = 49) m m1 := fr_jk b3 (fun K i j k z => by unfold PM_h at z; omega)
      have f1 : fr (fun K _ _ k => (K = 42 ∧ 256 + 12 * q ≤ k ∧ k < 268 + 12 * q) ∨ (K = 40 ∧ k = 26) ∨ K = 49) m (jm_sL m1 42 0 0 (256 + 12 * q + w) (lN (enc (wL (gw (wsOf s) w))))) := f0.tr (fr_L (Or.inl ⟨rfl, by omega, by omega⟩))
      rw [jt_df (nI_ge hw (by omega)), cond_false, b1, jt_bl, ix, jt_in (show 256 + 12 * q + w < 720 by omega) (by decide), cond_true, jt_ix (by omega), nI_1] at st
      obtain ⟨m', e1, e2, e3, e4⟩ := sm_v88 ho hq z1 z2 d r (w + 1) (jm_sL m1 42 0 0 (256 + 12 * q + w) (lN (enc (wL (gw (wsOf s) w))))) (by omega) (by
        have h1 : mPv s m1 := mPv_k ho.2.2.1 ho.1 ho.2.1 hp (fun k _ _ => (b3 41 k (by unfold PM_h; omega) 0 0).1) (fun k _ _ => (b3 42 k (by unfold PM_h; omega) 0 0).2) (b3 40 19 (by unfold PM_h; omega) 0 0).1
        obtain ⟨a1, a2, a3, a4, a5, a6, a7, a8, a9, a10⟩ := h1
        exact ⟨a1, a2, a3, a4, a5, a6, a7, fun k hk => by rw [rd_LL, if_neg (by omega)]; exact a8 k hk, fun k hk => by rw [rd_LL, if_neg (by omega)]; exact a9 k hk, a10⟩) (fun v v1 v2 => by
        rw [rd_LL]
        by_cases e : v = w
        · rw [if_pos ⟨rfl, rfl, rfl, by rw [e]⟩, e]
        · rw [if_neg (by omega), (b3 42 _ (by unfold PM_h; omega) 0 0).2]; exact hv v (by omega) v2)
      exact ⟨m', st.trans e1, e2, e3, f1.tr e4⟩
theorem sm_v80 {s : Pv} (ho : okPv s) (z1 z2 : jm_V) (d : Nat) : ∀ (r q : Nat) (z4 : jm_V) (m : jm_M), q + r = 4 → mPv s m → (∀ p v, p < q → v < (pW s).length → m.2 42 0 0 (256 + 12 * p + v) = lN (enc (wL (gw (wsOf s) v)))) → ∃ m' y4, jm_ev false (d + 2) 11 1 jc_X12_village 80 [vM, z1, z2, .inl (nI q), z4] [] m = jm_ev false (d + 2) 11 1 jc_X12_village 151 [vM, z1, z2, .inl (nI 0), y4] [] m' ∧ mPv s m' ∧ (∀ p v, p < 4 → v < (pW s).length → m'.2 42 0 0 (256 + 12 * p + v) = lN (enc (wL (gw (wsOf s) v)))) ∧ fr (fun K _ _ k => (K = 42 ∧ 256 ≤ k ∧ k < 304) ∨ (K = 40 ∧ k = 26) ∨ K = 49) m m'
  | 0, q, z4, m, hr, hp, hv => by
    have : q = 4 := by omega
    subst this
    refine ⟨m, z4, ?_, hp, fun p v h1 h2 => hv p v h1 h2, .rf⟩
    refine (l_X12_village_80 _ _ _ _ _ _).trans ?_
    rw [jt_dt (show (4 : Int32) ≤ nI 4 by decide), cond_true]
    rfl
  | r + 1, q, z4, m, hr, hp, hv => by
    have l12 := ho.2.2.1
    obtain ⟨m1, a1, a2, a3, a4⟩ := sm_v88 ho (show q < 4 by omega) z1 z2 d 12 0 m rfl hp (fun v h1 => by omega)
    obtain ⟨m', y4, e1, e2, e3, e4⟩ := sm_v80 ho z1 z2 d r (q + 1) (.inl (nI 12)) m1 (by omega) a2 (fun p v h1 h2 => by
      by_cases e : p = q
      · rw [e]; exact a3 v h2
      · rw [(a4 42 0 0 _ (by omega)).2]; exact hv p v (by omega) h2)
    refine ⟨m', y4, ?_, e2, e3, (a4.wk (fun K i j k z => by omega)).tr e4⟩
    rw [← e1, ← a1]
    refine (l_X12_village_80 _ _ _ _ _ _).trans ?_
    rw [jt_df (show ¬ (4 : Int32) ≤ nI q from nI_ge (b := 4) (by omega) (by omega)), cond_false]
    rfl
theorem sm_v151 (z1 z2 z4 : jm_V) (d : Nat) : ∀ (r k : Nat) (m : jm_M), k + r = 770 → ∃ m', jm_ev false d 11 1 jc_X12_village 151 [vM, z1, z2, .inl (nI k), z4] [] m = jm_ev false d 11 1 jc_X12_village 182 [vM, z1, z2, .inl (nI 0), z4] [] m' ∧ (∀ j, k ≤ j → j < 770 → m'.1 41 0 0 j = m.1 41 0 0 (3080 + j)) ∧ fr (PA k (770 - k)) m m'
  | 0, k, m, hr => by
    refine ⟨m, ?_, fun j h1 h2 => by omega, .rf⟩
    refine (l_X12_village_151 _ _ _ _ _ _).trans ?_
    rw [show k = 770 by omega, jt_dt (show (770 : Int32) ≤ nI 770 by decide), cond_true]
    rfl
  | r + 1, k, m, hr => by
    obtain ⟨m', e1, e2, e3⟩ := sm_v151 z1 z2 z4 d r (k + 1) (jm_sI m 41 0 0 k (m.1 41 0 0 (3080 + k))) (by omega)
    refine ⟨m', ?_, fun j h1 h2 => ?_, (fr_I (by unfold PA; omega)).tr (e3.wk (fun K i j q z => by unfold PA at z ⊢; omega))⟩
    · rw [← e1]
      refine (l_X12_village_151 _ _ _ _ _ _).trans ?_
      rw [jt_df (show ¬ (770 : Int32) ≤ nI k from nI_ge (b := 770) (by omega) (by omega)), cond_false, show (3080 : Int32) + nI k = nI (3080 + k) from nI_add 3080 k, i41 (by omega), cond_true, i41 (by omega), cond_true, jt_ix (by omega), jt_ix (by omega), nI_1]
    · by_cases e : j = k
      · subst e
        rw [(e3 41 0 0 j (by unfold PA; omega)).1, rd_II, if_pos ⟨rfl, rfl, rfl, rfl⟩]
      · rw [e2 j (by omega) h2, rd_II, if_neg (by omega)]
theorem sm_v182 (z1 z2 z4 : jm_V) (d : Nat) : ∀ (r k : Nat) (m : jm_M), k + r = 64 → ∃ m', jm_ev false d 11 1 jc_X12_village 182 [vM, z1, z2, .inl (nI k), z4] [] m = jm_ev false d 11 1 jc_X12_village 182 [vM, z1, z2, .inl (nI 64), z4] [] m' ∧ (∀ j, k ≤ j → j < 64 → m'.2 42 0 0 j = m.2 42 0 0 (256 + j)) ∧ fr (fun K _ _ q => K = 42 ∧ k ≤ q ∧ q < 64) m m'
  | 0, k, m, hr => ⟨m, by rw [show k = 64 by omega], fun j h1 h2 => by omega, .rf⟩
  | r + 1, k, m, hr => by
    obtain ⟨m', e1, e2, e3⟩ := sm_v182 z1 z2 z4 d r (k + 1) (jm_sL m 42 0 0 k (m.2 42 0 0 (256 + k))) (by omega)
    refine ⟨m', ?_, fun j h1 h2 => ?_, (fr_L ⟨rfl, by omega, by omega⟩).tr (e3.wk (fun K i j q z => by omega))⟩
    · rw [← e1]
      refine (l_X12_village_182 _ _ _ _ _ _).trans ?_
      rw [jt_df (show ¬ (64 : Int32) ≤ nI k from nI_ge (b := 64) (by omega) (by omega)), cond_false, show (256 : Int32) + nI k = nI (256 + k) from nI_add 256 k, jt_in (show 256 + k < 720 by omega) (by decide), cond_true, jt_in (show k < 720 by omega) (by decide), cond_true, jt_ix (by omega), jt_ix (by omega), nI_1]
    · by_cases e : j = k
      · subst e
        rw [(e3 42 0 0 j (by omega)).2, rd_LL, if_pos ⟨rfl, rfl, rfl, rfl⟩]
      · rw [e2 j (by omega) h2, rd_LL, if_neg (by omega)]
