/-! ===== law ===== -/
def vlLw (V : Vl) (R : List Rl) : Vl := (vlM V, vlP V, vlD V, vlW V, vlK V, vlS V, R)
theorem okV_law {V : Vl} (h : okV V) {R : List Rl} (hR : okR R) : okV (vlLw V R) := ⟨h.1, h.2.1, h.2.2.1, h.2.2.2.1, h.2.2.2.2.1, h.2.2.2.2.2.1, hR⟩
theorem xV_law {V : Vl} {R : List Rl} {m m' : jm_M} (h : xV V 0 m) (hl : xL R 0 m') (f : fr (PLw 0) m m') : xV (vlLw V R) 0 m' := by
  obtain ⟨⟨h1, h2, h3, h4, h5, h6, h7⟩, h8⟩ := h
  have k := fun K j k (hK : K < 13 ∨ 17 < K) => f K 0 j k (by unfold PLw; omega)
  exact ⟨⟨by rw [(k 10 0 3 (by omega)).1]; exact h1, by rw [(k 10 0 4 (by omega)).1]; exact h2, by rw [(k 10 0 5 (by omega)).1]; exact h3, by rw [(k 10 0 6 (by omega)).1]; exact h4, hl, fun c a b => by rw [(k 19 0 c (by omega)).1]; exact h6 c a b, fun s w hs hw => by rw [(k 18 0 _ (by omega)).2]; exact h7 s w hs hw⟩, fun j hj => xW_k (h8 j hj) (fun q => (k 12 j q (by omega)).1) (fun q => (k 12 j q (by omega)).2)⟩
theorem c_law (x : Int32) : jcall jn_X11_law jn_X12_law [.inl x] := by
  intro s μ ho hx hm
  have xP' : xP (aP s) μ := hx.2.2.2.1
  have mP' : mP (aP s) μ := hm.2.2.2.1
  have t9 := xP'.1
  have x12 := xP'.2.1
  have l12 := ho.1.2.2.2.1.1
  have bad : (x < 0 ∨ nI (aP s).1 < x ∨ nI 300 < x) → ∃ v s' μa μb, okA s' ∧ jm_sem false 99 jn_X11_law [vX, .inl x] μ = some (v, μa) ∧ jm_sem false 99 jn_X12_law [vM, .inl x] μ = some (v, μb) ∧ xA s' μa ∧ mA s' μb := by
    intro h'
    refine jcall_no ho hx hm (nI 1) (v := .inl jM) ?_ ?_
    · rw [e_X11_law, x12]
      by_cases c : x < 0
      · rw [decide_eq_true c, cond_true]; simp (disch := omega) only [jg_lit, jg_litL, jg_m1, jg_m1L, nI_add, lN_add, pk_mul, jg_sub, jg_subM, jg_addM, jg_addM', jg_negM, jt_in, jt_ix, jt_bi, jt_bl, jt_bv, jt_lt, jg_dT, jg_dF, jt_c, jt_cd, ru_I, ru_L, jg_leI, jg_ltI, jg_eqI, jg_M1, jg_M2, jg_M3, jg_M4, jg_M5, jg_M6, jg_ltT, jg_ltF, jg_leT, jg_leF, jg_eqT, jg_eqF, cond_true, cond_false, ne_eq, not_true_eq_false, not_false_eq_true, decide_true, decide_false, if_true, if_false, and_true, true_and, and_false, false_and, or_true, true_or, or_false, false_or, Nat.reduceEqDiff, reduceIte, Nat.reduceMul, Nat.reduceAdd, Nat.reduceSub, Nat.add_zero, Nat.zero_add, Nat.mul_zero, eq_self_iff_true, jg_not_lt, jg_not_le, sx_fail]
      · rw [decide_eq_false c, cond_false]
        by_cases c2 : nI (aP s).1 < x
        · rw [jt_dt c2, cond_true]; simp (disch := omega) only [jg_lit, jg_litL, jg_m1, jg_m1L, nI_add, lN_add, pk_mul, jg_sub, jg_subM, jg_addM, jg_addM', jg_negM, jt_in, jt_ix, jt_bi, jt_bl, jt_bv, jt_lt, jg_dT, jg_dF, jt_c, jt_cd, ru_I, ru_L, jg_leI, jg_ltI, jg_eqI, jg_M1, jg_M2, jg_M3, jg_M4, jg_M5, jg_M6, jg_ltT, jg_ltF, jg_leT, jg_leF, jg_eqT, jg_eqF, cond_true, cond_false, ne_eq, not_true_eq_false, not_false_eq_true, decide_true, decide_false, if_true, if_false, and_true, true_and, and_false, false_and, or_true, true_or, or_false, false_or, Nat.reduceEqDiff, reduceIte, Nat.reduceMul, Nat.reduceAdd, Nat.reduceSub, Nat.add_zero, Nat.zero_add, Nat.mul_zero, eq_self_iff_true, jg_not_lt, jg_not_le, sx_fail]
        · rw [jt_df c2, cond_false, jt_df (show ¬ x ≤ 300 from Int32.not_le.mpr ((h'.resolve_left c).resolve_left c2)), cond_false]; simp (disch := omega) only [jg_lit, jg_litL, jg_m1, jg_m1L, nI_add, lN_add, pk_mul, jg_sub, jg_subM, jg_addM, jg_addM', jg_negM, jt_in, jt_ix, jt_bi, jt_bl, jt_bv, jt_lt, jg_dT, jg_dF, jt_c, jt_cd, ru_I, ru_L, jg_leI, jg_ltI, jg_eqI, jg_M1, jg_M2, jg_M3, jg_M4, jg_M5, jg_M6, jg_ltT, jg_ltF, jg_leT, jg_leF, jg_eqT, jg_eqF, cond_true, cond_false, ne_eq, not_true_eq_false, not_false_eq_true, decide_true, decide_false, if_true, if_false, and_true, true_and, and_false, false_and, or_true, true_or, or_false, false_or, Nat.reduceEqDiff, reduceIte, Nat.reduceMul, Nat.reduceAdd, Nat.reduceSub, Nat.add_zero, Nat.zero_add, Nat.mul_zero, eq_self_iff_true, jg_not_lt, jg_not_le, sx_fail]
    · have bn := sm_beginsN mP' (by decide) h' 97
      have bn : jm_sem false 98 jn_X12_begins [vM, .inl x, .inl 300] μ = some (.inl 0, μ) := bn
      rw [e_X12_law, bn, jt_bi, show decide ((0 : Int32) ≠ 0) = false by decide, cond_false]; simp (disch := omega) only [jg_lit, jg_litL, jg_m1, jg_m1L, nI_add, lN_add, pk_mul, jg_sub, jg_subM, jg_addM, jg_addM', jg_negM, jt_in, jt_ix, jt_bi, jt_bl, jt_bv, jt_lt, jg_dT, jg_dF, jt_c, jt_cd, ru_I, ru_L, jg_leI, jg_ltI, jg_eqI, jg_M1, jg_M2, jg_M3, jg_M4, jg_M5, jg_M6, jg_ltT, jg_ltF, jg_leT, jg_leF, jg_eqT, jg_eqF, cond_true, cond_false, ne_eq, not_true_eq_false, not_false_eq_true, decide_true, decide_false, if_true, if_false, and_true, true_and, and_false, false_and, or_true, true_or, or_false, false_or, Nat.reduceEqDiff, reduceIte, Nat.reduceMul, Nat.reduceAdd, Nat.reduceSub, Nat.add_zero, Nat.zero_add, Nat.mul_zero, eq_self_iff_true, jg_not_lt, jg_not_le, sm_refuse]
  rcases in_cases x (show 301 < 2 ^ 31 by decide) with h | ⟨n, hn, rfl⟩
  · exact bad (h.imp id (fun z => Or.inr (Int32.lt_of_lt_of_le (nI_lt (by decide) (by decide)) z)))
  by_cases hn2 : (aP s).1 < n
  · exact bad (Or.inr (Or.inl (nI_lt hn2 (by omega))))
  · have hn3 : n ≤ (aP s).1 := by omega
    have hT : (tOf (aP s) n).1 ≤ 300 := by show n ≤ 300; omega
    obtain ⟨m1, a1, a2, a3⟩ := sx_open xP' hn3 89
    have f2 : fr (fun K _ _ k => K = 5 ∨ (K = 0 ∧ k = 12)) μ (jm_sI m1 0 0 0 12 0) := (a3.wk (fun K i j k z => Or.inl z)).tr (fr_I (Or.inr ⟨rfl, rfl⟩))
    have h2 : xF (tOf (aP s) n) (tkS (tOf (aP s) n) 0) (jm_sI m1 0 0 0 12 0) := xF_fr (P := fun K _ _ _ => K = 0) a2 (fr_I rfl) (fun k => by omega) (fun k => by omega)
    obtain ⟨m3, b1, b2, b3⟩ := sx_lawAll hT h2 66
    have x0 : jm_sem false 99 jn_X11_law [vX, .inl (nI n)] μ = _ := e_X11_law 98 (nI n) μ
    rw [show decide (nI n < 0) = false from decide_eq_false (nI_nlt (b := 0) (Nat.zero_le n) (by omega)), cond_false, x12, jt_df (nI_nlt hn3 (by omega)), cond_false, jt_dt (show nI n ≤ 300 from nI_le (a := n) (b := 300) (by omega) (by decide)), cond_true, a1, jt_bv, b1, jt_bi, e_X11_keepFault, jt_bv] at x0
    have f3 : fr (fun K i j k => PLq K i j k ∨ K = 5 ∨ (K = 0 ∧ k = 12)) μ m3 := (f2.wk (fun K i j k z => Or.inr z)).tr (b3.wk (fun K i j k z => Or.inl z))
    have v3 : xV (aV s) 0 m3 := xV_fr hx.1 l12 f3 (fun K j k hK hj z => by unfold PLq at z; omega)
    obtain ⟨n1, c1, c2, c3, c4, c5⟩ := sm_begins (most := 300) mP' hn3 (by omega) (by decide) 95
    have i83 : jm_ix (3083 : Int32) = 3083 := jt_ix (n := 3083) (by decide)
    have n83 : jm_dec (vp_in (3083 : Int32) 8600) = true := jt_in (n := 3083) (by decide) (by decide)
    generalize hn2' : jm_sI (jm_sI (jm_sI n1 41 0 0 3083 0) 40 0 0 23 0) 40 0 0 24 0 = n2
    have g2 : fr (fun K _ _ k => (K = 41 ∧ k = 3083) ∨ (K = 40 ∧ (k = 23 ∨ k = 24))) n1 n2 := by
      rw [← hn2']
      exact fr_sI (fr_sI (fr_sI .rf (by omega)) (by omega)) (by omega)
    have h3 : mFn (tOf (aP s) n) (tkS (tOf (aP s) n) 0) n2 := mFn_fr c2 g2 (fun k h1 h2 z => by omega) (fun k z => by omega)
    have lp := sm_l38 hT (.inl (nI n)) jm_j 85 ((tOf (aP s) n).1 + 1) (tkS (tOf (aP s) n) 0) 0 [] n2 (by omega) h3 ⟨by rw [← hn2', rd_II, if_pos ⟨rfl, rfl, rfl, rfl⟩]; rfl, fun k hk => absurd hk (Nat.not_lt_zero k)⟩ ⟨by rw [← hn2', rd_II, if_neg (by omega), rd_II, if_neg (by omega), rd_II, if_pos ⟨rfl, rfl, rfl, rfl⟩]; rfl, fun r hr => absurd hr (Nat.not_lt_zero r)⟩ (by rw [← hn2', rd_II, if_neg (by omega), rd_II, if_pos ⟨rfl, rfl, rfl, rfl⟩]; rfl) ⟨Nat.zero_le _, Nat.zero_le _, fun r hr => absurd hr List.not_mem_nil⟩ (Nat.zero_le _) (Nat.zero_le _)
    have y0 : jm_sem false 99 jn_X12_law [vM, .inl (nI n)] μ = jm_ev false 98 11 1 jc_X12_law 38 [vM, .inl (nI n), .inl (nI 1), jm_j] [] n2 := by
      have c1 : jm_sem false 98 jn_X12_begins [vM, .inl (nI n), .inl 300] μ = some (.inl 1, n1) := c1
      rw [e_X12_law, c1, jt_bi, show decide ((1 : Int32) ≠ 0) = true by decide, cond_true, n83, cond_true, i83, hn2']
      rfl
    have fm2 : fr (fun K i j k => PMq K i j k ∨ Pbg K i j k) μ n2 := (c5.wk (fun K i j k z => Or.inr z)).tr (g2.wk (fun K i j k z => Or.inl (by unfold PMq; omega)))
    have cell3 : n2.1 41 0 0 3 = nI (vlR (aV s)).length := by
      rw [(fm2 41 0 0 3 (by unfold PMq Pbg; omega)).1]
      exact hm.1.2.2.2.1
    cases hr : lAll (tOf (aP s) n) ((tOf (aP s) n).1 + 1) [] (tkS (tOf (aP s) n) 0) 0 with
    | inl f =>
      rw [hr] at b2 lp x0
      obtain ⟨q1, q2, q3, q4⟩ := b2
      obtain ⟨n4, u1, ⟨u2, u3, u4, u5⟩, u6⟩ := lp
      have y1 := y0.trans (u1 _ cell3)
      have k9 : (jm_sI m3 0 0 0 15 (nI f.1)).1 5 0 0 9 = nI f.2 := by rw [rd_II, if_neg (by omega)]; exact q4
      rw [q3, k9, show decide (reL (.inl f) ≠ 0) = false from (by decide : decide (nI 0 ≠ 0) = false), cond_false, sx_fail, jt_bi] at x0
      refine ⟨.inl jM, stV (stX s (0, (aP s).2) (nI f.1, nI f.2)) (aV s) 9, _, _, okA_V (s := stX s (0, (aP s).2) (nI f.1, nI f.2)) ho ho.1 9, x0, y1, ?_, ?_⟩
      · refine ⟨xV_st (xV_k0 (xV_k0 v3)) 9, xO_st (s := stX s (0, (aP s).2) (nI f.1, nI f.2)) (xO_X (P := (0, (aP s).2)) (X := (nI f.1, nI f.2)) hx.2 ho ⟨Nat.zero_le _, ?_, fun k hk => absurd hk (Nat.not_lt_zero k)⟩ ?_ ?_ (fun K i j k hS h4 hk => ?_)) ho (aV s) 9⟩
        · rw [rd_II, if_neg (by omega), rd_II, if_neg (by omega), (b3 0 0 0 12 (by unfold PLq; omega)).1, rd_II, if_pos ⟨rfl, rfl, rfl, rfl⟩]; rfl
        · rw [rd_II, if_neg (by omega), rd_II, if_pos ⟨rfl, rfl, rfl, rfl⟩]
        · rw [rd_II, if_pos ⟨rfl, rfl, rfl, rfl⟩]
        · have e := f3 K i j k (by unfold PLq; unfold SO at hS; omega)
          exact ⟨by rw [rd_II, if_neg (by omega), rd_II, if_neg (by omega)]; exact e.1, e.2⟩
      · have fm4 : fr (fun K i j k => PMq K i j k ∨ Pbg K i j k) μ n4 := fm2.tr (u6.wk (fun K i j k z => Or.inl z))
        have F4 : mF (aV s) n4 := mF_fr hm.1 ho.1 fm4 (fun k hk z => by unfold PMq Pbg at z; omega) (fun k hk z => by unfold PMq Pbg at z; omega)
        have F5 : mF (aV s) (jm_sI n4 40 0 0 16 (nI f.1)) := mF_k F4 ho.1 (fun k _ => by rw [rd_II, if_neg (by omega)]) (fun k _ => rfl)
        refine ⟨mF_st F5 ho.1 9, mO_st (s := stX s (0, (aP s).2) (nI f.1, nI f.2)) (mO_X (P := (0, (aP s).2)) (X := (nI f.1, nI f.2)) hm.2 ho ⟨Nat.zero_le _, ?_, fun k hk => absurd hk (Nat.not_lt_zero k)⟩ ?_ ?_ (fun K i j k hS hk => ?_)) (aV s) 9⟩
        · rw [rd_II, if_neg (by omega), (u6 40 0 0 10 (by unfold PMq; omega)).1, (g2 40 0 0 10 (by omega)).1, c3]
        · rw [rd_II, if_pos ⟨rfl, rfl, rfl, rfl⟩]
        · rw [rd_II, if_neg (by omega)]; exact u5
        · have e := fm4 K i j k (by unfold PMq Pbg; unfold SM at hS; omega)
          exact ⟨by rw [rd_II, if_neg (by omega)]; exact e.1, e.2⟩
    | inr R =>
      rw [hr] at b2 lp x0
      obtain ⟨⟨b, hF⟩, oR, vs⟩ := b2
      have q3 := hF.2.2.2.1
      have q4 := hF.2.2.2.2
      have r12 := oR.1
      have r150 := oR.2.1
      have k9 : (jm_sI m3 0 0 0 15 (nI 0)).1 5 0 0 9 = jM := by rw [rd_II, if_neg (by omega)]; exact q4
      have vs' : xL R 1 (jm_sI (jm_sI m3 0 0 0 15 (nI 0)) 0 0 0 16 jM) := by
        obtain ⟨w1, w2, w3, w4, w5⟩ := vs
        have e : ∀ K i j k, K ≠ 0 → (jm_sI (jm_sI m3 0 0 0 15 (nI 0)) 0 0 0 16 jM).1 K i j k = m3.1 K i j k := fun K i j k hK => by rw [rd_II, if_neg (by omega), rd_II, if_neg (by omega)]
        exact ⟨by rw [e _ _ _ _ (by decide)]; exact w1, by rw [e _ _ _ _ (by decide)]; exact w2, by rw [e _ _ _ _ (by decide)]; exact w3, fun k hk => by rw [e _ _ _ _ (by decide), e _ _ _ _ (by decide)]; exact w4 k hk, fun r hr => by rw [e _ _ _ _ (by decide), e _ _ _ _ (by decide)]; exact w5 r hr⟩
      obtain ⟨m5, r1, r2, r3⟩ := sx_lawCopy vs' oR (i := 0) (by decide) 97
      have n5 : m5.1 13 0 0 5 = nI R.length := r2.2.1
      rw [q3, k9, show decide (reL (.inr R) ≠ 0) = true from (by decide : decide (nI 1 ≠ 0) = true), cond_true, r1, jt_bv, n5, sx_give, jt_bi] at x0
      have V5 : xV (vlLw (aV s) R) 0 m5 := xV_law (xV_k0 (q := 16) (x := jM) (xV_k0 (q := 15) (x := nI 0) v3)) r2 r3
      obtain ⟨n4, b', y2, u1, u2, u3, u4, -, u5⟩ := lp
      obtain ⟨n6, w1, w2, w3⟩ := sm_l82 (.inl (nI n)) y2 98 250 520 (jm_sI n4 41 0 0 3 (nI R.length)) rfl
      have c41 : ∀ k, 520 ≤ k → k < 770 → n6.1 41 0 0 k = n4.1 41 0 0 (3080 + k) := fun k h1 h2 => by rw [w2 k h1 h2, rd_II, if_neg (by omega)]
      have lo41 : ∀ k, k < 520 → k ≠ 3 → n6.1 41 0 0 k = μ.1 41 0 0 k := fun k h1 h2 => by
        rw [(w3 41 0 0 k (by unfold PA; omega)).1, rd_II, if_neg (by omega), (u5 41 0 0 k (by unfold PMq; omega)).1, (fm2 41 0 0 k (by unfold PMq Pbg; omega)).1]
      have c3' : n6.1 41 0 0 3 = nI R.length := by rw [(w3 41 0 0 3 (by unfold PA; omega)).1, rd_II, if_pos ⟨rfl, rfl, rfl, rfl⟩]
      have lo42 : ∀ k, n6.2 42 0 0 k = μ.2 42 0 0 k := fun k => by
        rw [(w3 42 0 0 k (by unfold PA; omega)).2, rd_IL, (u5 42 0 0 k (by unfold PMq; omega)).2, (fm2 42 0 0 k (by unfold PMq Pbg; omega)).2]
      have F6 : mF (vlLw (aV s) R) n6 := by
        obtain ⟨⟨h1, h2', h3', h4, h5⟩, hN, hS, hL⟩ := hm.1
        have okw := ho.1.2.2.2.1
        refine ⟨⟨by rw [lo41 0 (by omega) (by omega)]; exact h1, by rw [lo41 _ (by omega) (by omega)]; exact h2', by rw [lo41 _ (by omega) (by omega)]; exact h3', by rw [lo41 _ (by omega) (by omega)]; exact h4, fun j hj => ?_⟩, fun q w hq hw => by rw [lo42]; exact hN q w hq hw, fun c c1 c2 => by rw [lo41 _ (by omega) (by omega)]; exact hS c c1 c2, c3', fun k hk => ?_, fun r hr => ⟨?_, ?_, ?_⟩⟩
        · have hj : j < (vlW (aV s)).length := hj
          have hX := (okw.2.1 j hj).1.2.1
          show mW (gw (vlW (aV s)) j) (0 + 10 + 40 * j) n6
          exact mW_cp (h5 j hj) (by omega) (fun k hk => by rw [lo41 _ (by omega) (by omega)])
        · have hk : k < (cs R).length := hk
          show n6.1 41 0 0 (560 + k) = nI (whatM ((cs R).getD k (0, 0)))
          rw [c41 _ (by omega) (by omega), show 3080 + (560 + k) = 3640 + k by omega]
          exact u3.2 k hk
        · have hr : r < R.length := hr
          rw [c41 _ (by omega) (by omega), show 3080 + (520 + 3 * r) = 3600 + 3 * r by omega]
          exact (u4.2 r hr).1
        · have hr : r < R.length := hr
          rw [c41 _ (by omega) (by omega), show 3080 + (521 + 3 * r) = 3600 + 3 * r + 1 by omega]
          exact (u4.2 r hr).2.1
        · have hr : r < R.length := hr
          rw [c41 _ (by omega) (by omega), show 3080 + (522 + 3 * r) = 3600 + 3 * r + 2 by omega]
          exact (u4.2 r hr).2.2
      have fm6 : fr (fun K i j k => PMq K i j k ∨ Pbg K i j k ∨ (K = 41 ∧ k < 770)) μ n6 := by
        refine (((fm2.wk (fun K i j k z => ?_)).tr (u5.wk (fun K i j k z => ?_))).tr (fr_I (Or.inr (Or.inr ⟨rfl, by omega⟩)))).tr (w3.wk (fun K i j k z => ?_))
        · rcases z with z | z
          · exact Or.inl z
          · exact Or.inr (Or.inl z)
        · exact Or.inl z
        · unfold PA at z; omega
      have k18 : n6.1 40 0 0 18 = nI 0 := by rw [(w3 40 0 0 18 (by unfold PA; omega)).1, rd_II, if_neg (by omega)]; exact u2.2.2.2.1
      have k17 : n6.1 40 0 0 17 = jM := by rw [(w3 40 0 0 17 (by unfold PA; omega)).1, rd_II, if_neg (by omega)]; exact u2.2.2.2.2
      have k10 : n6.1 40 0 0 10 = nI 0 := by rw [(w3 40 0 0 10 (by unfold PA; omega)).1, rd_II, if_neg (by omega), (u5 40 0 0 10 (by unfold PMq; omega)).1, (g2 40 0 0 10 (by omega)).1, c3]
      have tk := sm_taken (x := R.length) (f := 0) (by decide) k18 96
      rw [if_pos rfl] at tk
      have i3 : jm_dec (vp_in 3 8600) = true := jt_in (n := 3) (N := 8600) (by decide) (by decide)
      have ix3 : jm_ix 3 = 3 := jt_ix (n := 3) (by decide)
      have y1 : jm_sem false 99 jn_X12_law [vM, .inl (nI n)] μ = some (.inl (nI R.length), jm_sI (jm_sI n6 40 0 0 16 (nI 0)) 40 0 0 2 0) := by
        refine ((y0.trans u1).trans w1).trans ?_
        rw [l_X12_law_82, jt_dt (show (770 : Int32) ≤ nI 770 by decide), cond_true, i3, cond_true, ix3, c3', tk, jt_bi]
      refine ⟨.inl (nI R.length), stV (stX s (0, (aP s).2) (nI 0, jM)) (vlLw (aV s) R) 0, _, _, okA_V (s := stX s (0, (aP s).2) (nI 0, jM)) ho (okV_law ho.1 oR) 0, x0, y1, ?_, ?_⟩
      · refine ⟨xV_st V5 0, xO_st (s := stX s (0, (aP s).2) (nI 0, jM)) (xO_X (P := (0, (aP s).2)) (X := (nI 0, jM)) hx.2 ho ⟨Nat.zero_le _, ?_, fun k hk => absurd hk (Nat.not_lt_zero k)⟩ ?_ ?_ (fun K i j k hS h4 hk => ?_)) ho (vlLw (aV s) R) 0⟩
        · rw [(r3 0 0 0 12 (by unfold PLw; omega)).1, rd_II, if_neg (by omega), rd_II, if_neg (by omega), (b3 0 0 0 12 (by unfold PLq; omega)).1, rd_II, if_pos ⟨rfl, rfl, rfl, rfl⟩]; rfl
        · rw [(r3 0 0 0 15 (by unfold PLw; omega)).1, rd_II, if_neg (by omega), rd_II, if_pos ⟨rfl, rfl, rfl, rfl⟩]
        · rw [(r3 0 0 0 16 (by unfold PLw; omega)).1, rd_II, if_pos ⟨rfl, rfl, rfl, rfl⟩]
        · have e := f3 K i j k (by unfold PLq; unfold SO at hS; omega)
          have e2 := r3 K i j k (by unfold PLw; unfold SO at hS; omega)
          exact ⟨by rw [e2.1, rd_II, if_neg (by omega), rd_II, if_neg (by omega)]; exact e.1, e2.2.trans e.2⟩
      · have oV := okV_law ho.1 oR
        have F8 : mF (vlLw (aV s) R) (jm_sI n6 40 0 0 16 (nI 0)) := mF_k F6 oV (fun k _ => by rw [rd_II, if_neg (by omega)]) (fun k _ => rfl)
        refine ⟨mF_st F8 oV 0, mO_st (s := stX s (0, (aP s).2) (nI 0, jM)) (mO_X (P := (0, (aP s).2)) (X := (nI 0, jM)) hm.2 ho ⟨Nat.zero_le _, ?_, fun k hk => absurd hk (Nat.not_lt_zero k)⟩ ?_ ?_ (fun K i j k hS hk => ?_)) (vlLw (aV s) R) 0⟩
        · rw [rd_II, if_neg (by omega)]; exact k10
        · rw [rd_II, if_pos ⟨rfl, rfl, rfl, rfl⟩]
        · rw [rd_II, if_neg (by omega)]; exact k17
        · have e := fm6 K i j k (by unfold PMq Pbg; unfold SM at hS; omega)
          exact ⟨by rw [rd_II, if_neg (by omega)]; exact e.1, e.2⟩
