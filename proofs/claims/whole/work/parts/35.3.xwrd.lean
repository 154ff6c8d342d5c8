/-! ===== a VILLAGE read (class): words ===== -/
theorem cP_set {P Q : Nat → Bool} {j : Nat} (hP : P j = false) (hQ : Q j = true) (h : ∀ i, i ≠ j → P i = Q i) : ∀ n, j < n → (List.range n).countP Q = (List.range n).countP P + 1
  | 0, hj => by omega
  | n + 1, hj => by
    rw [List.range_succ, List.countP_append, List.countP_append, List.countP_singleton, List.countP_singleton]
    by_cases e : j = n
    · subst e
      have : (List.range j).countP Q = (List.range j).countP P := List.countP_congr (fun i hi => by rw [h i (by have := List.mem_range.mp hi; omega)])
      rw [this, hP, hQ]
      rfl
    · rw [cP_set hP hQ h n (by omega), h n (fun z => e z.symm)]
      omega
theorem popc_set {v j : Nat} (hj : j < 12) (hv : v.testBit j = false) : popc (v ||| 2 ^ j) = popc v + 1 := by
  unfold popc
  refine cP_set (j := j) hv ?_ (fun i hi => ?_) 12 hj
  · rw [Nat.testBit_or, Nat.testBit_two_pow_self, Bool.or_true]
  · rw [Nat.testBit_or, Nat.testBit_two_pow_of_ne (fun z => hi z.symm), Bool.or_false]
theorem mn_4E {f : Ft} {m : jm_M} (h : xE f m) (x2 x3 : Int32) (z4 : jm_V) (d : Nat) : jm_ev false (d + 1) 8 1 jc_X9_readMeanings 4 [.inr (.inr (.inl (6, 0, 0))), .inr (.inr (.inl (10, 1, 0))), .inl x2, .inl x3, z4] [] m = some (.inl x2, m) := by
  rw [l_X9_readMeanings_4, sx_fineF h, jt_bi, show decide (nI 0 = 0) = true by decide, cond_true]
  cases jm_dec ((12 : Int32) < x3) <;> rfl
theorem sx_mn {T : Tb} {s : Pv} (ho : okPv s) (d : Nat) : ∀ (r k v b : Nat) (z4 : jm_V) (m : jm_M), k + r = 13 → k ≤ popc v → v < 4096 → xF T b m → xPv s m → ∃ m' x, jm_ev false (d + 8) 8 1 jc_X9_readMeanings 4 [.inr (.inr (.inl (6, 0, 0))), .inr (.inr (.inl (10, 1, 0))), .inl (nI v), .inl (nI k), z4] [] m = some (.inl x, m') ∧ (match mnL T (pM s) r v b with | .inl f => xE f m' | .inr q => x = nI q.1 ∧ xF T q.2 m' ∧ xPv s m') ∧ fr P5x m m'
  | 0, k, v, b, z4, m, hr, hk, hv, h, hp => by
    have := popc_12 v
    omega
  | r + 1, k, v, b, z4, m, hr, hk, hv, h, hp => by
    have pk := popc_12 v
    have l12 := ho.1
    have fi := sx_fineT h (d + 7)
    have sg := sx_sign h (c := 59) (by decide) (d + 7)
    have n3 := hp.1
    have isn := (sx_isName h (d + 6)).1
    have p7 := sx_place7 hp ho (d + 7)
    have go38 : (v ≠ 0 ∧ isSgn T 59 b = true → False) → jm_ev false (d + 8) 8 1 jc_X9_readMeanings 4 [.inr (.inr (.inl (6, 0, 0))), .inr (.inr (.inl (10, 1, 0))), .inl (nI v), .inl (nI k), z4] [] m = jm_ev false (d + 8) 8 1 jc_X9_readMeanings 38 [.inr (.inr (.inl (6, 0, 0))), .inr (.inr (.inl (10, 1, 0))), .inl (nI v), .inl (nI k), z4] [] m := fun hne => by
      refine (l_X9_readMeanings_4 _ _ _ _ _ _).trans ?_
      rw [jt_df (show ¬ (12 : Int32) < nI k from nI_nlt (a := 12) (by omega) (by decide)), cond_false, fi, jt_bi, show decide (nI 1 = 0) = false by decide, cond_false]
      by_cases v0 : v = 0
      · rw [v0, show decide (nI 0 = 0) = true by decide, cond_true]
      · rw [show decide (nI v = 0) = false from decide_eq_false (fun z => v0 ((nI_eq (b := 0) (by omega) (by decide)).mp z)), cond_false]
        cases hs : isSgn T 59 b with
        | true => exact absurd ⟨v0, hs⟩ hne
        | false =>
          rw [hs, if_neg (by decide)] at sg
          have sg : jm_sem false (d + 8) jn_X6_isSign [.inr (.inr (.inl (5, 0, 0))), .inl 59] m = some (.inl (nI 0), m) := sg
          rw [sg, jt_bi, show decide (nI 0 = 0) = true by decide, cond_true]
    by_cases c1 : v ≠ 0 ∧ isSgn T 59 b = true
    · have e1 : mnL T (pM s) (r + 1) v b = .inr (v, b) := if_pos c1
      rw [e1]
      refine ⟨m, nI v, ?_, ⟨rfl, h, hp⟩, .rf⟩
      rw [c1.2, if_pos rfl] at sg
      have sg : jm_sem false (d + 8) jn_X6_isSign [.inr (.inr (.inl (5, 0, 0))), .inl 59] m = some (.inl (nI 1), m) := sg
      rw [l_X9_readMeanings_4, jt_df (show ¬ (12 : Int32) < nI k from nI_nlt (a := 12) (by omega) (by decide)), cond_false, fi, jt_bi, show decide (nI 1 = 0) = false by decide, cond_false, show decide (nI v = 0) = false from decide_eq_false (fun z => c1.1 ((nI_eq (b := 0) (by omega) (by decide)).mp z)), cond_false, sg, jt_bi, show decide (nI 1 = 0) = false by decide, cond_false]
    · have g := go38 c1
      have st := l_X9_readMeanings_38 (d + 8) 1 (nI v) (nI k) z4 m
      rw [n3, p7, jt_bi] at st
      have un : mnL T (pM s) (r + 1) v b = (if nmB T b = false then .inl (flt T b) else match ixOf (tkL T b) (pM s) 0 with | none => .inl (3, b) | some k => if v.testBit k = true then .inl (5, b) else mnL T (pM s) r (v ||| 2 ^ k) (tkX T b)) := if_neg c1
      cases hn : nmB T b with
      | false =>
        rw [un, if_pos hn]
        rw [hn, if_neg (by decide)] at isn
        obtain ⟨m', e1, e2, e3⟩ := sx_blSt h (d + 6)
        refine ⟨m', nI v, ?_, e2, e3⟩
        rw [g, st, isn, jt_bi, show decide (nI 0 ≠ 0) = false by decide, cond_false, e1, jt_bv]
        exact mn_4E e2 _ _ _ _
      | true =>
        rw [un, if_neg (by rw [hn]; decide)]
        rw [hn, if_pos rfl] at isn
        obtain ⟨⟨o1, o2, o3, o4⟩, k1, -⟩ := nmB_ok hn
        have v6 := h.2.2.1.2.2.2.2.2.1 k1
        rw [v6, kyL_ix o1 o2 (pM s) 0 (okN_K ho.2.2.2.1), isn, jt_bi, show decide (nI 1 ≠ 0) = true by decide, cond_true] at st
        cases hi : ixOf (tkL T b) (pM s) 0 with
        | none =>
          obtain ⟨m', e1, e2, e3⟩ := sx_blame h (k := 3) (by decide) (by decide) (d + 7)
          refine ⟨m', nI v, ?_, e2, e3⟩
          have e1 : jm_sem false (d + 8) jn_X6_blame [.inr (.inr (.inl (5, 0, 0))), .inl 3] m = some (jm_j, m') := e1
          rw [hi, jt_df (show ¬ (jpl none ≠ -1) from fun z => z rfl), cond_false, e1, jt_bv] at st
          rw [g, st]
          exact mn_4E e2 _ _ _ _
        | some j =>
          have j12 : j < 12 := by have := (ixOf_some (pM s) 0 j hi).2.1; omega
          have bt := bit_In (v := v) (c := j) (by omega) (by omega)
          rw [hi, jt_dt (show jpl (some j) ≠ -1 from jt_m1 (by omega)), cond_true] at st
          by_cases cb : v.testBit j = true
          · dsimp only
            rw [if_pos cb]
            obtain ⟨m', e1, e2, e3⟩ := sx_blame h (k := 5) (by decide) (by decide) (d + 7)
            refine ⟨m', nI v, ?_, e2, e3⟩
            have e1 : jm_sem false (d + 8) jn_X6_blame [.inr (.inr (.inl (5, 0, 0))), .inl 5] m = some (jm_j, m') := e1
            rw [cb] at bt
            rw [jt_df (show ¬ ((nI v >>> (jpl (some j) &&& 31)) &&& 1 ≠ 1) from fun z => z bt), cond_false, e1, jt_bv] at st
            rw [g, st]
            exact mn_4E e2 _ _ _ _
          · dsimp only
            rw [if_neg cb]
            have cb' : v.testBit j = false := by cases hh : v.testBit j with
              | false => rfl
              | true => exact absurd hh cb
            rw [cb'] at bt
            obtain ⟨m1, a1, a2, a3⟩ := sx_advF h d
            have pp := popc_set j12 cb'
            obtain ⟨m', x, e1, e2, e3⟩ := sx_mn ho d r (k + 1) (v ||| 2 ^ j) (tkX T b) (.inl (jpl (some j))) m1 (by omega) (by omega) (Nat.or_lt_two_pow (n := 12) hv (Nat.pow_lt_pow_right (by decide) j12)) a2 (xPv_5 hp (P5_x a3))
            refine ⟨m', x, ?_, e2, (P5_x a3).tr e3⟩
            have sh : (1 : Int32) <<< (jpl (some j) &&& 31) = nI (2 ^ j) := shl_n j (by omega)
            rw [jt_dt (show (nI v >>> (jpl (some j) &&& 31)) &&& 1 ≠ 1 from fun z => by have z : nI 1 = _ := z.symm; rw [show (nI v >>> (jpl (some j) &&& 31)) &&& 1 = bI false from bt] at z; exact absurd z (by decide)), cond_true, a1, jt_bv, sh, fb_orI, nI_1] at st
            rw [g, st]
            exact e1
theorem xL0 {i : Nat} {m m' : jm_M} (h : xL [] i m) (h4 : m'.1 13 i 0 4 = m.1 13 i 0 4) (h5 : m'.1 13 i 0 5 = m.1 13 i 0 5) (h6 : m'.1 13 i 0 6 = m.1 13 i 0 6) : xL [] i m' := ⟨h4.trans h.1, h5.trans h.2.1, h6.trans h.2.2.1, fun k hk => absurd hk (Nat.not_lt_zero k), fun r hr => absurd hr (Nat.not_lt_zero r)⟩
theorem gw_ws {s : Pv} {j : Nat} (h : j < (pW s).length) : gw (wsOf s) j = wOf ((pW s).getD j ([], 0)) := by
  unfold gw wsOf
  simp only [List.getD, List.getElem?_map]
  rw [List.getElem?_eq_getElem h]
  rfl
theorem sx_alikeP {s : Pv} (ho : okPv s) {m : jm_M} (h : xPv s m) {ls : List Nat} (hl : okL ls) (h8 : ls.length ≤ 8) (d : Nat) : ∀ (r k : Nat), k + r = (pW s).length → jm_ev false (d + 1) 7 1 jc_X8_alikeTo 3 [.inr (.inr (.inl (10, 1, 0))), .inr (.inl (lN (enc ls))), jm_j, .inl jM, .inl (nI k)] [] m = some (.inl (jpl (ixOf ls (((pW s).map (fun q => q.1)).drop k) k)), m)
  | 0, k, hr => by
    have h4 := h.2.1
    have l12 := ho.2.2.1
    rw [l_X8_alikeTo_3, h4, jt_dt (nI_le (show (pW s).length ≤ k by omega) (by omega)), cond_true, List.drop_of_length_le (by rw [List.length_map]; omega)]
    rfl
  | r + 1, k, hr => by
    have h4 := h.2.1
    have l12 := ho.2.2.1
    have hk : k < (pW s).length := by omega
    have hx := h.2.2.2.2.2.2.1 k hk
    rw [gw_ws hk] at hx
    have ih := sx_alikeP ho h hl h8 d r (k + 1) (by omega)
    have hm : (pW s).getD k ([], 0) ∈ pW s := by
      simp only [List.getD, List.getElem?_eq_getElem hk, Option.getD_some]
      exact List.getElem_mem hk
    obtain ⟨⟨w1, w2, w3, w4⟩, -⟩ := ho.2.2.2.2.2.1 _ hm
    have dr : ((pW s).map (fun q => q.1)).drop k = ((pW s).getD k ([], 0)).1 :: ((pW s).map (fun q => q.1)).drop (k + 1) := by
      have hk' : k < ((pW s).map (fun q => q.1)).length := by rw [List.length_map]; exact hk
      rw [List.drop_eq_getElem_cons hk']
      simp only [List.getElem_map, List.getD, List.getElem?_eq_getElem hk, Option.getD_some]
    rw [dr]
    generalize (pW s).getD k ([], 0) = q at *
    have g := sx_isGone (i := 1) (j := k) hx (show (wL (wOf q)).length ≤ 8 from w2) d
    rw [if_neg (show ¬ wL (wOf q) = [] from w4)] at g
    have x0 : m.2 12 1 k 0 = lN (enc q.1) := hx.1
    have e40 := enc_40 w1 w2
    have l40 := enc_40 hl h8
    rw [l_X8_alikeTo_3, h4, jt_df (nI_ge hk (by omega)), cond_false, nI_1, jt_df (show ¬ nI k = jM from jt_m1 (by omega)), cond_false, jt_in (show k < 12 by omega) (by decide), Bool.and_true, cond_true, jt_ix (by omega), g, jt_bi, show decide ((0 : Int32) ≠ 0) = false from by decide, cond_false, cond_true, x0, jt_cd]
    unfold ixOf
    by_cases c : q.1 = ls
    · rw [if_neg (fun z => z ((cmp_eq (by omega) (by omega)).mpr (by rw [c]))), if_pos c]
      rfl
    · rw [if_pos (fun z => c ((enc_inj w1 hl).mp ((cmp_eq (by omega) (by omega)).mp z))), if_neg c]
      exact ih
theorem sx_readThing {T : Tb} {s : Pv} {a : Nat} {m : jm_M} (h : xF T a m) (hp : xPv s m) (ho : okPv s) (d : Nat) : ∃ m', jm_sem false (d + 10) jn_X9_readThingSaid [.inr (.inr (.inl (6, 0, 0))), .inr (.inr (.inl (10, 1, 0)))] m = some (jm_j, m') ∧ xRv T s (vtW T s a) m' ∧ fr PVt m m' := by
  have n4 := hp.2.1
  have l12 := ho.2.2.1
  unfold vtW
  by_cases c : (pW s).length = 12
  · rw [if_pos c]
    obtain ⟨m', e1, e2, e3⟩ := sx_blame h (k := 6) (by decide) (by decide) (d + 8)
    refine ⟨m', ?_, ⟨e2, xN_5 hp e3⟩, P5x_t e3⟩
    rw [e_X9_readThingSaid]; simp (disch := omega) only [jg_lit, jg_litL, jg_m1, jg_m1L, nI_add, lN_add, pk_mul, jg_sub, jg_subM, jg_addM, jg_addM', jg_negM, jt_in, jt_ix, jt_bi, jt_bl, jt_bv, jt_lt, jg_dT, jg_dF, jt_c, jt_cd, ru_I, ru_L, jg_leI, jg_ltI, jg_eqI, jg_M1, jg_M2, jg_M3, jg_M4, jg_M5, jg_M6, jg_ltT, jg_ltF, jg_leT, jg_leF, jg_eqT, jg_eqF, cond_true, cond_false, ne_eq, not_true_eq_false, not_false_eq_true, decide_true, decide_false, if_true, if_false, and_true, true_and, and_false, false_and, or_true, true_or, or_false, false_or, Nat.reduceEqDiff, reduceIte, Nat.reduceMul, Nat.reduceAdd, Nat.reduceSub, Nat.add_zero, Nat.zero_add, Nat.mul_zero, eq_self_iff_true, jg_not_lt, jg_not_le, n4, e1]
  · rw [if_neg c]
    obtain ⟨m1, a1, a2, a3⟩ := sx_advF h (d + 1)
    have p1 := xPv_5 hp (P5_x a3)
    have sw := (sx_isName a2 (d + 8)).2
    have st := e_X9_readThingSaid (d + 9) 1 m
    rw [n4, jt_dt (show nI (pW s).length < 12 from nI_lt (b := 12) (by omega) (by decide)), cond_true, a1, jt_bv, sw, jt_bi] at st
    by_cases c1 : tkK T (tkX T a) = 1 ∧ (tkL T (tkX T a)).length ≤ 8
    · rw [if_neg (fun z => z c1)]
      rw [if_pos c1, show decide (nI 1 ≠ 0) = true by decide, cond_true] at st
      obtain ⟨w1, w2, w3⟩ := tkL_ok c1.1
      have v6 := a2.2.2.1.2.2.2.2.2.1 c1.1
      have v5 := a2.2.2.1.2.2.2.1
      have al : jm_sem false (d + 9) jn_X8_alikeTo [.inr (.inr (.inl (10, 1, 0))), .inr (.inl (lN (enc (tkL T (tkX T a))))), .inl (-1)] m1 = some (.inl (jpl (ixOf (tkL T (tkX T a)) ((pW s).map (fun q => q.1)) 0)), m1) := by
        rw [e_X8_alikeTo]
        exact sx_alikeP ho p1 w1 c1.2 (d + 7) (pW s).length 0 (by omega)
      rw [v6, al, jt_bi] at st
      cases hi : ixOf (tkL T (tkX T a)) ((pW s).map (fun q => q.1)) 0 with
      | some q =>
        rw [if_pos (show (some q).isSome = true from rfl)]
        obtain ⟨m', e1, e2, e3⟩ := sx_blame a2 (k := 3) (by decide) (by decide) (d + 8)
        refine ⟨m', ?_, ⟨e2, xN_5 hp ((P5_x a3).tr e3)⟩, (P5_t a3).tr (P5x_t e3)⟩
        have e1 : jm_sem false (d + 9) jn_X6_blame [.inr (.inr (.inl (5, 0, 0))), .inl 3] m1 = some (jm_j, m') := e1
        rw [hi, jt_df (show ¬ jpl (some q) = -1 from jt_m1 (ixOf_lt (by rw [List.length_map]; omega) q hi)), cond_false, e1, jt_bv] at st
        exact st
      | none =>
        rw [if_neg (show ¬ (none : Option Nat).isSome = true from fun z => by cases z)]
        obtain ⟨m2, b1, b2, b3⟩ := sx_advF a2 (d + 1)
        obtain ⟨m3, k1, k2, k3⟩ := sx_passKey b2 (j := 2) (by decide) d
        have k1 : jm_sem false (d + 9) jn_X6_passKey [.inr (.inr (.inl (5, 0, 0))), .inl 2] m2 = some (jm_j, m3) := k1
        rw [hi, jt_dt (show jpl none = -1 from rfl), cond_true, b1, jt_bv, k1, jt_bv] at st
        have p3 := xPv_5 (xPv_5 p1 (P5_x b3)) k3
        by_cases c2 : tkY T (tkX T (tkX T a)) = some 2
        · rw [if_neg (fun z => z c2)]
          rw [if_pos c2] at k2
          have k2 : xF T (tkX T (tkX T (tkX T a))) m3 := k2
          obtain ⟨m4, x, u1, u2, u3⟩ := sx_mn ho d 13 0 0 (tkX T (tkX T (tkX T a))) jm_j m3 rfl (Nat.zero_le _) (by decide) k2 p3
          have rm : jm_sem false (d + 9) jn_X9_readMeanings [.inr (.inr (.inl (6, 0, 0))), .inr (.inr (.inl (10, 1, 0)))] m3 = some (.inl x, m4) := by
            rw [e_X9_readMeanings]; exact u1
          rw [rm, jt_bi] at st
          have f4 : fr PVt m m4 := (((P5_t a3).tr (P5_t b3)).tr (P5x_t k3)).tr (P5x_t u3)
          cases hr : mnL T (pM s) 13 0 (tkX T (tkX T (tkX T a))) with
          | inl f =>
            rw [hr] at u2
            have fi := sx_fineF u2 (d + 8)
            refine ⟨m4, ?_, ⟨u2, xN_5 hp ((((P5_x a3).tr (P5_x b3)).tr k3).tr u3)⟩, f4⟩
            rw [fi, jt_bi, show decide (nI 0 = 0) = true by decide, cond_true] at st
            exact st
          | inr q =>
            rw [hr] at u2
            obtain ⟨rfl, u4, u5⟩ := u2
            have fi := sx_fineT u4 (d + 8)
            have n4' := u5.2.1
            obtain ⟨m5, g1, g2, g3⟩ := sx_begin (d + 6) 1 (pW s).length (tkL T (tkX T a)) q.1 m4
            have ln := tkL_len T (tkX T a)
            have aw : jm_sem false (d + 9) jn_X8_addWord [.inr (.inr (.inl (10, 1, 0))), .inr (.inl (lN (enc (tkL T (tkX T a))))), .inl (nI (tkE T (tkX T a) - tkX T a)), .inl (nI q.1)] m4 = some (jm_j, jm_sI m5 10 1 0 4 (nI ((pW s).length + 1))) := by
              have n45 : m5.1 10 1 0 4 = nI (pW s).length := by rw [jc_o g3 (by decide)]; exact n4'
              rw [← ln, e_X8_addWord]
              simp (disch := omega) only [jg_lit, jg_litL, jg_m1, jg_m1L, nI_add, lN_add, pk_mul, jg_sub, jg_subM, jg_addM, jg_addM', jg_negM, jt_in, jt_ix, jt_bi, jt_bl, jt_bv, jt_lt, jg_dT, jg_dF, jt_c, jt_cd, ru_I, ru_L, jg_leI, jg_ltI, jg_eqI, jg_M1, jg_M2, jg_M3, jg_M4, jg_M5, jg_M6, jg_ltT, jg_ltF, jg_leT, jg_leF, jg_eqT, jg_eqF, cond_true, cond_false, ne_eq, not_true_eq_false, not_false_eq_true, decide_true, decide_false, if_true, if_false, and_true, true_and, and_false, false_and, or_true, true_or, or_false, false_or, Nat.reduceEqDiff, reduceIte, Nat.reduceMul, Nat.reduceAdd, Nat.reduceSub, Nat.add_zero, Nat.zero_add, Nat.mul_zero, eq_self_iff_true, jg_not_lt, jg_not_le, n4', g1, n45, Bool.and_true]
            rw [fi, jt_bi, show decide (nI 1 = 0) = false by decide, cond_false, v5, v6, aw, jt_bv] at st
            have f5 : fr (fun K i _ _ => i = 1 ∧ (K = 10 ∨ K = 12)) m4 (jm_sI m5 10 1 0 4 (nI ((pW s).length + 1))) := (fr_jc g3 (fun _ => ⟨rfl, Or.inr rfl⟩)).tr (fr_I ⟨rfl, Or.inl rfl⟩)
            refine ⟨_, st, ⟨xF_PV u4 f5 (fun K i j k z => by omega), ?_⟩, f4.tr (f5.wk (fun K i j k z => by unfold PVt; omega))⟩
            obtain ⟨h1, h2, h3, h4, h5, h6, h7, h8, h9, h10⟩ := u5
            have ne : ∀ K i j k, K ≠ 12 → ¬ (K = 10 ∧ k = 4) → (jm_sI m5 10 1 0 4 (nI ((pW s).length + 1))).1 K i j k = m4.1 K i j k := fun K i j k z1 z => by rw [rd_II, if_neg (by omega), jc_o g3 z1]
            have neL : ∀ K i j k, K ≠ 12 → (jm_sI m5 10 1 0 4 (nI ((pW s).length + 1))).2 K i j k = m4.2 K i j k := fun K i j k z1 => by
              have := g3 K i j (fun z => z1 z.1)
              rw [rd_IL, this.2]
            refine ⟨by rw [ne _ _ _ _ (by omega) (by omega)]; exact h1, ?_, by rw [ne _ _ _ _ (by omega) (by omega)]; exact h3, by rw [ne _ _ _ _ (by omega) (by omega)]; exact h4, ?_, fun c c1 c2 => by rw [ne _ _ _ _ (by omega) (by omega)]; exact h6 c c1 c2, fun j hj => ?_, fun k hk => by rw [neL _ _ _ _ (by omega)]; exact h8 k hk, fun k hk => by rw [neL _ _ _ _ (by omega)]; exact h9 k hk, by rw [ne _ _ _ _ (by omega) (by omega)]; exact h10⟩
            · rw [rd_II, if_pos ⟨rfl, rfl, rfl, rfl⟩]
              show _ = nI (pW s ++ [_]).length
              rw [List.length_append, List.length_singleton]
            · exact xL0 h5 (ne _ _ _ _ (by omega) (by omega)) (ne _ _ _ _ (by omega) (by omega)) (ne _ _ _ _ (by omega) (by omega))
            · have hj : j < (pW s ++ [(tkL T (tkX T a), q.1)]).length := hj
              rw [List.length_append, List.length_singleton] at hj
              have e0 : wsOf (pM s, pP s, pW s ++ [(tkL T (tkX T a), q.1)], pS s) = wsOf s ++ [wNew (tkL T (tkX T a)) q.1] := by
                show ((pW s ++ [_]).map wOf) = _
                rw [List.map_append]
                rfl
              have lw : (wsOf s).length = (pW s).length := by unfold wsOf; rw [List.length_map]
              rw [e0]
              refine xW_k (μ := m5) ?_ (fun k => by rw [rd_II, if_neg (by omega)]) (fun k => rfl)
              by_cases e : j = (pW s).length
              · subst e
                have : gw (wsOf s ++ [wNew (tkL T (tkX T a)) q.1]) (pW s).length = wNew (tkL T (tkX T a)) q.1 := by
                  unfold gw
                  simp only [List.getD]
                  rw [List.getElem?_append_right (by omega), lw, Nat.sub_self]
                  rfl
                rw [this]
                exact g2
              · have : gw (wsOf s ++ [wNew (tkL T (tkX T a)) q.1]) j = gw (wsOf s) j := by
                  unfold gw
                  simp only [List.getD]
                  rw [List.getElem?_append_left (by omega)]
                rw [this]
                exact xW_jc (h7 j (by omega)) g3 (Or.inr e)
        · rw [if_pos c2]
          rw [if_neg c2] at k2
          have k2 : xE (flt T (tkX T (tkX T a))) m3 := k2
          have rm : jm_sem false (d + 9) jn_X9_readMeanings [.inr (.inr (.inl (6, 0, 0))), .inr (.inr (.inl (10, 1, 0)))] m3 = some (.inl 0, m3) := by
            rw [e_X9_readMeanings]; exact mn_4E k2 _ _ _ _
          have fi := sx_fineF k2 (d + 8)
          refine ⟨m3, ?_, ⟨k2, xN_5 hp (((P5_x a3).tr (P5_x b3)).tr k3)⟩, ((P5_t a3).tr (P5_t b3)).tr (P5x_t k3)⟩
          rw [rm, jt_bi, fi, jt_bi, show decide (nI 0 = 0) = true by decide, cond_true] at st
          exact st
    · rw [if_pos c1]
      obtain ⟨m', e1, e2, e3⟩ := sx_blSt a2 (d + 7)
      refine ⟨m', ?_, ⟨e2, xN_5 hp ((P5_x a3).tr e3)⟩, (P5_t a3).tr (P5x_t e3)⟩
      rw [if_neg c1, show decide (nI 0 ≠ 0) = false by decide, cond_false, e1, jt_bv] at st
      exact st
