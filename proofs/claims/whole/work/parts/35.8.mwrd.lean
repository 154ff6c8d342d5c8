/-! ===== a VILLAGE read (reference): words ===== -/
theorem i41 {n : Nat} (h : n < 8600) : jm_dec (vp_in (nI n) 8600) = true := jt_in h (by decide)
theorem sm_w82 {T : Tb} {a row : Nat} (k1 : tkK T a = 1) (hr : row + 40 ≤ 8600) (x1 : Int32) (z4 : jm_V) (d : Nat) : ∀ (r n : Nat) (m : jm_M), n + r = tkE T a - a → tkE T a - a ≤ 8 → mFn T a m → (∀ q, q < n → m.1 41 0 0 (row + 1 + q) = nI ((tkL T a).getD q 0)) → ∃ m', jm_ev false (d + 1) 11 2 jc_X12_aWord 82 [vM, .inl x1, .inl (nI row), .inl (nI (a + n)), z4] [] m = jm_ev false (d + 1) 11 2 jc_X12_aWord 123 [vM, .inl x1, .inl (nI row), .inl (nI 0), z4] [] m' ∧ (∀ q, q < tkE T a - a → m'.1 41 0 0 (row + 1 + q) = nI ((tkL T a).getD q 0)) ∧ fr (PA (row + 1) 8) m m'
  | 0, n, m, hn, h8, h, hq => by
    have h14 := h.2.2.1.2.2.1
    have te := tkE_le h.1
    have tg := tkE_ge T a
    have h9 := h.2.1.1.1
    refine ⟨m, ?_, fun q hq' => hq q (by omega), .rf⟩
    refine (l_X12_aWord_82 _ _ _ _ _ _).trans ?_
    simp (disch := omega) only [jg_lit, jg_litL, jg_m1, jg_m1L, nI_add, lN_add, pk_mul, jg_sub, jg_subM, jg_addM, jg_addM', jg_negM, jt_in, jt_ix, jt_bi, jt_bl, jt_bv, jt_lt, jg_dT, jg_dF, jt_c, jt_cd, ru_I, ru_L, jg_leI, jg_ltI, jg_eqI, jg_M1, jg_M2, jg_M3, jg_M4, jg_M5, jg_M6, jg_ltT, jg_ltF, jg_leT, jg_leF, jg_eqT, jg_eqF, cond_true, cond_false, ne_eq, not_true_eq_false, not_false_eq_true, decide_true, decide_false, if_true, if_false, and_true, true_and, and_false, false_and, or_true, true_or, or_false, false_or, Nat.reduceEqDiff, reduceIte, Nat.reduceMul, Nat.reduceAdd, Nat.reduceSub, Nat.add_zero, Nat.zero_add, Nat.mul_zero, eq_self_iff_true, jg_not_lt, jg_not_le, h14]
  | r + 1, n, m, hn, h8, h, hq => by
    have h13 := h.2.2.1.2.1
    have h14 := h.2.2.1.2.2.1
    have te := tkE_le h.1
    have tg := tkE_ge T a
    have h9 := h.2.1.1.1
    have hi : n < tkE T a - a := by omega
    have ts := tkL_sm k1 hi
    have tl := tkL_get hi
    have b := sm_byT h.2.1 (show a + n < T.1 by omega) d
    have fp : fr (PA (row + 1) 8) m (jm_sI m 41 0 0 (row + 1 + n) (nI ((tkL T a).getD n 0))) := fr_I (by unfold PA; omega)
    obtain ⟨m', e1, e2, e3⟩ := sm_w82 k1 hr x1 z4 d r (n + 1) (jm_sI m 41 0 0 (row + 1 + n) (nI ((tkL T a).getD n 0))) (by omega) h8 (mFn_fr h fp (fun k _ _ z => by unfold PA at z; omega) (fun k z => by unfold PA at z; omega)) (fun q hq' => by
      rw [rd_II]
      by_cases e : q = n
      · rw [if_pos ⟨rfl, rfl, rfl, by omega⟩, e]
      · rw [if_neg (by omega)]; exact hq q (by omega))
    refine ⟨m', ?_, e2, fp.tr e3⟩
    have ix : nI row + 1 + nI (a + n) - nI a = nI (row + 1 + n) := by
      rw [nI_1, nI_add, jg_sub (by omega)]
      exact congrArg nI (by omega)
    have vl : nI (T.2 (a + n)) - 97 + 1 = nI ((tkL T a).getD n 0) := by
      show nI (T.2 (a + n)) - nI 97 + nI 1 = _
      rw [jg_sub (by omega), nI_add]
      exact congrArg nI (by omega)
    rw [← e1]
    refine (l_X12_aWord_82 _ _ _ _ _ _).trans ?_
    rw [h14, jt_df (nI_ge (show a + n < tkE T a by omega) (by omega)), cond_false, b, jt_bi, h13, ix, i41 (by omega), cond_true, jt_ix (by omega), vl, nI_1]
    rfl
theorem drM {s : Pv} {k : Nat} (hk : k < (pW s).length) : ((pW s).map (fun q => q.1)).drop k = ((pW s).getD k ([], 0)).1 :: ((pW s).map (fun q => q.1)).drop (k + 1) := by
  have hk' : k < ((pW s).map (fun q => q.1)).length := by rw [List.length_map]; exact hk
  rw [List.drop_eq_getElem_cons hk']
  simp only [List.getElem_map, List.getD, List.getElem?_eq_getElem hk, Option.getD_some]
theorem sm_w123 {T : Tb} {s : Pv} (ho : okPv s) {b : Nat} {m : jm_M} (h : mFn T b m) (k1 : tkK T b = 1) (h8 : (tkL T b).length ≤ 8) (hp : mPv s m) (hr : mR (tkL T b) (3090 + 40 * (pW s).length) m) (hl : (pW s).length < 12) (z4 : jm_V) (d : Nat) : ∀ (r k : Nat), k + r = (pW s).length → (∀ q, ixOf (tkL T b) (((pW s).map (fun q => q.1)).drop k) k = some q → ∃ m', jm_ev false (d + 2) 11 2 jc_X12_aWord 123 [vM, .inl (nI (pW s).length), .inl (nI (3090 + 40 * (pW s).length)), .inl (nI k), z4] [] m = some (.inl (nI 0), m') ∧ mEr (3, b) m' ∧ fr P40x m m') ∧ (ixOf (tkL T b) (((pW s).map (fun q => q.1)).drop k) k = none → jm_ev false (d + 2) 11 2 jc_X12_aWord 123 [vM, .inl (nI (pW s).length), .inl (nI (3090 + 40 * (pW s).length)), .inl (nI k), z4] [] m = jm_ev false (d + 2) 11 2 jc_X12_aWord 123 [vM, .inl (nI (pW s).length), .inl (nI (3090 + 40 * (pW s).length)), .inl (nI (pW s).length), z4] [] m)
  | 0, k, hk => by
    have : k = (pW s).length := by omega
    subst this
    rw [List.drop_of_length_le (by rw [List.length_map]; omega)]
    exact ⟨fun q hq => (by cases hq), fun _ => rfl⟩
  | r + 1, k, hk => by
    have hkl : k < (pW s).length := by omega
    have ih := sm_w123 ho h k1 h8 hp hr hl z4 d r (k + 1) (by omega)
    have row := hp.2.2.2.2.2.1 k hkl
    rw [gw_ws hkl] at row
    have hm : (pW s).getD k ([], 0) ∈ pW s := by
      simp only [List.getD, List.getElem?_eq_getElem hkl, Option.getD_some]
      exact List.getElem_mem hkl
    obtain ⟨⟨w1, w2, w3, w4⟩, -⟩ := ho.2.2.2.2.2.1 _ hm
    rw [drM hkl]
    generalize (pW s).getD k ([], 0) = q0 at *
    have lk := sm_areLike w1 (tkL_ok k1).1 (b1 := 3080 + 10 + 40 * k) (b2 := 3090 + 40 * (pW s).length) (by omega) (by omega) (a := wL (wOf q0)) row.1 hr (d + 1)
    have ro := sm_rowOf (d + 1) 3080 k m
    have ro : jm_sem false (d + 2) jn_X12_rowOf [.inl 3080, .inl (nI k)] m = some (.inl (nI (3080 + 10 + 40 * k)), m) := ro
    have st := l_X12_aWord_123 (d + 2) (nI (pW s).length) (nI (3090 + 40 * (pW s).length)) (nI k) z4 m
    rw [jt_df (nI_ge hkl (by omega)), cond_false, ro, jt_bi, lk, jt_bi] at st
    have un : ixOf (tkL T b) (q0.1 :: ((pW s).map (fun q => q.1)).drop (k + 1)) k = if q0.1 = tkL T b then some k else ixOf (tkL T b) (((pW s).map (fun q => q.1)).drop (k + 1)) (k + 1) := rfl
    rw [un]
    by_cases c : q0.1 = tkL T b
    · rw [if_pos c]
      refine ⟨fun q _ => ?_, fun z => by cases z⟩
      obtain ⟨m', e1, e2, e3⟩ := sm_fails h (k := 3) (by decide) (by decide) (d + 1)
      rw [fltK_w (tk1_4 k1)] at e2
      have e1 : jm_sem false (d + 2) jn_X12_fails [vM, .inl 3] m = some (.inl (nI 0), m') := e1
      refine ⟨m', ?_, e2, e3⟩
      rw [if_pos (show wL (wOf q0) = tkL T b from c), show decide ((1 : Int32) = 0) = false by decide, cond_false, e1, jt_bi, and0, cond_true] at st
      exact st
    · rw [if_neg c]
      rw [if_neg (show ¬ wL (wOf q0) = tkL T b from c), show decide ((0 : Int32) = 0) = true by decide, cond_true, nI_1] at st
      refine ⟨fun q hq => ?_, fun hq => ?_⟩
      · rw [show jm_ev false (d + 2) 11 2 jc_X12_aWord 123 [vM, .inl (nI (pW s).length), .inl (nI (3090 + 40 * (pW s).length)), .inl (nI k), z4] [] m = _ from st]
        exact ih.1 q hq
      · rw [show jm_ev false (d + 2) 11 2 jc_X12_aWord 123 [vM, .inl (nI (pW s).length), .inl (nI (3090 + 40 * (pW s).length)), .inl (nI k), z4] [] m = _ from st]
        exact ih.2 hq
def mnM (T : Tb) (M : List (List Nat)) : Nat → Nat → Nat → Ft ⊕ (Nat × Nat)
  | 0, _, b => .inl (flt T b)
  | r + 1, v, b => if nmB T b = false then (if v = 0 then .inl (flt T b) else .inr (v, b)) else match ixOf (tkL T b) M 0 with
    | none => .inl (3, b)
    | some k => if v.testBit k = true then .inl (5, b) else mnM T M r (v ||| 2 ^ k) (tkX T b)
def vtW2 (T : Tb) (s : Pv) (a : Nat) : Ft ⊕ (Pv × Nat) := if (pW s).length = 12 then .inl (6, a) else
  if ¬ (tkK T (tkX T a) = 1 ∧ (tkL T (tkX T a)).length ≤ 8) then .inl (flt T (tkX T a)) else
  if (ixOf (tkL T (tkX T a)) ((pW s).map (fun q => q.1)) 0).isSome then .inl (3, tkX T a) else
  if tkY T (tkX T (tkX T a)) ≠ some 2 then .inl (flt T (tkX T (tkX T a))) else
  match mnM T (pM s) 13 0 (tkX T (tkX T (tkX T a))) with
  | .inl f => .inl f
  | .inr q => .inr ((pM s, pP s, pW s ++ [(tkL T (tkX T a), q.1)], pS s), q.2)
theorem sgn_name {T : Tb} {c b : Nat} (h : isSgn T c b = true) : nmB T b = false := decide_eq_false (fun z => by have := (of_decide_eq_true h).1; omega)
theorem mn_rel {T : Tb} {M : List (List Nat)} : ∀ (r v b : Nat), mnL T M r v b = mnM T M r v b ∨ ∃ v' b', mnL T M r v b = .inl (flt T b') ∧ mnM T M r v b = .inr (v', b') ∧ isSgn T 59 b' = false
  | 0, v, b => Or.inl rfl
  | r + 1, v, b => by
    unfold mnL mnM
    by_cases c1 : v ≠ 0 ∧ isSgn T 59 b = true
    · rw [if_pos c1, if_pos (sgn_name c1.2), if_neg c1.1]
      exact Or.inl rfl
    · rw [if_neg c1]
      cases hn : nmB T b with
      | false =>
        rw [if_pos rfl, if_pos rfl]
        by_cases v0 : v = 0
        · rw [if_pos v0]; exact Or.inl rfl
        · rw [if_neg v0]
          refine Or.inr ⟨v, b, rfl, rfl, ?_⟩
          cases hs : isSgn T 59 b with
          | false => rfl
          | true => exact absurd ⟨v0, hs⟩ c1
      | true =>
        rw [if_neg (by decide), if_neg (by decide)]
        cases hi : ixOf (tkL T b) M 0 with
        | none => exact Or.inl rfl
        | some k =>
          dsimp only
          by_cases cb : v.testBit k = true
          · rw [if_pos cb, if_pos cb]; exact Or.inl rfl
          · rw [if_neg cb, if_neg cb]
            exact mn_rel r (v ||| 2 ^ k) (tkX T b)
theorem vtW_2 (T : Tb) (s : Pv) (a : Nat) : vEnd T (vtW T s a) = vEnd T (vtW2 T s a) := by
  unfold vtW vtW2
  split
  · rfl
  · split
    · rfl
    · split
      · rfl
      · split
        · rfl
        · rcases mn_rel (T := T) (M := pM s) 13 0 (tkX T (tkX T (tkX T a))) with e | ⟨v', b', e1, e2, e3⟩
          · rw [e]
            cases mnM T (pM s) 13 0 (tkX T (tkX T (tkX T a))) <;> rfl
          · rw [e1, e2]
            show Sum.inl (flt T b') = (if isSgn T 59 b' = true then _ else _)
            rw [if_neg (by rw [e3]; decide)]
/-- the meanings of a word; v: those up to here -/
theorem sm_w188 {T : Tb} {s : Pv} (ho : okPv s) (row : Nat) (z1 : jm_V) (d : Nat) : ∀ (r k v b : Nat) (z4 : jm_V) (m : jm_M), k + r = 13 → k ≤ popc v → v < 4096 → (v = 0 → nmB T b = true) → mFn T b m → mPv s m → match mnM T (pM s) r v b with | .inl f => ∃ m', jm_ev false (d + 8) 11 2 jc_X12_aWord 188 [vM, z1, .inl (nI row), .inl (nI v), z4] [] m = some (.inl (nI 0), m') ∧ mEr f m' ∧ fr P40x m m' | .inr q => ∃ m' y4, jm_ev false (d + 8) 11 2 jc_X12_aWord 188 [vM, z1, .inl (nI row), .inl (nI v), z4] [] m = jm_ev false (d + 8) 11 2 jc_X12_aWord 188 [vM, z1, .inl (nI row), .inl (nI q.1), y4] [] m' ∧ nmB T q.2 = false ∧ mFn T q.2 m' ∧ fr P40x m m'
  | 0, k, v, b, z4, m, hr, hk, hv, hv0, h, hp => by
    have := popc_12 v
    omega
  | r + 1, k, v, b, z4, m, hr, hk, hv, hv0, h, hp => by
    have pk := popc_12 v
    have l12 := ho.1
    have isn := sm_isName h (d + 1)
    have n3 := hp.1
    unfold mnM
    cases hn : nmB T b with
    | false =>
      rw [if_pos rfl, if_neg (fun z => by rw [hv0 z] at hn; cases hn)]
      exact ⟨m, z4, rfl, hn, h, .rf⟩
    | true =>
      rw [if_neg (by decide)]
      rw [hn, if_pos rfl] at isn
      obtain ⟨o, k1, -⟩ := nmB_ok hn
      obtain ⟨f1, -⟩ := sm_find hn ho h hp (d + 5)
      have f1 : jm_sem false (d + 8) jn_X12_findHere [vM, .inl 304, .inl (nI (pM s).length)] m = some (.inl (jpl (ixOf (tkL T b) (pM s) 0)), m) := f1
      have i1 : jm_dec (vp_in 3080 8600) = true := jt_in (n := 3080) (N := 8600) (by decide) (by decide)
      have x1 : jm_ix 3080 = 3080 := jt_ix (n := 3080) (by decide)
      have st := l_X12_aWord_188 (d + 8) z1 (nI row) (nI v) z4 m
      rw [isn, jt_bi, show decide (nI 1 = 0) = false by decide, cond_false, i1, cond_true, x1, n3, f1, jt_bi] at st
      cases hi : ixOf (tkL T b) (pM s) 0 with
      | none =>
        obtain ⟨m', e1, e2, e3⟩ := sm_fails h (k := 3) (by decide) (by decide) (d + 7)
        rw [fltK_w (tk1_4 k1)] at e2
        have e1 : jm_sem false (d + 8) jn_X12_fails [vM, .inl 3] m = some (.inl (nI 0), m') := e1
        refine ⟨m', ?_, e2, e3⟩
        rw [hi, jt_df (show ¬ (jpl none ≠ -1) from fun z => z rfl), cond_false, e1, jt_bi, and0, cond_true] at st
        exact st
      | some j =>
        have j12 : j < 12 := by have := (ixOf_some (pM s) 0 j hi).2.1; omega
        have bt := bit_In (v := v) (c := j) (by omega) (by omega)
        rw [hi, jt_dt (show jpl (some j) ≠ -1 from jt_m1 (by omega)), cond_true] at st
        dsimp only
        by_cases cb : v.testBit j = true
        · rw [if_pos cb]
          obtain ⟨m', e1, e2, e3⟩ := sm_fails h (k := 5) (by decide) (by decide) (d + 7)
          rw [fltK_w (tk1_4 k1)] at e2
          have e1 : jm_sem false (d + 8) jn_X12_fails [vM, .inl 5] m = some (.inl (nI 0), m') := e1
          refine ⟨m', ?_, e2, e3⟩
          rw [cb] at bt
          rw [jt_df (show ¬ ((nI v >>> (jpl (some j) &&& 31)) &&& 1 ≠ 1) from fun z => z bt), cond_false, e1, jt_bi, and0, cond_true] at st
          exact st
        · rw [if_neg cb]
          have cb' : v.testBit j = false := by cases hh : v.testBit j with
            | false => rfl
            | true => exact absurd hh cb
          rw [cb'] at bt
          obtain ⟨m1, a1, a2, a3⟩ := sm_aheadF h (d + 6)
          have pp := popc_set j12 cb'
          have nz : v ||| 2 ^ j ≠ 0 := fun z => by
            have : (v ||| 2 ^ j).testBit j = true := by rw [Nat.testBit_or, Nat.testBit_two_pow_self, Bool.or_true]
            rw [z, Nat.zero_testBit] at this
            cases this
          have ih := sm_w188 (T := T) ho row z1 d r (k + 1) (v ||| 2 ^ j) (tkX T b) (.inl (jpl (some j))) m1 (by omega) (by omega) (Nat.or_lt_two_pow (n := 12) hv (Nat.pow_lt_pow_right (by decide) j12)) (fun z => absurd z nz) a2 (mPv_40 ho hp (P40_x a3))
          have sh : (1 : Int32) <<< (jpl (some j) &&& 31) = nI (2 ^ j) := shl_n j (by omega)
          rw [jt_dt (show (nI v >>> (jpl (some j) &&& 31)) &&& 1 ≠ 1 from fun z => by have z : nI 1 = _ := z.symm; rw [show (nI v >>> (jpl (some j) &&& 31)) &&& 1 = bI false from bt] at z; exact absurd z (by decide)), cond_true, a1, jt_bv, sh, fb_orI] at st
          cases hr2 : mnM T (pM s) r (v ||| 2 ^ j) (tkX T b) with
          | inl f =>
            rw [hr2] at ih
            obtain ⟨m', e1, e2, e3⟩ := ih
            refine ⟨m', ?_, e2, (P40_x a3).tr e3⟩
            rw [show jm_ev false (d + 8) 11 2 jc_X12_aWord 188 [vM, z1, .inl (nI row), .inl (nI v), z4] [] m = _ from st]
            exact e1
          | inr q =>
            rw [hr2] at ih
            obtain ⟨m', y4, e1, e2, e3, e4⟩ := ih
            refine ⟨m', y4, ?_, e2, e3, (P40_x a3).tr e4⟩
            rw [show jm_ev false (d + 8) 11 2 jc_X12_aWord 188 [vM, z1, .inl (nI row), .inl (nI v), z4] [] m = _ from st]
            exact e1
