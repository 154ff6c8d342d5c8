/-! ===== a LAW read (reference): what one piece asks ===== -/
def PMa (K _i _j k : Nat) : Prop := (K = 40 ∧ 12 ≤ k ∧ k ≤ 18 ∧ k ≠ 16) ∨ (K = 40 ∧ k = 24) ∨ (K = 41 ∧ 3640 ≤ k ∧ k < 3850)
theorem P40x_a {m m' : jm_M} (f : fr P40x m m') : fr PMa m m' := f.wk (fun K i j k z => by unfold P40x at z; unfold PMa; omega)
theorem P40_a {m m' : jm_M} (f : fr P40 m m') : fr PMa m m' := P40x_a (P40_x f)
theorem mLc_x {C : List Ck} {m m' : jm_M} (h : mLc C m) (f : fr P40x m m') : mLc C m' := ⟨by rw [(f 40 0 0 24 (by unfold P40x; omega)).1]; exact h.1, fun j hj => by rw [(f 41 0 0 _ (by unfold P40x; omega)).1]; exact h.2 j hj⟩
def reK (r : Ft ⊕ (Nat × List Ck)) : Int32 := match r with
  | .inl _ => nI 0
  | .inr _ => nI 1
def mRk (T : Tb) (r : Ft ⊕ (Nat × List Ck)) (m : jm_M) : Prop := match r with
  | .inl f => mEr f m
  | .inr e => mFn T e.1 m ∧ mLc e.2 m
theorem sm_failB {T : Tb} {a : Nat} {m : jm_M} (h : mFn T a m) (d : Nat) : ∃ m', jm_bi (jm_sem false (d + 1) jn_X12_fails [vM, .inl 2] m) (fun r m => cond (decide (r &&& 1 = r)) (some ((.inl r : jm_V), m)) none) = some (.inl (nI 0), m') ∧ mEr (flt T a) m' ∧ fr P40x m m' := by
  obtain ⟨m', e1, e2, e3⟩ := sm_fails h (k := 2) (by decide) (by decide) d
  have e1 : jm_sem false (d + 1) jn_X12_fails [vM, .inl 2] m = some (.inl (nI 0), m') := e1
  exact ⟨m', by rw [e1, jt_bi, and0, cond_true], e2, e3⟩
theorem sm_failK {T : Tb} {a k : Nat} (h4 : tkK T a ≠ 4) (hk : 1 ≤ k) (hk2 : k < 10) {m : jm_M} (h : mFn T a m) (d : Nat) : ∃ m', jm_bi (jm_sem false (d + 1) jn_X12_fails [vM, .inl (nI k)] m) (fun r m => cond (decide (r &&& 1 = r)) (some ((.inl r : jm_V), m)) none) = some (.inl (nI 0), m') ∧ mEr (k, a) m' ∧ fr P40x m m' := by
  obtain ⟨m', e1, e2, e3⟩ := sm_fails h hk hk2 d
  rw [fltK_w h4] at e2
  exact ⟨m', by rw [e1, jt_bi, and0, cond_true], e2, e3⟩
theorem sm_rkEnd {T : Tb} {a : Nat} {x : Int32} {C : List Ck} {m : jm_M} (h : mFn T a m) (hc : mLc C m) (hl : C.length < 150) (c : Ck) (hx : nI (whatM c) = x) (d : Nat) : ∃ m', jm_bv (jm_sem false (d + 2) jn_X12_asksAlso [vM, .inl x] m) (fun m1 => jm_bv (jm_sem false (d + 2) jn_X12_ahead [vM] m1) (fun m2 => some (.inl 1, m2))) = some (.inl (nI 1), m') ∧ (mFn T (tkX T a) m' ∧ mLc (C ++ [c]) m') ∧ fr PMa m m' := by
  obtain ⟨m1, a1, a2, a3⟩ := sm_asksAlso hc (by omega) c (d + 1)
  have h1 : mFn T a m1 := mFn_fr h a3 (fun k h1 h2 z => by omega) (fun k z => by omega)
  obtain ⟨m2, b1, b2, b3⟩ := sm_aheadF h1 d
  refine ⟨m2, ?_, ⟨b2, mLc_x a2 (P40_x b3)⟩, (a3.wk (fun K i j k z => by unfold PMa; omega)).tr (P40_a b3)⟩
  rw [← hx, a1, jt_bv, b1, jt_bv]
  rfl
theorem pm_14 : ∀ j, j < 24 → (pmL.getD j 0 = 23 ↔ j = 14) := by decide +kernel
theorem jpl_pm {T : Tb} {a j v : Nat} (hj : ∀ i, i < 24 → (pmL.getD i 0 = v ↔ i = j)) (hv : v < 2 ^ 31) : (jpl (pmO (tkY T a)) = nI v) ↔ tkY T a = some j := by
  cases hy : tkY T a with
  | none => exact ⟨fun z => absurd z.symm (jt_m1 hv), fun z => by cases z⟩
  | some i =>
    have i24 := tkY_lt hy
    have p := pmL_lt i i24
    have e := hj i i24
    show nI (pmL.getD i 0) = nI v ↔ _
    rw [nI_eq (by omega) hv, e]
    exact ⟨fun z => by rw [z], fun z => Option.some.inj z⟩
theorem kd_n {k : Nat} (h : k ≤ 4) : kdM k = 3 ↔ k = 2 := by
  unfold kdM
  constructor
  · intro z
    repeat' split at z
    all_goals omega
  · intro z; rw [z]; rfl
theorem sm_rk81 {T : Tb} {k a : Nat} {C : List Ck} {m : jm_M} (h1 : 1 ≤ k) (h3 : k ≤ 3) (h : mFn T a m) (hc : mLc C m) (hl : C.length < 150) (z2 : jm_V) (d : Nat) : ∃ m', jm_ev false (d + 2) 11 2 jc_X12_aCase 81 [vM, .inl (nI (10 + k)), z2] [.inl (if tkY T a = some 14 then nI 1 else nI 0)] m = some (.inl (reK (lAsk T k a C)), m') ∧ mRk T (lAsk T k a C) m' ∧ fr PMa m m' := by
  have h12 := h.2.2.1.1
  have h13 := h.2.2.1.2.1
  have h14 := h.2.2.1.2.2.1
  have kl := tkK_le T a
  have te := tkE_le h.1
  have tg := tkE_ge T a
  have h9 := h.2.1.1.1
  have ln := tkL_len T a
  have kd := kdM_le (tkK T a)
  have st := fun s0 => l_X12_aCase_81 (d + 2) (nI (10 + k)) z2 s0 m
  have lk : lAsk T k a C = if tkY T a = some 14 then .inr (tkX T a, C ++ [(k, 0)]) else if tkK T a = 1 ∧ (tkL T a).length = 1 then .inr (tkX T a, C ++ [(k, (tkL T a).getD 0 0)]) else .inl (flt T a) := (if_neg (by omega)).trans (if_pos h3)
  have mul : (1000 : Int32) * nI (10 + k) = nI (1000 * (10 + k)) := pk_mul 1000 (10 + k)
  rw [lk]
  by_cases y : tkY T a = some 14
  · have k1 := tkY_k y
    rw [if_pos y, if_pos y]
    obtain ⟨m', e1, e2, e3⟩ := sm_rkEnd (x := nI (1000 * (10 + k)) + 0) h hc hl (k, 0) (by unfold whatM; rw [if_neg (by show ¬ k = 0; omega), if_pos h3]; exact (Int32.add_zero _).symm) d
    refine ⟨m', ?_, e2, e3⟩
    rw [st, h12, k1, jt_df (show ¬ nI (kdM 1) ≠ 2 by decide), cond_false, show decide (nI 1 ≠ 0) = true by decide, cond_true, show decide (nI 1 = 0) = false by decide, cond_false, mul]
    exact e1
  · rw [if_neg y, if_neg y]
    by_cases c1 : tkK T a = 1
    · by_cases c2 : (tkL T a).length = 1
      · rw [if_pos ⟨c1, c2⟩]
        have l1 : tkE T a - a = 1 := by omega
        obtain ⟨o1, o2, -⟩ := tkL_ok c1
        have by1 := sm_byT h.2.1 (show a < T.1 by omega) (d + 1)
        have ts := tkL_sm c1 (show 0 < tkE T a - a by omega)
        have tl := tkL_get (T := T) (a := a) (k := 0) (by omega)
        rw [Nat.add_zero] at ts tl
        obtain ⟨m', e1, e2, e3⟩ := sm_rkEnd (x := nI (1000 * (10 + k) + (tkL T a).getD 0 0)) h hc hl (k, (tkL T a).getD 0 0) (by unfold whatM; rw [if_neg (by show ¬ k = 0; omega), if_pos h3]) d
        refine ⟨m', ?_, e2, e3⟩
        have sub : nI (tkE T a) - nI a = nI 1 := by rw [jg_sub tg, l1]
        have ar : nI (1000 * (10 + k)) + ((nI (T.2 a) - 97) + 1) = nI (1000 * (10 + k) + (tkL T a).getD 0 0) := by
          have s97 : nI (T.2 a) - 97 = nI (T.2 a - 97) := jg_sub (b := 97) (by omega)
          rw [s97, nI_1, nI_add]
          exact congrArg nI (by omega)
        rw [st, h12, c1, jt_df (show ¬ nI (kdM 1) ≠ 2 by decide), cond_false, show decide (nI 0 ≠ 0) = false by decide, cond_false, h14, h13, sub, jt_dt (show nI 1 = 1 from rfl), cond_true, show decide (nI 0 = 0) = true by decide, cond_true, by1, jt_bi, mul, ar]
        exact e1
      · rw [if_neg (fun z => c2 z.2)]
        obtain ⟨m', e1, e2, e3⟩ := sm_failB h (d + 1)
        refine ⟨m', ?_, e2, P40x_a e3⟩
        have sub : ¬ (nI (tkE T a) - nI a = 1) := by
          rw [jg_sub tg]
          exact nI_ne (b := 1) (by omega) (by decide) (by omega)
        rw [st, h12, c1, jt_df (show ¬ nI (kdM 1) ≠ 2 by decide), cond_false, show decide (nI 0 ≠ 0) = false by decide, cond_false, h14, h13, jt_df sub, cond_false]
        exact e1
    · rw [if_neg (fun z => c1 z.1)]
      obtain ⟨m', e1, e2, e3⟩ := sm_failB h (d + 1)
      refine ⟨m', ?_, e2, P40x_a e3⟩
      rw [st, h12, jt_dt (show nI (kdM (tkK T a)) ≠ 2 from nI_ne (b := 2) (by omega) (by decide) (fun z => c1 (kd_w.mp z))), cond_true]
      exact e1
theorem sm_rk210 {T : Tb} {k a s : Nat} {C : List Ck} {m : jm_M} (h1 : 4 ≤ k) (h3 : k ≤ 7) (h : mFn T a m) (hc : mLc C m) (hl : C.length < 150) (hs : cmpK T a = some s) (z2 : jm_V) (d : Nat) : ∃ m', jm_ev false (d + 2) 11 2 jc_X12_aCase 210 [vM, .inl (nI (10 + k)), z2] [.inl (nI s)] m = some (.inl (reK (lAsk T k a C)), m') ∧ mRk T (lAsk T k a C) m' ∧ fr PMa m m' := by
  have s3 := (cmpK_s hs).1
  have lk : lAsk T k a C = if tkK T (tkX T a) ≠ 2 then .inl (flt T (tkX T a)) else if 99 < tkN T (tkX T a) then .inl (4, tkX T a) else .inr (tkX T (tkX T a), C ++ [(k, tkN T (tkX T a) * 4 + s)]) := by
    unfold lAsk
    rw [if_neg (by omega), if_neg (by omega), hs]
  rw [lk]
  obtain ⟨m1, a1, a2, a3⟩ := sm_aheadF h d
  have c1 := mLc_x hc (P40_x a3)
  have h12 := a2.2.2.1.1
  have kl := tkK_le T (tkX T a)
  have kd := kdM_le (tkK T (tkX T a))
  have st := l_X12_aCase_210 (d + 2) (nI (10 + k)) z2 (nI s) m
  rw [a1, jt_bv, h12] at st
  by_cases k2 : tkK T (tkX T a) = 2
  · rw [if_neg (fun z => z k2)]
    have h15 := a2.2.2.1.2.2.2.1 k2
    have n31 := tkN_lt k2
    rw [k2, jt_dt (show nI (kdM 2) = 3 from rfl), cond_true, h15] at st
    by_cases c99 : 99 < tkN T (tkX T a)
    · rw [if_pos c99]
      obtain ⟨m', e1, e2, e3⟩ := sm_failK (by omega) (k := 4) (by decide) (by decide) a2 (d + 1)
      refine ⟨m', ?_, e2, (P40_a a3).tr (P40x_a e3)⟩
      rw [jt_df (show ¬ nI (tkN T (tkX T a)) ≤ 99 from nI_ge (a := 99) (b := tkN T (tkX T a)) c99 (by omega)), cond_false] at st
      exact st.trans e1
    · rw [if_neg c99]
      obtain ⟨m', e1, e2, e3⟩ := sm_rkEnd (x := (((100000 : Int32) * nI (10 + k)) + ((1000 : Int32) * nI s)) + nI (tkN T (tkX T a))) a2 c1 hl (k, tkN T (tkX T a) * 4 + s) (by
        have m1 : (100000 : Int32) * nI (10 + k) = nI (100000 * (10 + k)) := pk_mul 100000 (10 + k)
        have m2 : (1000 : Int32) * nI s = nI (1000 * s) := pk_mul 1000 s
        unfold whatM
        rw [if_neg (by show ¬ k = 0; omega), if_neg (by show ¬ k ≤ 3; omega), if_pos h3, m1, m2, nI_add, nI_add]
        refine congrArg nI ?_
        show 100000 * (10 + k) + 1000 * ((tkN T (tkX T a) * 4 + s) % 4) + (tkN T (tkX T a) * 4 + s) / 4 = _
        omega) d
      refine ⟨m', ?_, e2, (P40_a a3).tr e3⟩
      rw [jt_dt (show nI (tkN T (tkX T a)) ≤ 99 from nI_le (a := tkN T (tkX T a)) (b := 99) (by omega) (by decide)), cond_true] at st
      exact st.trans e1
  · rw [if_pos k2]
    obtain ⟨m', e1, e2, e3⟩ := sm_failB a2 (d + 1)
    refine ⟨m', ?_, e2, (P40_a a3).tr (P40x_a e3)⟩
    rw [jt_df (show ¬ nI (kdM (tkK T (tkX T a))) = 3 from nI_ne (b := 3) (by omega) (by decide) (fun z => k2 ((kd_n kl).mp z))), cond_false] at st
    exact st.trans e1
def reO (r : Ft ⊕ Lq) : Int32 := match r with
  | .inl _ => nI 0
  | .inr _ => nI 1
def mRl (T : Tb) (σ : List Nat) (r : Ft ⊕ Lq) (m : jm_M) : Prop := match r with
  | .inl f => mEr f m
  | .inr t => mFn T t.1 m ∧ mLp σ t m
theorem sm_aCase {T : Tb} {σ : List Nat} {s : Lq} {k : Nat} {m : jm_M} (hk : askK T s.1 = some k) (h : mFn T s.1 m) (hp : mLp σ s m) (hl : s.2.2.length < 150) (hn : s.2.1 ≤ 24) (hw : wi σ ≤ 6) (d : Nat) : ∃ m', jm_sem false (d + 9) jn_X12_aCase [vM, .inl (nI (10 + k))] m = some (.inl (reO (lOneA T (wi σ) s k)), m') ∧ mRl T σ (lOneA T (wi σ) s k) m' ∧ fr PMl m m' := by
  obtain ⟨k7, j, hj, -⟩ := askK_s hk
  have k1 := tkY_k hj
  have y2 := tkY_2 hj
  obtain ⟨hc, hs, h22, h23⟩ := hp
  have st := e_X12_aCase (d + 8) (nI (10 + k)) m
  rw [h23, h22] at st
  unfold lOneA
  by_cases c24 : 24 ≤ s.2.1
  · rw [if_pos c24]
    obtain ⟨m', e1, e2, e3⟩ := sm_failK (by omega) (k := 6) (by decide) (by decide) h (d + 7)
    refine ⟨m', ?_, e2, P40x_l e3⟩
    have e24 : s.2.1 = 24 := by omega
    rw [e24, jt_df (show ¬ nI 24 ≠ 24 by decide), cond_false] at st
    exact st.trans e1
  · rw [if_neg c24]
    rw [jt_dt (show nI s.2.1 ≠ 24 from nI_ne (a := s.2.1) (b := 24) (by omega) (by decide) (by omega)), cond_true] at st
    by_cases c6 : 6 ≤ wi σ
    · rw [if_pos c6]
      obtain ⟨m', e1, e2, e3⟩ := sm_failK (by omega) (k := 7) (by decide) (by decide) h (d + 7)
      refine ⟨m', ?_, e2, P40x_l e3⟩
      have e6 : wi σ = 6 := by omega
      rw [e6, jt_df (show ¬ nI 6 ≠ 6 by decide), cond_false] at st
      exact st.trans e1
    · rw [if_neg c6]
      rw [jt_dt (show nI (wi σ) ≠ 6 from nI_ne (a := wi σ) (b := 6) (by omega) (by decide) (by omega)), cond_true] at st
      have f0 : fr (fun K _ _ k => K = 40 ∧ k = 23) m (jm_sI m 40 0 0 23 (nI (s.2.1 + 1))) := fr_I ⟨rfl, rfl⟩
      have hF0 : mFn T s.1 (jm_sI m 40 0 0 23 (nI (s.2.1 + 1))) := mFn_fr h f0 (fun k h1 h2 z => by omega) (fun k z => by omega)
      have hC0 : mLc s.2.2 (jm_sI m 40 0 0 23 (nI (s.2.1 + 1))) := ⟨by rw [(f0 40 0 0 24 (by omega)).1]; exact hc.1, fun k hk => by rw [(f0 41 0 0 _ (by omega)).1]; exact hc.2 k hk⟩
      obtain ⟨m1, a1, a2, a3⟩ := sm_aheadF hF0 (d + 6)
      have c1 := mLc_x hC0 (P40_x a3)
      have a1 : jm_sem false (d + 8) jn_X12_ahead [vM] (jm_sI m 40 0 0 23 (nI (s.2.1 + 1))) = some (jm_j, m1) := a1
      rw [nI_1, a1, jt_bv] at st
      have key : ∃ m', jm_sem false (d + 9) jn_X12_aCase [vM, .inl (nI (10 + k))] m = some (.inl (reK (lAsk T k (tkX T s.1) s.2.2)), m') ∧ mRk T (lAsk T k (tkX T s.1) s.2.2) m' ∧ fr PMa m1 m' := by
        by_cases k0 : k = 0
        · subst k0
          obtain ⟨m', e1, e2, e3⟩ := sm_asksAlso c1 (by omega) (0, 0) (d + 7)
          have e1 : jm_sem false (d + 8) jn_X12_asksAlso [vM, .inl (nI (10 + 0))] m1 = some (jm_j, m') := e1
          refine ⟨m', ?_, ⟨mFn_fr a2 e3 (fun k h1 h2 z => by omega) (fun k z => by omega), e2⟩, e3.wk (fun K i j k z => by unfold PMa; omega)⟩
          rw [jt_df (show ¬ nI (10 + 0) ≠ 10 by decide), cond_false, e1, jt_bv] at st
          exact st
        · rw [jt_dt (show nI (10 + k) ≠ 10 from nI_ne (a := 10 + k) (b := 10) (by omega) (by decide) (by omega)), cond_true] at st
          by_cases k3 : k ≤ 3
          · obtain ⟨m', e1, e2, e3⟩ := sm_rk81 (by omega) k3 a2 c1 hl jm_j (d + 6)
            refine ⟨m', ?_, e2, e3⟩
            have iw := sm_inWords a2.2.1 a2.2.2.1 (d + 2)
            have iw : jm_sem false (d + 8) jn_X12_inWords [vM, .inr (.inr (.inl (60, 2, 0)))] m1 = _ := iw
            rw [jt_df (show ¬ (13 : Int32) < nI (10 + k) from nI_nlt (a := 13) (b := 10 + k) (by omega) (by decide)), cond_false, iw, jt_bi] at st
            have pm := jpl_pm (T := T) (a := tkX T s.1) pm_14 (by decide)
            by_cases y : tkY T (tkX T s.1) = some 14
            · rw [if_pos y] at e1
              rw [jt_df (show ¬ jpl (pmO (tkY T (tkX T s.1))) ≠ 23 from fun z => z (pm.mpr y)), cond_false] at st
              exact st.trans e1
            · rw [if_neg y] at e1
              rw [jt_dt (show jpl (pmO (tkY T (tkX T s.1))) ≠ 23 from fun z => y (pm.mp z)), cond_true] at st
              exact st.trans e1
          · have s1 : jm_sem false (d + 8) jn_X12_isSign [vM, .inl 60] m1 = _ := sm_sign a2 (c := 60) (by decide) (d + 7)
            have s2 : jm_sem false (d + 8) jn_X12_isSign [vM, .inl 62] m1 = _ := sm_sign a2 (c := 62) (by decide) (d + 7)
            have s3 : jm_sem false (d + 8) jn_X12_isSign [vM, .inl 61] m1 = _ := sm_sign a2 (c := 61) (by decide) (d + 7)
            have fin := fun q (hq : cmpK T (tkX T s.1) = some q) => sm_rk210 (by omega) k7 a2 c1 hl hq jm_j (d + 6)
            rw [jt_dt (show (13 : Int32) < nI (10 + k) from nI_lt (a := 13) (b := 10 + k) (by omega) (by omega)), cond_true, s1, jt_bi] at st
            cases c60 : isSgn T 60 (tkX T s.1) with
            | true =>
              obtain ⟨m', e1, e2, e3⟩ := fin 0 (by unfold cmpK; rw [if_pos c60])
              refine ⟨m', ?_, e2, e3⟩
              rw [c60] at s1
              rw [c60, if_pos rfl, show decide (nI 1 ≠ 0) = true by decide, cond_true, s1, if_pos rfl, jt_bi, show decide (nI 1 = 0) = false by decide, cond_false] at st
              exact st.trans e1
            | false =>
              rw [c60] at s1
              rw [c60, if_neg (by decide), show decide (nI 0 ≠ 0) = false by decide, cond_false, s2, jt_bi] at st
              cases c62 : isSgn T 62 (tkX T s.1) with
              | true =>
                obtain ⟨m', e1, e2, e3⟩ := fin 1 (by unfold cmpK; rw [if_neg (by rw [c60]; decide), if_pos c62])
                refine ⟨m', ?_, e2, e3⟩
                rw [c62] at s2
                rw [c62, if_pos rfl, show decide (nI 1 ≠ 0) = true by decide, cond_true, s1, if_neg (by decide), jt_bi, show decide (nI 0 = 0) = true by decide, cond_true, s2, if_pos rfl, jt_bi, show decide (nI 1 = 0) = false by decide, cond_false] at st
                exact st.trans e1
              | false =>
                rw [c62] at s2
                rw [c62, if_neg (by decide), show decide (nI 0 ≠ 0) = false by decide, cond_false, s3, jt_bi] at st
                cases c61 : isSgn T 61 (tkX T s.1) with
                | true =>
                  obtain ⟨m', e1, e2, e3⟩ := fin 2 (by unfold cmpK; rw [if_neg (by rw [c60]; decide), if_neg (by rw [c62]; decide), if_pos c61])
                  refine ⟨m', ?_, e2, e3⟩
                  rw [c61, if_pos rfl, show decide (nI 1 ≠ 0) = true by decide, cond_true, s1, if_neg (by decide), jt_bi, show decide (nI 0 = 0) = true by decide, cond_true, s2, if_neg (by decide), jt_bi, show decide (nI 0 = 0) = true by decide, cond_true] at st
                  exact st.trans e1
                | false =>
                  obtain ⟨m', e1, e2, e3⟩ := sm_failB a2 (d + 7)
                  have lk : lAsk T k (tkX T s.1) s.2.2 = .inl (flt T (tkX T s.1)) := by
                    have cn : cmpK T (tkX T s.1) = none := by
                      unfold cmpK
                      rw [if_neg (by rw [c60]; decide), if_neg (by rw [c62]; decide), if_neg (by rw [c61]; decide)]
                    unfold lAsk
                    rw [if_neg k0, if_neg k3, cn]
                  rw [lk]
                  refine ⟨m', ?_, e2, P40x_a e3⟩
                  rw [c61, if_neg (by decide), show decide (nI 0 ≠ 0) = false by decide, cond_false] at st
                  exact st.trans e1
      obtain ⟨m', e1, e2, e3⟩ := key
      have fl : fr PMl m m' := ((f0.wk (fun K i j k z => by unfold PMl; omega)).tr (P40_l a3)).tr (e3.wk (fun K i j k z => by unfold PMa at z; unfold PMl; omega))
      cases he : lAsk T k (tkX T s.1) s.2.2 with
      | inl f =>
        rw [he] at e1 e2
        exact ⟨m', e1, e2, fl⟩
      | inr q =>
        rw [he] at e1 e2
        have kk := fun k (hk : 20 ≤ k ∧ k ≠ 23 ∧ k ≠ 24) => show m'.1 40 0 0 k = m.1 40 0 0 k by rw [(e3 40 0 0 k (by unfold PMa; omega)).1, (a3 40 0 0 k (by unfold P40; omega)).1, (f0 40 0 0 k (by omega)).1]
        refine ⟨m', e1, ⟨e2.1, e2.2, ⟨by rw [kk 21 (by omega)]; exact hs.1, fun k hk => by rw [(e3 48 0 0 k (by unfold PMa; omega)).1, (a3 48 0 0 k (by unfold P40; omega)).1, (f0 48 0 0 k (by omega)).1]; exact hs.2 k hk⟩, by rw [kk 22 (by omega)]; exact h22, ?_⟩, fl⟩
        rw [(e3 40 0 0 23 (by unfold PMa; omega)).1, (a3 40 0 0 23 (by unfold P40; omega)).1, rd_II, if_pos ⟨rfl, rfl, rfl, rfl⟩]
