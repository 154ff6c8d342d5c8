/-! ===== a VILLAGE read (reference): names ===== -/
def mPv (s : Pv) (m : jm_M) : Prop := m.1 41 0 0 3080 = nI (pM s).length ∧ m.1 41 0 0 3081 = nI (pW s).length ∧ m.1 41 0 0 3082 = nI (pP s).length ∧ m.1 41 0 0 3083 = nI 0 ∧ m.1 41 0 0 3084 = nI 0 ∧ (∀ j, j < (pW s).length → mW (gw (wsOf s) j) (3080 + 10 + 40 * j) m) ∧ (∀ c, 1 ≤ c → c ≤ 26 → m.1 41 0 0 (3570 + c) = nI (rkM (sfO (pS s)) c)) ∧ (∀ k, k < (pM s).length → m.2 42 0 0 (304 + k) = lN (e8 (gN (pM s) k))) ∧ (∀ k, k < (pP s).length → m.2 42 0 0 (316 + k) = lN (e8 (gN (pP s) k))) ∧ m.1 40 0 0 19 = jb (pS s).isSome
def PMt (K _i _j k : Nat) : Prop := (K = 40 ∧ 12 ≤ k ∧ k ≤ 19 ∧ k ≠ 16) ∨ (K = 41 ∧ 3080 ≤ k ∧ k < 3850) ∨ (K = 42 ∧ 256 ≤ k ∧ k < 320)
theorem P40x_t {m m' : jm_M} (f : fr P40x m m') : fr PMt m m' := f.wk (fun K i j k z => Or.inl (by unfold P40x at z; omega))
theorem P40_t {m m' : jm_M} (f : fr P40 m m') : fr PMt m m' := P40x_t (P40_x f)
theorem ws_X {s : Pv} {j : Nat} (hj : j < (pW s).length) : (wX (gw (wsOf s) j)).length ≤ 8 := by rw [gw_ws hj]; exact Nat.zero_le 8
theorem mPv_k {s : Pv} (hw : (pW s).length ≤ 12) (hm : (pM s).length ≤ 12) (hp : (pP s).length ≤ 4) {m m' : jm_M} (h : mPv s m) (h1 : ∀ k, 3080 ≤ k → k < 3850 → m'.1 41 0 0 k = m.1 41 0 0 k) (h2 : ∀ k, 256 ≤ k → k < 320 → m'.2 42 0 0 k = m.2 42 0 0 k) (h3 : m'.1 40 0 0 19 = m.1 40 0 0 19) : mPv s m' := by
  obtain ⟨a1, a2, a3, a4, a5, a6, a7, a8, a9, a10⟩ := h
  exact ⟨by rw [h1 _ (by omega) (by omega)]; exact a1, by rw [h1 _ (by omega) (by omega)]; exact a2, by rw [h1 _ (by omega) (by omega)]; exact a3, by rw [h1 _ (by omega) (by omega)]; exact a4, by rw [h1 _ (by omega) (by omega)]; exact a5, fun j hj => mW_cp (a6 j hj) (ws_X hj) (fun k hk => h1 _ (by omega) (by omega)), fun c c1 c2 => by rw [h1 _ (by omega) (by omega)]; exact a7 c c1 c2, fun k hk => by rw [h2 _ (by omega) (by omega)]; exact a8 k hk, fun k hk => by rw [h2 _ (by omega) (by omega)]; exact a9 k hk, by rw [h3]; exact a10⟩
theorem mPv_40 {s : Pv} (ho : okPv s) {m m' : jm_M} (h : mPv s m) (f : fr P40x m m') : mPv s m' := mPv_k ho.2.2.1 ho.1 ho.2.1 h (fun k _ _ => (f 41 0 0 k (by unfold P40x; omega)).1) (fun k _ _ => (f 42 0 0 k (by unfold P40x; omega)).2) (f 40 0 0 19 (by unfold P40x; omega)).1
theorem sm_find {T : Tb} {s : Pv} {a : Nat} (hn : nmB T a = true) (ho : okPv s) {m : jm_M} (h : mFn T a m) (hp : mPv s m) (d : Nat) : jm_sem false (d + 3) jn_X12_findHere [vM, .inl (nI 304), .inl (nI (pM s).length)] m = some (.inl (jpl (ixOf (tkL T a) (pM s) 0)), m) ∧ jm_sem false (d + 3) jn_X12_findHere [vM, .inl (nI 316), .inl (nI (pP s).length)] m = some (.inl (jpl (ixOf (tkL T a) (pP s) 0)), m) := by
  have l4 := ho.2.1
  constructor
  · rw [e_X12_findHere]
    exact sm_find_loop hn ho.1 ho.2.2.2.1 (by decide) h hp.2.2.2.2.2.2.2.1 d (pM s).length 0 (by omega)
  · rw [e_X12_findHere]
    exact sm_find_loop hn (by omega) ho.2.2.2.2.1 (by decide) h hp.2.2.2.2.2.2.2.2.1 d (pP s).length 0 (by omega)
theorem tk1_4 {T : Tb} {a : Nat} (h : tkK T a = 1) : tkK T a ≠ 4 := by omega
theorem sm_newName {T : Tb} {s : Pv} {a base : Nat} (hb : base < 64) {m : jm_M} (h : mFn T a m) (hp : mPv s m) (ho : okPv s) (d : Nat) : ∃ m', jm_sem false (d + 8) jn_X12_aNewName [vM, .inl (nI base)] m = some (.inl (if (nnS T s (tkX T a)).isSome then nI 0 else nI 1), m') ∧ (match nnS T s (tkX T a) with | some f => mEr f m' | none => mFn T (tkX T (tkX T a)) m' ∧ m'.2 42 0 0 (256 + base) = lN (e8 (tkL T (tkX T a)))) ∧ fr (fun K _ _ k => (K = 40 ∧ 12 ≤ k ∧ k ≤ 18 ∧ k ≠ 16) ∨ (K = 42 ∧ k = 256 + base)) m m' := by
  obtain ⟨m1, a1, a2, a3⟩ := sm_aheadF h (d + 5)
  have p1 := mPv_40 ho hp (P40_x a3)
  have isn := sm_isName a2 d
  have n3 := p1.1
  have n5 := p1.2.2.1
  have wk : ∀ {x y : jm_M}, fr P40x x y → fr (fun K _ _ k => (K = 40 ∧ 12 ≤ k ∧ k ≤ 18 ∧ k ≠ 16) ∨ (K = 42 ∧ k = 256 + base)) x y := fun f => f.wk (fun K i j k z => Or.inl z)
  have st := e_X12_aNewName (d + 7) (nI base) m
  rw [a1, jt_bv, isn, jt_bi] at st
  cases hn : nmB T (tkX T a) with
  | false =>
    rw [nnS_1 hn]
    obtain ⟨m', e1, e2, e3⟩ := sm_fails a2 (k := 2) (by decide) (by decide) (d + 6)
    have e1 : jm_sem false (d + 7) jn_X12_fails [vM, .inl 2] m1 = some (.inl (nI 0), m') := e1
    refine ⟨m', ?_, e2, wk ((P40_x a3).tr e3)⟩
    rw [hn, if_neg (by decide), show decide (nI 0 ≠ 0) = false by decide, cond_false, e1, jt_bi, and0, cond_true] at st
    exact st
  | true =>
    obtain ⟨o, k1, -⟩ := nmB_ok hn
    obtain ⟨f1, f2⟩ := sm_find hn ho a2 p1 (d + 4)
    have i1 : jm_dec (vp_in 3080 8600) = true := jt_in (n := 3080) (N := 8600) (by decide) (by decide)
    have i2 : jm_dec (vp_in 3082 8600) = true := jt_in (n := 3082) (N := 8600) (by decide) (by decide)
    have x1 : jm_ix 3080 = 3080 := jt_ix (n := 3080) (by decide)
    have x2 : jm_ix 3082 = 3082 := jt_ix (n := 3082) (by decide)
    have f1 : jm_sem false (d + 7) jn_X12_findHere [vM, .inl 304, .inl (nI (pM s).length)] m1 = some (.inl (jpl (ixOf (tkL T (tkX T a)) (pM s) 0)), m1) := f1
    have f2 : jm_sem false (d + 7) jn_X12_findHere [vM, .inl 316, .inl (nI (pP s).length)] m1 = some (.inl (jpl (ixOf (tkL T (tkX T a)) (pP s) 0)), m1) := f2
    have l1 := ho.1
    have l2 := ho.2.1
    rw [hn, if_pos rfl, show decide (nI 1 ≠ 0) = true by decide, cond_true, i1, cond_true, x1, n3, f1, jt_bi] at st
    have fail3 : ∃ m', jm_sem false (d + 7) jn_X12_fails [vM, .inl 3] m1 = some (.inl (nI 0), m') ∧ mEr (3, tkX T a) m' ∧ fr P40x m1 m' := by
      obtain ⟨m', e1, e2, e3⟩ := sm_fails a2 (k := 3) (by decide) (by decide) (d + 6)
      rw [fltK_w (tk1_4 k1)] at e2
      exact ⟨m', e1, e2, e3⟩
    cases h7 : ixOf (tkL T (tkX T a)) (pM s) 0 with
    | some q =>
      rw [nnS_2 hn (Or.inl (by rw [h7]; rfl))]
      obtain ⟨m', e1, e2, e3⟩ := fail3
      refine ⟨m', ?_, e2, wk ((P40_x a3).tr e3)⟩
      rw [h7, jt_dt (show jpl (some q) ≠ -1 from jt_m1 (ixOf_lt (by omega) q h7)), cond_true, e1, jt_bi, and0, cond_true] at st
      exact st
    | none =>
      rw [h7, jt_df (show ¬ (jpl none ≠ -1) from fun z => z rfl), cond_false, i2, cond_true, x2, n5, f2, jt_bi] at st
      cases h8 : ixOf (tkL T (tkX T a)) (pP s) 0 with
      | some q =>
        rw [nnS_2 hn (Or.inr (by rw [h8]; rfl))]
        obtain ⟨m', e1, e2, e3⟩ := fail3
        refine ⟨m', ?_, e2, wk ((P40_x a3).tr e3)⟩
        rw [h8, jt_df (show ¬ jpl (some q) = -1 from jt_m1 (ixOf_lt (by omega) q h8)), cond_false, e1, jt_bi, and0, cond_true] at st
        exact st
      | none =>
        rw [nnS_3 hn h7 h8]
        have nh := sm_nameHere k1 a2 (d + 5)
        have g : fr (fun K _ _ k => (K = 40 ∧ 12 ≤ k ∧ k ≤ 18 ∧ k ≠ 16) ∨ (K = 42 ∧ k = 256 + base)) m1 (jm_sL m1 42 0 0 (256 + base) (lN (e8 (tkL T (tkX T a))))) := fr_L (Or.inr ⟨rfl, rfl⟩)
        have h2 : mFn T (tkX T a) (jm_sL m1 42 0 0 (256 + base) (lN (e8 (tkL T (tkX T a))))) := mFn_fr (P := fun K _ _ _ => K = 42) a2 (fr_L rfl) (fun k _ _ => by omega) (fun k => by omega)
        obtain ⟨m3, b1, b2, b3⟩ := sm_aheadF h2 (d + 5)
        refine ⟨m3, ?_, ⟨b2, ?_⟩, ((wk (P40_x a3)).tr g).tr (wk (P40_x b3))⟩
        · have bs : (256 : Int32) + nI base = nI (256 + base) := nI_add 256 base
          rw [h8, jt_dt (show jpl none = -1 from rfl), cond_true, nh, jt_bl, bs, jt_in (show 256 + base < 720 by omega) (by decide), cond_true, jt_ix (by omega), b1, jt_bv] at st
          exact st
        · rw [(b3 42 0 0 _ (by unfold P40; omega)).2, rd_LL, if_pos ⟨rfl, rfl, rfl, rfl⟩]
def mRv (T : Tb) (r : Ft ⊕ (Pv × Nat)) (m : jm_M) : Prop := match r with
  | .inl f => mEr f m
  | .inr q => mFn T q.2 m ∧ mPv q.1 m
def reV (r : Ft ⊕ (Pv × Nat)) : Int32 := match r with
  | .inl _ => nI 0
  | .inr _ => nI 1
theorem sm_aMeaning {T : Tb} {s : Pv} {a : Nat} (k1 : tkK T a = 1) {m : jm_M} (h : mFn T a m) (hp : mPv s m) (ho : okPv s) (d : Nat) : ∃ m', jm_sem false (d + 9) jn_X12_aMeaning [vM] m = some (.inl (reV (vtM T s a)), m') ∧ mRv T (vtM T s a) m' ∧ fr PMt m m' := by
  have n3 := hp.1
  have l12 := ho.1
  unfold vtM
  by_cases c : (pM s).length = 12
  · rw [if_pos c]
    obtain ⟨m', e1, e2, e3⟩ := sm_fails h (k := 6) (by decide) (by decide) (d + 7)
    rw [fltK_w (tk1_4 k1)] at e2
    refine ⟨m', ?_, e2, P40x_t e3⟩
    have a1 : nI 0 &&& nI 1 = nI 0 := rfl
    rw [c] at n3
    rw [e_X12_aMeaning]; simp (disch := omega) only [jg_lit, jg_litL, jg_m1, jg_m1L, nI_add, lN_add, pk_mul, jg_sub, jg_subM, jg_addM, jg_addM', jg_negM, jt_in, jt_ix, jt_bi, jt_bl, jt_bv, jt_lt, jg_dT, jg_dF, jt_c, jt_cd, ru_I, ru_L, jg_leI, jg_ltI, jg_eqI, jg_M1, jg_M2, jg_M3, jg_M4, jg_M5, jg_M6, jg_ltT, jg_ltF, jg_leT, jg_leF, jg_eqT, jg_eqF, cond_true, cond_false, ne_eq, not_true_eq_false, not_false_eq_true, decide_true, decide_false, if_true, if_false, and_true, true_and, and_false, false_and, or_true, true_or, or_false, false_or, Nat.reduceEqDiff, reduceIte, Nat.reduceMul, Nat.reduceAdd, Nat.reduceSub, Nat.add_zero, Nat.zero_add, Nat.mul_zero, eq_self_iff_true, jg_not_lt, jg_not_le, n3, e1, a1]
    rfl
  · rw [if_neg c]
    obtain ⟨m1, b1, b2, b3⟩ := sm_newName (base := 48 + (pM s).length) (by omega) h hp ho d
    have i1 : jm_dec (vp_in 3080 8600) = true := jt_in (n := 3080) (N := 8600) (by decide) (by decide)
    have x1 : jm_ix 3080 = 3080 := jt_ix (n := 3080) (by decide)
    have st := e_X12_aMeaning (d + 8) m
    rw [i1, cond_true, x1, n3, jt_dt (show nI (pM s).length ≠ 12 from fun z => c ((nI_eq (b := 12) (by omega) (by decide)).mp z)), cond_true, cond_true, show (48 : Int32) + nI (pM s).length = nI (48 + (pM s).length) from nI_add 48 _, b1, jt_bi, cond_true, cond_true] at st
    have ft : fr PMt m m1 := b3.wk (fun K i j k z => by unfold PMt; omega)
    cases hn : nnS T s (tkX T a) with
    | some f =>
      rw [hn] at b2 st
      refine ⟨m1, ?_, b2, ft⟩
      rw [st]
      rfl
    | none =>
      rw [hn] at b2 st
      obtain ⟨b2, b4⟩ := b2
      have n31 : m1.1 41 0 0 3080 = nI (pM s).length := by rw [(b3 41 0 0 3080 (by omega)).1]; exact n3
      have st : jm_sem false (d + 9) jn_X12_aMeaning [vM] m = some (.inl 1, jm_sI m1 41 0 0 3080 (nI ((pM s).length + 1))) := by
        rw [n31, nI_1] at st
        exact st
      refine ⟨_, st, ⟨mFn_fr (P := fun K _ _ _ => K = 41) b2 (fr_I rfl) (fun k _ _ => by omega) (fun k => by omega), ?_⟩, ft.tr (fr_I (by unfold PMt; omega))⟩
      obtain ⟨h1, h2, h3, h4, h5, h6, h7, h8, h9, h10⟩ := hp
      have ne : ∀ k, k ≠ 3080 → (jm_sI m1 41 0 0 3080 (nI ((pM s).length + 1))).1 41 0 0 k = m.1 41 0 0 k := fun k z => by rw [rd_II, if_neg (by omega), (b3 41 0 0 k (by omega)).1]
      have neL : ∀ k, k ≠ 256 + (48 + (pM s).length) → (jm_sI m1 41 0 0 3080 (nI ((pM s).length + 1))).2 42 0 0 k = m.2 42 0 0 k := fun k z => by rw [rd_IL, (b3 42 0 0 k (by omega)).2]
      refine ⟨?_, by rw [ne _ (by omega)]; exact h2, by rw [ne _ (by omega)]; exact h3, by rw [ne _ (by omega)]; exact h4, by rw [ne _ (by omega)]; exact h5, fun j hj => mW_cp (h6 j hj) (ws_X hj) (fun k hk => ne _ (by omega)), fun c c1 c2 => by rw [ne _ (by omega)]; exact h7 c c1 c2, fun k hk => ?_, fun k hk => by rw [neL _ (by omega)]; exact h9 k hk, by rw [rd_II, if_neg (by omega), (b3 40 0 0 19 (by omega)).1]; exact h10⟩
      · rw [rd_II, if_pos ⟨rfl, rfl, rfl, rfl⟩]
        show _ = nI (pM s ++ [_]).length
        rw [List.length_append, List.length_singleton]
      · have hk : k < (pM s ++ [tkL T (tkX T a)]).length := hk
        rw [List.length_append, List.length_singleton] at hk
        show _ = lN (e8 (gN (pM s ++ [tkL T (tkX T a)]) k))
        by_cases e : k = (pM s).length
        · rw [e, gN_hi, rd_IL, show 304 + (pM s).length = 256 + (48 + (pM s).length) by omega]; exact b4
        · rw [neL _ (by omega), gN_lo (by omega)]; exact h8 k (by omega)
theorem sm_aSpeaker {T : Tb} {s : Pv} {a : Nat} (k1 : tkK T a = 1) {m : jm_M} (h : mFn T a m) (hp : mPv s m) (ho : okPv s) (d : Nat) : ∃ m', jm_sem false (d + 9) jn_X12_aSpeaker [vM] m = some (.inl (reV (vtP T s a)), m') ∧ mRv T (vtP T s a) m' ∧ fr PMt m m' := by
  have n3 := hp.2.2.1
  have l12 := ho.2.1
  have lM := ho.1
  unfold vtP
  by_cases c : (pP s).length = 4
  · rw [if_pos c]
    obtain ⟨m', e1, e2, e3⟩ := sm_fails h (k := 6) (by decide) (by decide) (d + 7)
    rw [fltK_w (tk1_4 k1)] at e2
    refine ⟨m', ?_, e2, P40x_t e3⟩
    have a1 : nI 0 &&& nI 1 = nI 0 := rfl
    rw [c] at n3
    rw [e_X12_aSpeaker]; simp (disch := omega) only [jg_lit, jg_litL, jg_m1, jg_m1L, nI_add, lN_add, pk_mul, jg_sub, jg_subM, jg_addM, jg_addM', jg_negM, jt_in, jt_ix, jt_bi, jt_bl, jt_bv, jt_lt, jg_dT, jg_dF, jt_c, jt_cd, ru_I, ru_L, jg_leI, jg_ltI, jg_eqI, jg_M1, jg_M2, jg_M3, jg_M4, jg_M5, jg_M6, jg_ltT, jg_ltF, jg_leT, jg_leF, jg_eqT, jg_eqF, cond_true, cond_false, ne_eq, not_true_eq_false, not_false_eq_true, decide_true, decide_false, if_true, if_false, and_true, true_and, and_false, false_and, or_true, true_or, or_false, false_or, Nat.reduceEqDiff, reduceIte, Nat.reduceMul, Nat.reduceAdd, Nat.reduceSub, Nat.add_zero, Nat.zero_add, Nat.mul_zero, eq_self_iff_true, jg_not_lt, jg_not_le, n3, e1, a1]
    rfl
  · rw [if_neg c]
    obtain ⟨m1, b1, b2, b3⟩ := sm_newName (base := 60 + (pP s).length) (by omega) h hp ho d
    have i1 : jm_dec (vp_in 3082 8600) = true := jt_in (n := 3082) (N := 8600) (by decide) (by decide)
    have x1 : jm_ix 3082 = 3082 := jt_ix (n := 3082) (by decide)
    have st := e_X12_aSpeaker (d + 8) m
    rw [i1, cond_true, x1, n3, jt_dt (show nI (pP s).length ≠ 4 from fun z => c ((nI_eq (b := 4) (by omega) (by decide)).mp z)), cond_true, cond_true, show (60 : Int32) + nI (pP s).length = nI (60 + (pP s).length) from nI_add 60 _, b1, jt_bi, cond_true, cond_true] at st
    have ft : fr PMt m m1 := b3.wk (fun K i j k z => by unfold PMt; omega)
    cases hn : nnS T s (tkX T a) with
    | some f =>
      rw [hn] at b2 st
      refine ⟨m1, ?_, b2, ft⟩
      rw [st]
      rfl
    | none =>
      rw [hn] at b2 st
      obtain ⟨b2, b4⟩ := b2
      have n31 : m1.1 41 0 0 3082 = nI (pP s).length := by rw [(b3 41 0 0 3082 (by omega)).1]; exact n3
      have st : jm_sem false (d + 9) jn_X12_aSpeaker [vM] m = some (.inl 1, jm_sI m1 41 0 0 3082 (nI ((pP s).length + 1))) := by
        rw [n31, nI_1] at st
        exact st
      refine ⟨_, st, ⟨mFn_fr (P := fun K _ _ _ => K = 41) b2 (fr_I rfl) (fun k _ _ => by omega) (fun k => by omega), ?_⟩, ft.tr (fr_I (by unfold PMt; omega))⟩
      obtain ⟨h1, h2, h3, h4, h5, h6, h7, h8, h9, h10⟩ := hp
      have ne : ∀ k, k ≠ 3082 → (jm_sI m1 41 0 0 3082 (nI ((pP s).length + 1))).1 41 0 0 k = m.1 41 0 0 k := fun k z => by rw [rd_II, if_neg (by omega), (b3 41 0 0 k (by omega)).1]
      have neL : ∀ k, k ≠ 256 + (60 + (pP s).length) → (jm_sI m1 41 0 0 3082 (nI ((pP s).length + 1))).2 42 0 0 k = m.2 42 0 0 k := fun k z => by rw [rd_IL, (b3 42 0 0 k (by omega)).2]
      refine ⟨by rw [ne _ (by omega)]; exact h1, by rw [ne _ (by omega)]; exact h2, ?_, by rw [ne _ (by omega)]; exact h4, by rw [ne _ (by omega)]; exact h5, fun j hj => mW_cp (h6 j hj) (ws_X hj) (fun k hk => ne _ (by omega)), fun c c1 c2 => by rw [ne _ (by omega)]; exact h7 c c1 c2, fun k hk => by have hk : k < (pM s).length := hk; rw [neL _ (by omega)]; exact h8 k hk, fun k hk => ?_, by rw [rd_II, if_neg (by omega), (b3 40 0 0 19 (by omega)).1]; exact h10⟩
      · rw [rd_II, if_pos ⟨rfl, rfl, rfl, rfl⟩]
        show _ = nI (pP s ++ [_]).length
        rw [List.length_append, List.length_singleton]
      · have hk : k < (pP s ++ [tkL T (tkX T a)]).length := hk
        rw [List.length_append, List.length_singleton] at hk
        show _ = lN (e8 (gN (pP s ++ [tkL T (tkX T a)]) k))
        by_cases e : k = (pP s).length
        · rw [e, gN_hi, rd_IL, show 316 + (pP s).length = 256 + (60 + (pP s).length) by omega]; exact b4
        · rw [neL _ (by omega), gN_lo (by omega)]; exact h9 k (by omega)
