/-! ===== a LAW read (reference): ONE, BOTH, EITHER ===== -/
def smR (T : Tb) (e : Nat) (g : Option (jm_V × jm_M)) (m : jm_M) (r : Ft ⊕ Lq) (I : Lq → jm_M → Prop) : Prop := match r with
  | .inl f => ∃ m', g = some (.inl (nI 0), m') ∧ mEr f m' ∧ fr PMl m m'
  | .inr t => ∃ m' z, g = G1 e z m' ∧ mFn T t.1 m' ∧ I t m' ∧ fr PMl m m'
theorem smR_s {T : Tb} {e : Nat} {g g' : Option (jm_V × jm_M)} {m m' : jm_M} {r : Ft ⊕ Lq} {I : Lq → jm_M → Prop} (h : g = g') (f : fr PMl m m') (x : smR T e g' m' r I) : smR T e g m r I := by
  cases r with
  | inl q =>
    obtain ⟨a, b, c, d⟩ := x
    exact ⟨a, h.trans b, c, f.tr d⟩
  | inr t =>
    obtain ⟨a, z, b, c, d, k⟩ := x
    exact ⟨a, z, h.trans b, c, d, f.tr k⟩
theorem smR_b {T : Tb} {e : Nat} {g : Option (jm_V × jm_M)} {m : jm_M} {x : Ft ⊕ Lq} {f : Lq → Ft ⊕ Lq} {I J : Lq → jm_M → Prop} (h : smR T e g m x I) (k : ∀ t m' z, x = .inr t → mFn T t.1 m' → I t m' → smR T e (G1 e z m') m' (f t) J) : smR T e g m (bnd x f) J := by
  cases x with
  | inl q => exact h
  | inr t =>
    obtain ⟨a, z, b, c, d, q⟩ := h
    exact smR_s b q (k t a z rfl c d)
def smOne (T : Tb) (e r : Nat) : Prop := ∀ (σ : List Nat) (s : Lq) (m : jm_M), 3 * (T.1 - s.1) + 1 < r → σ.length ≤ 3 * wi σ + 2 → okSt σ → wi σ ≤ 6 → mFn T s.1 m → mLp σ s m → 2 * s.2.2.length ≤ s.1 → s.2.1 ≤ 24 → smR T e (G0 e m) m (lP T r 0 (wi σ) s) (mLp σ)
def smBoth (T : Tb) (e r : Nat) : Prop := ∀ (σ : List Nat) (s : Lq) (m : jm_M), 3 * (T.1 - s.1) + 2 < r → σ.length ≤ 3 * wi σ + 1 → okSt σ → wi σ ≤ 6 → σ.head? ≠ some 8 → σ.head? ≠ some 9 → mFn T s.1 m → mLp σ s m → 2 * s.2.2.length ≤ s.1 → s.2.1 ≤ 24 → smR T e (G0 e m) m (lP T r 1 (wi σ) s) (fun t m' => W3 σ t m' ∧ tkY T t.1 ≠ some 8)
def smEith (T : Tb) (e r : Nat) : Prop := ∀ (σ : List Nat) (s : Lq) (m : jm_M), 3 * (T.1 - s.1) + 3 < r → σ.length ≤ 3 * wi σ → okSt σ → wi σ ≤ 6 → σ.head? ≠ some 7 → σ.head? ≠ some 8 → σ.head? ≠ some 9 → mFn T s.1 m → mLp σ s m → 2 * s.2.2.length ≤ s.1 → s.2.1 ≤ 24 → smR T e (G0 e m) m (lP T r 2 (wi σ) s) (fun t m' => W4 σ t m' ∧ tkY T t.1 ≠ some 8 ∧ tkY T t.1 ≠ some 7)
def smL3 (T : Tb) (e r : Nat) : Prop := ∀ (σ : List Nat) (s : Lq) (m : jm_M) (z : jm_V), 3 * (T.1 - s.1) + 1 < r → σ.length ≤ 3 * wi σ + 1 → okSt σ → wi σ ≤ 6 → σ.head? ≠ some 8 → σ.head? ≠ some 9 → mFn T s.1 m → W3 σ s m → 2 * s.2.2.length ≤ s.1 → s.2.1 ≤ 24 → smR T e (G1 e z m) m (lP T r 3 (wi σ) s) (fun t m' => W3 σ t m' ∧ tkY T t.1 ≠ some 8)
def smL4 (T : Tb) (e r : Nat) : Prop := ∀ (σ : List Nat) (s : Lq) (m : jm_M) (z : jm_V), 3 * (T.1 - s.1) + 1 < r → σ.length ≤ 3 * wi σ → okSt σ → wi σ ≤ 6 → σ.head? ≠ some 7 → σ.head? ≠ some 8 → σ.head? ≠ some 9 → mFn T s.1 m → W4 σ s m → tkY T s.1 ≠ some 8 → 2 * s.2.2.length ≤ s.1 → s.2.1 ≤ 24 → smR T e (G1 e z m) m (lP T r 4 (wi σ) s) (fun t m' => W4 σ t m' ∧ tkY T t.1 ≠ some 8 ∧ tkY T t.1 ≠ some 7)
theorem sgn_k {T : Tb} {a j c : Nat} (h : tkY T a = some j) : isSgn T c a = false := decide_eq_false (fun z => by have := tkY_k h; omega)
theorem pm_7 : ∀ i, i < 24 → (pmL.getD i 0 = 7 ↔ i = 7) := by decide +kernel
theorem pm_8 : ∀ i, i < 24 → (pmL.getD i 0 = 8 ↔ i = 8) := by decide +kernel
theorem pm_9 : ∀ i, i < 24 → (pmL.getD i 0 = 9 ↔ i = 9) := by decide +kernel
theorem pm_a : ∀ k, k < 8 → pmL.getD (if k ≤ 3 then k + 10 else k + 11) 0 = 10 + k := by decide +kernel
theorem pm_x : ∀ j, j < 24 → askN j = none → pmL.getD j 0 < 10 ∨ 17 < pmL.getD j 0 := by decide +kernel
theorem sm_loop3 {T : Tb} (hT : T.1 ≤ 300) {e r : Nat} (i0 : smOne T e r) (i3 : smL3 T e r) : smL3 T e (r + 1) := by
  intro σ s m z hr hl ho hw h8 h9 h hp h2 hn
  have ha := h.1
  rw [lP_3]
  by_cases y : tkY T s.1 = some 8
  · rw [if_pos y]
    have y2 := tkY_2 y
    have g := G1_26 h (W3_st hp ho h9) (by omega) (Or.inl (sgn_k y)) e z
    rw [y, show jpl (pmO (some 8)) = nI 8 from rfl, l_X12_conditions_26, jt_df (show ¬ nI 8 = 7 by decide), cond_false, jt_df (show ¬ nI 8 ≠ 8 by decide), cond_false] at g
    obtain ⟨m1, a1, a2, a3⟩ := W3_38 (x := nI 8) hp (by omega) (by omega) e
    obtain ⟨m2, b1, b2, b3, b4⟩ := sm_38d (x := 8) (Or.inr rfl) (mFn_w h a3) a2 (by omega) ho h8 (fun z => by omega) e
    refine smR_s ((g.trans a1).trans b1) ((PMw_l a3).tr b4) ?_
    have i := i0 (8 :: σ) (lqX T s) m2 (by show 3 * (T.1 - tkX T s.1) + 1 < r; omega) (by rw [List.length_cons, wi_a]; omega) (okSt_c ho (by omega)) (by rw [wi_a]; exact hw) b2 b3 (by show 2 * s.2.2.length ≤ tkX T s.1; omega) hn
    rw [wi_a] at i
    refine smR_b i (fun t m' z' hx hF hI => ?_)
    have lb := lpR_b ((lP_ok r).1 (wi σ) (lqX T s) t (tkX_le ha) hn hx)
    have lb3 : tkX T s.1 + 1 ≤ t.1 + 0 := lb.2.2.1
    have lb4 : 2 * t.2.2.length + tkX T s.1 ≤ 2 * s.2.2.length + t.1 := lb.2.2.2
    exact i3 σ (lqE t 9) m' z' (by show 3 * (T.1 - t.1) + 1 < r; omega) hl ho hw h8 h9 hF (Or.inr ⟨t, rfl, hI⟩) (by rw [lqE_len]; show 2 * (t.2.2.length + 1) ≤ t.1; omega) lb.2.1
  · rw [if_neg y]
    exact ⟨m, z, rfl, h, ⟨hp, y⟩, .rf⟩
theorem sm_loop4 {T : Tb} (hT : T.1 ≤ 300) {e r : Nat} (i1 : smBoth T e r) (i4 : smL4 T e r) : smL4 T e (r + 1) := by
  intro σ s m z hr hl ho hw h7 h8 h9 h hp hy8 h2 hn
  have ha := h.1
  rw [lP_4]
  by_cases y : tkY T s.1 = some 7
  · rw [if_pos y]
    have y2 := tkY_2 y
    have g := G1_26 h (W4_st hp ho h9) (by omega) (Or.inl (sgn_k y)) e z
    rw [y, show jpl (pmO (some 7)) = nI 7 from rfl, l_X12_conditions_26, jt_dt (show nI 7 = 7 from rfl), cond_true] at g
    obtain ⟨m1, a1, a2, a3⟩ := W4_38 hp (by omega) (by omega) e
    obtain ⟨m2, b1, b2, b3, b4⟩ := sm_38d (x := 7) (Or.inl rfl) (mFn_w h a3) a2 (by omega) ho h8 (fun _ => h7) e
    refine smR_s ((g.trans a1).trans b1) ((PMw_l a3).tr b4) ?_
    have i := i1 (7 :: σ) (lqX T s) m2 (by show 3 * (T.1 - tkX T s.1) + 2 < r; omega) (by rw [List.length_cons, wi_o]; omega) (okSt_c ho (by omega)) (by rw [wi_o]; exact hw) (by rw [List.head?_cons]; decide) (by rw [List.head?_cons]; decide) b2 b3 (by show 2 * s.2.2.length ≤ tkX T s.1; omega) hn
    rw [wi_o] at i
    refine smR_b i (fun t m' z' hx hF hI => ?_)
    have lb := lpR_b ((lP_ok r).2.1 (wi σ) (lqX T s) t (tkX_le ha) hn hx)
    have lb3 : tkX T s.1 + 1 ≤ t.1 + 0 := lb.2.2.1
    have lb4 : 2 * t.2.2.length + tkX T s.1 ≤ 2 * s.2.2.length + t.1 := lb.2.2.2
    exact i4 σ (lqE t 10) m' z' (by show 3 * (T.1 - t.1) + 1 < r; omega) hl ho hw h7 h8 h9 hF (Or.inr ⟨t, rfl, hI.1⟩) hI.2 (by rw [lqE_len]; show 2 * (t.2.2.length + 1) ≤ t.1; omega) lb.2.1
  · rw [if_neg y]
    exact ⟨m, z, rfl, h, ⟨hp, hy8, y⟩, .rf⟩
theorem sm_both1 {T : Tb} {e r : Nat} (i0 : smOne T e r) (i3 : smL3 T e r) : smBoth T e (r + 1) := by
  intro σ s m hr hl ho hw h8 h9 h hp h2 hn
  have ha := h.1
  rw [lP_1]
  refine smR_b (i0 σ s m (by omega) (by omega) ho hw h hp h2 hn) (fun t m' z' hx hF hI => ?_)
  have lb := lpR_b ((lP_ok r).1 (wi σ) s t ha hn hx)
  exact i3 σ t m' z' (by omega) hl ho hw h8 h9 hF (Or.inl hI) (by omega) lb.2.1
theorem sm_eith1 {T : Tb} {e r : Nat} (i1 : smBoth T e r) (i4 : smL4 T e r) : smEith T e (r + 1) := by
  intro σ s m hr hl ho hw h7 h8 h9 h hp h2 hn
  have ha := h.1
  rw [lP_2]
  refine smR_b (i1 σ s m (by omega) (by omega) ho hw h8 h9 h hp h2 hn) (fun t m' z' hx hF hI => ?_)
  have lb := lpR_b ((lP_ok r).2.1 (wi σ) s t ha hn hx)
  exact i4 σ t m' z' (by omega) hl ho hw h7 h8 h9 hF (Or.inl hI.1) hI.2 (by omega) lb.2.1
/-- a not, a bracket begins to wait -/
theorem sm_push {T : Tb} {σ : List Nat} {y : Nat} {s : Lq} {m : jm_M} (h : mFn T s.1 m) (hp : mLp σ s m) (hl : σ.length < 60) (h6 : wi σ < 6) (hy : y = if isSgn T 40 s.1 = true then 40 else 9) (e : Nat) : ∃ m', jm_ev false (e + 10) 11 2 jc_X12_aOne 20 [vM, jm_j] [] m = jm_sem false (e + 11) jn_X12_aOne [vM] m' ∧ mFn T (tkX T s.1) m' ∧ mLp (y :: σ) (lqX T s) m' ∧ fr PMl m m' := by
  obtain ⟨hc, hs, h22, h23⟩ := hp
  have w : wi (y :: σ) = wi σ + 1 := if_pos (by rw [hy]; split <;> omega)
  have f0 : fr (fun K _ _ k => K = 40 ∧ k = 22) m (jm_sI m 40 0 0 22 (nI (wi σ + 1))) := fr_I ⟨rfl, rfl⟩
  have h0 : mFn T s.1 (jm_sI m 40 0 0 22 (nI (wi σ + 1))) := mFn_fr h f0 (fun k h1 h2 z => by omega) (fun k z => by omega)
  have s0 : mSt σ (jm_sI m 40 0 0 22 (nI (wi σ + 1))) := ⟨by rw [(f0 40 0 0 21 (by omega)).1]; exact hs.1, fun k hk => by rw [(f0 48 0 0 k (by omega)).1]; exact hs.2 k hk⟩
  have sg : jm_sem false (e + 10) jn_X12_isSign [vM, .inl 40] (jm_sI m 40 0 0 22 (nI (wi σ + 1))) = _ := sm_sign h0 (c := 40) (by decide) (e + 9)
  obtain ⟨m1, a1, a2, a3⟩ := sm_does (x := y) s0 hl (e + 9)
  have h1 : mFn T s.1 m1 := mFn_fr h0 a3 (fun k h1 h2 z => by omega) (fun k z => by omega)
  obtain ⟨m2, b1, b2, b3⟩ := sm_aheadF h1 (e + 8)
  have p1 : mLp (y :: σ) (lqX T s) m1 := ⟨⟨by rw [(a3 40 0 0 24 (by omega)).1, (f0 40 0 0 24 (by omega)).1]; exact hc.1, fun k hk => by rw [(a3 41 0 0 _ (by omega)).1, (f0 41 0 0 _ (by omega)).1]; exact hc.2 k hk⟩, a2, by rw [(a3 40 0 0 22 (by omega)).1, rd_II, if_pos ⟨rfl, rfl, rfl, rfl⟩, w], by rw [(a3 40 0 0 23 (by omega)).1, (f0 40 0 0 23 (by omega)).1]; exact h23⟩
  have a1 : jm_sem false (e + 10) jn_X12_does [vM, .inl (nI y)] (jm_sI m 40 0 0 22 (nI (wi σ + 1))) = some (jm_j, m1) := a1
  have b1 : jm_sem false (e + 10) jn_X12_ahead [vM] m1 = some (jm_j, m2) := b1
  refine ⟨m2, ?_, b2, mLp_40 p1 b3, ((f0.wk (fun K i j k z => by unfold PMl; omega)).tr (a3.wk (fun K i j k z => by unfold PMl; omega))).tr (P40_l b3)⟩
  rw [l_X12_aOne_20, h22, jt_dt (show nI (wi σ) ≠ 6 from nI_ne (a := wi σ) (b := 6) (by omega) (by decide) (by omega)), cond_true, nI_1, sg, jt_bi]
  have back : jm_ev false (e + 10) 11 2 jc_X12_aOne 0 [vM, jm_j] [] m2 = jm_sem false (e + 11) jn_X12_aOne [vM] m2 := (l_X12_aOne_0 (e + 10) jm_j m2).trans (e_X12_aOne (e + 10) m2).symm
  cases hs : isSgn T 40 s.1 with
  | true =>
    rw [hs, if_pos rfl] at hy
    subst hy
    have a1 : jm_sem false (e + 10) jn_X12_does [vM, .inl 40] (jm_sI m 40 0 0 22 (nI (wi σ + 1))) = some (jm_j, m1) := a1
    rw [if_pos rfl, show decide (nI 1 = 0) = false by decide, cond_false, a1, jt_bv, b1, jt_bv]
    exact back
  | false =>
    rw [hs, if_neg (by decide)] at hy
    subst hy
    have a1 : jm_sem false (e + 10) jn_X12_does [vM, .inl 9] (jm_sI m 40 0 0 22 (nI (wi σ + 1))) = some (jm_j, m1) := a1
    rw [if_neg (by decide), show decide (nI 0 = 0) = true by decide, cond_true, a1, jt_bv, b1, jt_bv]
    exact back
theorem sm_push6 {T : Tb} {σ : List Nat} {s : Lq} {m : jm_M} (h : mFn T s.1 m) (hp : mLp σ s m) (h6 : wi σ = 6) (h4 : tkK T s.1 ≠ 4) (e : Nat) : ∃ m', Cn e (jm_ev false (e + 10) 11 2 jc_X12_aOne 20 [vM, jm_j] [] m) = some (.inl (nI 0), m') ∧ mEr (7, s.1) m' ∧ fr PMl m m' := by
  have h22 := hp.2.2.1
  rw [h6] at h22
  obtain ⟨m', e1, e2, e3⟩ := sm_failK h4 (k := 7) (by decide) (by decide) h (e + 9)
  refine ⟨m', ?_, e2, P40x_l e3⟩
  have e1 : jm_bi (jm_sem false (e + 10) jn_X12_fails [vM, .inl 7] m) (fun r m => cond (decide (r &&& 1 = r)) (some ((.inl r : jm_V), m)) none) = some (.inl (nI 0), m') := e1
  rw [l_X12_aOne_20, h22, jt_df (show ¬ nI 6 ≠ 6 by decide), cond_false, e1, Cn_0]
theorem sm_one1 {T : Tb} (hT : T.1 ≤ 300) {e r : Nat} (i0 : smOne T e r) (i2 : smEith T e r) : smOne T e (r + 1) := by
  intro σ s m hr hl ho hw h hp h2 hn
  have ha := h.1
  have xa := tkX_le ha
  have iw : jm_sem false (e + 10) jn_X12_inWords [vM, v60] m = some (.inl (jpl (pmO (tkY T s.1))), m) := sm_inWords h.2.1 h.2.2.1 (e + 4)
  have sg : jm_sem false (e + 10) jn_X12_isSign [vM, .inl 40] m = _ := sm_sign h (c := 40) (by decide) (e + 9)
  have st := e_X12_aOne (e + 10) m
  rw [iw, jt_bi] at st
  have p9 := jpl_pm (T := T) (a := s.1) pm_9 (by decide)
  rw [lP_0]
  cases hk : askK T s.1 with
  | some k =>
    obtain ⟨k7, j, hj, hjk⟩ := askK_s hk
    have y2 := tkY_2 hj
    have y9 : ¬ jpl (pmO (tkY T s.1)) = 9 := fun z => by
      have := p9.mp z
      rw [hj] at this
      have := Option.some.inj this
      omega
    have s40 : isSgn T 40 s.1 = false := sgn_k hj
    have pk : jpl (pmO (tkY T s.1)) = nI (10 + k) := by
      have a := pm_a k (by omega)
      have ej : j = if k ≤ 3 then k + 10 else k + 11 := by split <;> omega
      rw [hj]
      show nI (pmL.getD j 0) = _
      rw [ej, a]
    obtain ⟨m1, a1, a2, a3⟩ := sm_aCase hk h hp (by omega) hn hw (e + 1)
    have a1 : jm_sem false (e + 10) jn_X12_aCase [vM, .inl (nI (10 + k))] m = some (.inl (reO (lOneA T (wi σ) s k)), m1) := a1
    rw [jt_df y9, cond_false, sg, s40, if_neg (by decide), jt_bi, show decide (nI 0 = 0) = true by decide, cond_true, iw, jt_bi, pk, jt_df (show ¬ nI (10 + k) < 10 from nI_nlt (a := 10 + k) (b := 10) (by omega) (by omega)), cond_false, jt_dt (show nI (10 + k) ≤ 17 from nI_le (a := 10 + k) (b := 17) (by omega) (by decide)), cond_true, a1, jt_bi] at st
    show smR T e (G0 e m) m (lOneA T (wi σ) s k) (mLp σ)
    cases hr1 : lOneA T (wi σ) s k with
    | inl f =>
      rw [hr1] at st a2
      rw [show decide (reO (.inl f) ≠ 0) = false from (by decide : decide (nI 0 ≠ 0) = false), cond_false] at st
      refine ⟨m1, ?_, a2, a3⟩
      unfold G0
      rw [st]
      exact Cn_0 e m1
    | inr t =>
      rw [hr1] at st a2
      rw [show decide (reO (.inr t) ≠ 0) = true from (by decide : decide (nI 1 ≠ 0) = true), cond_true] at st
      refine ⟨m1, .inl (nI (10 + k)), ?_, a2.1, a2.2, a3⟩
      unfold G0 G1
      rw [st]
  | none =>
    show smR T e (G0 e m) m (if tkY T s.1 = some 9 then (if 6 ≤ wi σ then (.inl (7, s.1) : Ft ⊕ Lq) else bnd (lP T r 0 (wi σ + 1) (lqX T s)) (fun t => .inr (lqE t 8))) else if isSgn T 40 s.1 = true then (if 6 ≤ wi σ then .inl (7, s.1) else bnd (lP T r 2 (wi σ + 1) (lqX T s)) (lCl T)) else .inl (flt T s.1)) (mLp σ)
    by_cases y : tkY T s.1 = some 9
    · have y2 := tkY_2 y
      rw [if_pos y]
      rw [jt_dt (show jpl (pmO (tkY T s.1)) = 9 from p9.mpr y), cond_true] at st
      have g : G0 e m = Cn e (jm_ev false (e + 10) 11 2 jc_X12_aOne 20 [vM, jm_j] [] m) := by
        unfold G0
        rw [st]
      by_cases c6 : 6 ≤ wi σ
      · rw [if_pos c6]
        obtain ⟨m1, a1, a2, a3⟩ := sm_push6 h hp (by omega) (by have := tkY_k y; omega) e
        exact ⟨m1, g.trans a1, a2, a3⟩
      · rw [if_neg c6]
        obtain ⟨m1, a1, a2, a3, a4⟩ := sm_push (y := 9) h hp (by omega) (by omega) (by rw [sgn_k y]; rfl) e
        rw [a1] at g
        refine smR_s (g' := G0 e m1) g a4 ?_
        have i := i0 (9 :: σ) (lqX T s) m1 (by show 3 * (T.1 - tkX T s.1) + 1 < r; omega) (by rw [List.length_cons, wi_n]; omega) (okSt_c ho (by omega)) (by rw [wi_n]; omega) a2 a3 (by show 2 * s.2.2.length ≤ tkX T s.1; omega) hn
        rw [wi_n] at i
        refine smR_b i (fun t m' z' hx hF hI => ?_)
        have lb := lpR_b ((lP_ok r).1 (wi σ + 1) (lqX T s) t xa hn hx)
        have lb4 : 2 * t.2.2.length + tkX T s.1 ≤ 2 * s.2.2.length + t.1 := lb.2.2.2
        obtain ⟨m2, b1, b2, b3⟩ := sm_turns1 hI (by omega) (by omega) (e + 7)
        have b1 : jm_sem false (e + 10) jn_X12_turnsRound [vM] m' = jm_sem false (e + 10) jn_X12_turnsRound [vM] m2 := b1
        refine ⟨m2, z', ?_, mFn_w hF b3, b2, PMw_l b3⟩
        unfold G1
        rw [b1]
    · rw [if_neg y]
      rw [jt_df (show ¬ jpl (pmO (tkY T s.1)) = 9 from fun z => y (p9.mp z)), cond_false, sg, jt_bi] at st
      cases hs : isSgn T 40 s.1 with
      | true =>
        have y2 := sgn_lt hs
        rw [if_pos rfl]
        rw [hs, if_pos rfl, show decide (nI 1 = 0) = false by decide, cond_false] at st
        have g : G0 e m = Cn e (jm_ev false (e + 10) 11 2 jc_X12_aOne 20 [vM, jm_j] [] m) := by
          unfold G0
          rw [st]
        by_cases c6 : 6 ≤ wi σ
        · rw [if_pos c6]
          obtain ⟨m1, a1, a2, a3⟩ := sm_push6 h hp (by omega) (by have := (of_decide_eq_true hs).1; omega) e
          exact ⟨m1, g.trans a1, a2, a3⟩
        · rw [if_neg c6]
          obtain ⟨m1, a1, a2, a3, a4⟩ := sm_push (y := 40) h hp (by omega) (by omega) (by rw [hs]; rfl) e
          rw [a1] at g
          refine smR_s (g' := G0 e m1) g a4 ?_
          have i := i2 (40 :: σ) (lqX T s) m1 (by show 3 * (T.1 - tkX T s.1) + 3 < r; omega) (by rw [List.length_cons, wi_p]; omega) (okSt_c ho (by omega)) (by rw [wi_p]; omega) (by rw [List.head?_cons]; decide) (by rw [List.head?_cons]; decide) (by rw [List.head?_cons]; decide) a2 a3 (by show 2 * s.2.2.length ≤ tkX T s.1; omega) hn
          rw [wi_p] at i
          refine smR_b i (fun t m' z' hx hF hI => ?_)
          obtain ⟨hW, hy8, hy7⟩ := hI
          have lb := lpR_b ((lP_ok r).2.2.1 (wi σ + 1) (lqX T s) t xa hn hx)
          have lb4 : 2 * t.2.2.length + tkX T s.1 ≤ 2 * s.2.2.length + t.1 := lb.2.2.2
          have ws := W4_st hW (okSt_c ho (by omega)) (by rw [List.head?_cons]; decide)
          have an : (40 :: σ).any (fun x => x == 40) = true := rfl
          unfold lCl
          by_cases z41 : isSgn T 41 t.1 = true
          · rw [if_pos z41]
            have g1 := G1_t ws (by rw [List.length_cons]; omega) e z'
            have s1 : jm_sem false (e + 10) jn_X12_isSign [vM, .inl 41] m' = _ := sm_sign hF (c := 41) (by decide) (e + 9)
            obtain ⟨σ', w1, w2, w3, w4, w5⟩ := ws
            have op := sm_isOpen w1 (by rw [List.length_cons] at w2; omega) w3 (e + 9)
            have op : jm_sem false (e + 10) jn_X12_isOpen [vM] m' = _ := op
            rw [w5, an, if_pos rfl] at op
            rw [l_X12_aOne_112, s1, z41, if_pos rfl, jt_bi, show decide (nI 1 = 0) = false by decide, cond_false, op, jt_bi, show decide (nI 1 = 0) = false by decide, cond_false] at g1
            obtain ⟨m2, b1, b2, b3⟩ := W4_128 hW (by rw [List.length_cons]; omega) (by omega) z' e
            obtain ⟨m3, c1, c2, c3, c4⟩ := sm_128p (mFn_w hF b3) b2 (by omega) z' e
            rw [b1, c1] at g1
            exact ⟨m3, z', g1, c2, c3, (PMw_l b3).tr c4⟩
          · rw [if_neg z41]
            have z41 : isSgn T 41 t.1 = false := by
              cases hh : isSgn T 41 t.1 with
              | true => exact absurd hh z41
              | false => rfl
            have g1 := G1_26 hF ws (by rw [List.length_cons]; omega) (Or.inl z41) e z'
            have n7 : ¬ jpl (pmO (tkY T t.1)) = 7 := fun z => hy7 ((jpl_pm (T := T) (a := t.1) pm_7 (by decide)).mp z)
            have n8 : ¬ jpl (pmO (tkY T t.1)) = 8 := fun z => hy8 ((jpl_pm (T := T) (a := t.1) pm_8 (by decide)).mp z)
            obtain ⟨σ', w1, w2, w3, w4, w5⟩ := ws
            have op := sm_isOpen w1 (by rw [List.length_cons] at w2; omega) w3 (e + 10)
            have op : jm_sem false (e + 11) jn_X12_isOpen [vM] m' = _ := op
            rw [w5, an, if_pos rfl] at op
            obtain ⟨m2, b1, b2, b3⟩ := sm_failB hF (e + 10)
            have b1 : jm_bi (jm_sem false (e + 11) jn_X12_fails [vM, .inl 2] m') (fun r m => cond (decide (r &&& 1 = r)) (some ((.inl r : jm_V), m)) none) = some (.inl (nI 0), m2) := b1
            rw [l_X12_conditions_26, jt_df n7, cond_false, jt_dt (show jpl (pmO (tkY T t.1)) ≠ 8 from n8), cond_true, op, jt_bi, show decide (nI 1 = 0) = false by decide, cond_false, b1] at g1
            exact ⟨m2, g1, b2, P40x_l b3⟩
      | false =>
        rw [if_neg (by decide)]
        obtain ⟨m2, b1, b2, b3⟩ := sm_failB h (e + 9)
        have b1 : jm_bi (jm_sem false (e + 10) jn_X12_fails [vM, .inl 2] m) (fun r m => cond (decide (r &&& 1 = r)) (some ((.inl r : jm_V), m)) none) = some (.inl (nI 0), m2) := b1
        refine ⟨m2, ?_, b2, P40x_l b3⟩
        rw [hs, if_neg (by decide), show decide (nI 0 = 0) = true by decide, cond_true, iw, jt_bi] at st
        unfold G0
        cases hy : tkY T s.1 with
        | none =>
          rw [hy, jt_dt (show jpl (pmO none) < 10 by decide), cond_true, b1] at st
          rw [st]
          exact Cn_0 e m2
        | some j =>
          have j24 := tkY_lt hy
          have pj := pmL_lt j j24
          have an : askN j = none := by
            have : (tkY T s.1).bind askN = none := hk
            rw [hy] at this
            exact this
          rw [hy] at st
          have st : jm_sem false (e + 11) jn_X12_aOne [vM] m = cond (jm_dec (nI (pmL.getD j 0) < 10)) _ _ := st
          rcases pm_x j j24 an with c | c
          · rw [jt_dt (show nI (pmL.getD j 0) < 10 from nI_lt (a := pmL.getD j 0) (b := 10) c (by decide)), cond_true, b1] at st
            rw [st]
            exact Cn_0 e m2
          · rw [jt_df (show ¬ nI (pmL.getD j 0) < 10 from nI_nlt (a := pmL.getD j 0) (b := 10) (by omega) (by omega)), cond_false] at st
            have st : jm_sem false (e + 11) jn_X12_aOne [vM] m = cond (jm_dec (nI (pmL.getD j 0) ≤ 17)) _ _ := st
            rw [jt_df (show ¬ nI (pmL.getD j 0) ≤ 17 from nI_ge (a := 17) (b := pmL.getD j 0) c (by omega)), cond_false, b1] at st
            rw [st]
            exact Cn_0 e m2
theorem sm_lP {T : Tb} (hT : T.1 ≤ 300) (e : Nat) : ∀ r, smOne T e r ∧ smBoth T e r ∧ smEith T e r ∧ smL3 T e r ∧ smL4 T e r
  | 0 => ⟨fun σ s m hr => absurd hr (Nat.not_lt_zero _), fun σ s m hr => absurd hr (Nat.not_lt_zero _), fun σ s m hr => absurd hr (Nat.not_lt_zero _), fun σ s m z hr => absurd hr (Nat.not_lt_zero _), fun σ s m z hr => absurd hr (Nat.not_lt_zero _)⟩
  | r + 1 => by
    obtain ⟨i0, i1, i2, i3, i4⟩ := sm_lP hT e r
    exact ⟨sm_one1 hT i0 i2, sm_both1 i0 i3, sm_eith1 i1 i4, sm_loop3 hT i0 i3, sm_loop4 hT i1 i4⟩
theorem sm_cond {T : Tb} (hT : T.1 ≤ 300) {s : Lq} {m : jm_M} (h : mFn T s.1 m) (hc : mLc s.2.2 m) (h23 : m.1 40 0 0 23 = nI s.2.1) (h2 : 2 * s.2.2.length ≤ s.1) (hn : s.2.1 ≤ 24) (e : Nat) : ∃ m', jm_sem false (e + 12) jn_X12_conditions [vM] m = some (.inl (reO (lP T (3 * T.1 + 4) 2 0 s)), m') ∧ mRl T [] (lP T (3 * T.1 + 4) 2 0 s) m' ∧ fr PMl m m' := by
  have ha := h.1
  generalize hm1 : jm_sI (jm_sI m 40 0 0 21 0) 40 0 0 22 0 = m1
  have f1 : fr (fun K _ _ k => K = 40 ∧ (k = 21 ∨ k = 22)) m m1 := by
    rw [← hm1]
    exact fr_sI (fr_sI .rf (by omega)) (by omega)
  have fl : fr PMl m m1 := f1.wk (fun K i j k z => by unfold PMl; omega)
  have h1 : mFn T s.1 m1 := mFn_fr h f1 (fun k h1 h2 z => by omega) (fun k z => by omega)
  have p1 : mLp [] s m1 := ⟨⟨by rw [(f1 40 0 0 24 (by omega)).1]; exact hc.1, fun k hk => by rw [(f1 41 0 0 _ (by omega)).1]; exact hc.2 k hk⟩, ⟨by rw [← hm1, rd_II, if_neg (by omega), rd_II, if_pos ⟨rfl, rfl, rfl, rfl⟩]; rfl, fun k hk => absurd hk (Nat.not_lt_zero k)⟩, by rw [← hm1, rd_II, if_pos ⟨rfl, rfl, rfl, rfl⟩]; rfl, by rw [(f1 40 0 0 23 (by omega)).1]; exact h23⟩
  have i := (sm_lP hT e (3 * T.1 + 4)).2.2.1 [] s m1 (by omega) (Nat.zero_le _) (fun x hx => absurd hx List.not_mem_nil) (Nat.zero_le _) (by rw [List.head?_nil]; decide) (by rw [List.head?_nil]; decide) (by rw [List.head?_nil]; decide) h1 p1 h2 hn
  have i : smR T e (G0 e m1) m1 (lP T (3 * T.1 + 4) 2 0 s) (fun t m' => W4 [] t m' ∧ tkY T t.1 ≠ some 8 ∧ tkY T t.1 ≠ some 7) := i
  have st : jm_sem false (e + 12) jn_X12_conditions [vM] m = G0 e m1 := by
    rw [e_X12_conditions, hm1]
    rfl
  cases hr : lP T (3 * T.1 + 4) 2 0 s with
  | inl f =>
    rw [hr] at i
    obtain ⟨m', a1, a2, a3⟩ := i
    exact ⟨m', st.trans a1, a2, fl.tr a3⟩
  | inr t =>
    rw [hr] at i
    obtain ⟨m', z, a1, a2, ⟨hW, hy8, hy7⟩, a3⟩ := i
    have lb := lpR_b ((lP_ok (3 * T.1 + 4)).2.2.1 0 s t ha hn hr)
    have ws := W4_st hW (fun x hx => absurd hx List.not_mem_nil) (by rw [List.head?_nil]; decide)
    have g1 := G1_26 a2 ws (by rw [List.length_nil]; omega) (Or.inr rfl) e z
    have n7 : ¬ jpl (pmO (tkY T t.1)) = 7 := fun z => hy7 ((jpl_pm (T := T) (a := t.1) pm_7 (by decide)).mp z)
    have n8 : ¬ jpl (pmO (tkY T t.1)) = 8 := fun z => hy8 ((jpl_pm (T := T) (a := t.1) pm_8 (by decide)).mp z)
    obtain ⟨σ', w1, w2, w3, w4, w5⟩ := ws
    have op := sm_isOpen w1 (by rw [List.length_nil] at w2; omega) w3 (e + 10)
    have op : jm_sem false (e + 11) jn_X12_isOpen [vM] m' = _ := op
    rw [w5, List.any_nil, if_neg (by decide)] at op
    obtain ⟨m2, b1, b2, b3⟩ := W4_110 hW (by omega) (.inl (jpl (pmO (tkY T t.1)))) e
    rw [l_X12_conditions_26, jt_df n7, cond_false, jt_dt (show jpl (pmO (tkY T t.1)) ≠ 8 from n8), cond_true, op, jt_bi, show decide (nI 0 = 0) = true by decide, cond_true, b1] at g1
    exact ⟨m2, (st.trans a1).trans g1, ⟨mFn_w a2 b3, b2⟩, (fl.tr a3).tr (PMw_l b3)⟩
