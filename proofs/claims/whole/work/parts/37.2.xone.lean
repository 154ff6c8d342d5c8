/-! ===== a LAW read (class): ONE, BOTH, EITHER ===== -/
def PLr (K i _j k : Nat) : Prop := (K = 5 ∧ 2 ≤ k ∧ k ≤ 9) ∨ (K = 13 ∧ i = 1 ∧ k = 4) ∨ (i = 1 ∧ (K = 14 ∨ K = 15)) ∨ (K = 9 ∧ k = 1)
theorem PLs_r {m m' : jm_M} (f : fr PLs m m') : fr PLr m m' := f.wk (fun K i j k z => by unfold PLs at z; unfold PLr; omega)
theorem PEm_r {m m' : jm_M} (f : fr PEm m m') : fr PLr m m' := PLs_r (PEm_s f)
theorem P5x_r {m m' : jm_M} (f : fr P5x m m') : fr PLr m m' := PLs_r (P5x_s f)
theorem P5_r {m m' : jm_M} (f : fr P5 m m') : fr PLr m m' := PLs_r (P5_s f)
def xLp (s : Lq) (m : jm_M) : Prop := xLc s.2.2 m ∧ m.1 9 0 0 1 = nI s.2.1
def xRl (T : Tb) (r : Ft ⊕ Lq) (m : jm_M) : Prop := match r with
  | .inl f => xE f m ∧ xLe m
  | .inr t => xF T t.1 m ∧ xLp t m
theorem xLp_5 {s : Lq} {m m' : jm_M} (h : xLp s m) (f : fr P5x m m') : xLp s m' := ⟨xLc_5 h.1 f, by rw [(f 9 0 0 1 (by unfold P5x; omega)).1]; exact h.2⟩
theorem xLp_Em {s : Lq} {m m' : jm_M} (h : xLp s m) (f : fr PEm m m') {C : List Ck} (hc : xLc C m') : xLp (s.1, s.2.1, C) m' := ⟨hc, by rw [(f 9 0 0 1 (by unfold PEm; omega)).1]; exact h.2⟩
theorem sx_emitL {T : Tb} {s : Lq} {m : jm_M} (h : xF T s.1 m) (hp : xLp s m) (hl : s.2.2.length < 150) (k : Nat) (hk : k = 8 ∨ k = 9 ∨ k = 10) (d : Nat) : ∃ m', jm_sem false (d + 1) jn_X2_emit [.inr (.inr (.inl (13, 1, 0))), .inl (nI k), .inl (nI 0)] m = some (jm_j, m') ∧ xF T s.1 m' ∧ xLp (lqE s k) m' ∧ fr PLr m m' := by
  obtain ⟨m', e1, e2, e3⟩ := sx_emit hp.1 hl (k, 0) d
  have w : wantX (k, 0) = 0 := by unfold wantX; rw [if_neg (by show ¬ (1 ≤ k ∧ k ≤ 3); omega)]
  rw [w] at e1
  exact ⟨m', e1, xF_Em h e3, xLp_Em hp e3 e2, PEm_r e3⟩
theorem sx_emitF {f : Ft} {m : jm_M} (h : xE f m) (he : xLe m) (x y : Int32) (d : Nat) : ∃ m', jm_sem false (d + 1) jn_X2_emit [.inr (.inr (.inl (13, 1, 0))), .inl x, .inl y] m = some (jm_j, m') ∧ (xE f m' ∧ xLe m') ∧ fr PLr m m' := by
  obtain ⟨m', e1, e2, e3⟩ := sx_emitE he x y d
  exact ⟨m', e1, ⟨xE_Em h e3, e2⟩, PEm_r e3⟩
abbrev v9 : jm_V := .inr (.inr (.inl (9, 0, 0)))
abbrev v13 : jm_V := .inr (.inr (.inl (13, 1, 0)))
/-- the loops stop at a fault -/
theorem sx_b8E {f : Ft} {m : jm_M} (h : xE f m) (x2 x3 : Int32) (d : Nat) : jm_ev false (d + 1) 3 0 jc_X3_readBoth 8 [v9, v13, .inl x2, .inl x3] [] m = some (jm_j, m) := by
  have fe := sx_fineF h d
  rw [l_X3_readBoth_8]
  cases jm_dec ((300 : Int32) ≤ x3) with
  | true => rfl
  | false => rw [cond_false, fe, jt_bi, show decide (nI 0 = 0) = true by decide, cond_true]
theorem sx_e8E {f : Ft} {m : jm_M} (h : xE f m) (x2 x3 : Int32) (d : Nat) : jm_ev false (d + 1) 3 0 jc_X3_readEither 8 [v9, v13, .inl x2, .inl x3] [] m = some (jm_j, m) := by
  have fe := sx_fineF h d
  rw [l_X3_readEither_8]
  cases jm_dec ((300 : Int32) ≤ x3) with
  | true => rfl
  | false => rw [cond_false, fe, jt_bi, show decide (nI 0 = 0) = true by decide, cond_true]
/-- what a reader of mode q does -/
def sxOne (T : Tb) (r q n cl : Nat) : Prop := ∀ (w D : Nat) (s : Lq) (m : jm_M), 3 * (T.1 - s.1) + q + 1 < r → w ≤ 6 → 3 * (6 - w) + 11 + q ≤ D → xF T s.1 m → xLp s m → 2 * s.2.2.length ≤ s.1 → s.2.1 ≤ 24 → ∃ m', jm_sem false D cl [v9, v13, .inl (nI w)] m = some (jm_j, m') ∧ xRl T (lP T r n w s) m' ∧ fr PLr m m'
def sxLoop (T : Tb) (r q n : Nat) (cd : jm_Cd) : Prop := ∀ (w D k : Nat) (s : Lq) (m : jm_M), 3 * (T.1 - s.1) + 1 < r → w ≤ 6 → 3 * (6 - w) + 11 + q ≤ D → k ≤ s.1 → xF T s.1 m → xLp s m → 2 * s.2.2.length ≤ s.1 → s.2.1 ≤ 24 → ∃ m', jm_ev false D 3 0 cd 8 [v9, v13, .inl (nI w), .inl (nI k)] [] m = some (jm_j, m') ∧ xRl T (lP T r n w s) m' ∧ fr PLr m m'
theorem xRl_l {T : Tb} {f : Ft} {m : jm_M} (h : xE f m ∧ xLe m) : xRl T (.inl f) m := h
theorem sx_blF {T : Tb} {s : Lq} {m : jm_M} (h : xF T s.1 m) (hp : xLp s m) (hl : s.2.2.length ≤ 150) (d : Nat) : ∃ m', jm_sem false (d + 2) jn_X6_blameStanding [.inr (.inr (.inl (5, 0, 0)))] m = some (jm_j, m') ∧ (xE (flt T s.1) m' ∧ xLe m') ∧ fr PLr m m' := by
  obtain ⟨m', e1, e2, e3⟩ := sx_blSt h d
  exact ⟨m', e1, ⟨e2, xLe_5 (xLc_e hp.1 hl) e3⟩, P5x_r e3⟩
theorem sx_blK {T : Tb} {s : Lq} {m : jm_M} (h : xF T s.1 m) (hp : xLp s m) (hl : s.2.2.length ≤ 150) {k : Nat} (k1 : 1 ≤ k) (k2 : k < 10) (d : Nat) : ∃ m', jm_sem false (d + 1) jn_X6_blame [.inr (.inr (.inl (5, 0, 0))), .inl (nI k)] m = some (jm_j, m') ∧ (xE (k, s.1) m' ∧ xLe m') ∧ fr PLr m m' := by
  obtain ⟨m', e1, e2, e3⟩ := sx_blame h k1 k2 d
  exact ⟨m', e1, ⟨e2, xLe_5 (xLc_e hp.1 hl) e3⟩, P5x_r e3⟩
theorem sx_one1 {T : Tb} (hT : T.1 ≤ 300) {r : Nat} (i0 : sxOne T r 0 0 jn_X3_readOne) (i2 : sxOne T r 2 2 jn_X3_readEither) : sxOne T (r + 1) 0 0 jn_X3_readOne := by
  intro w D s m hr hw hD h hp h2 hn
  have ha := h.1
  have xa := tkX_le ha
  have xg := tkX_ge ha
  obtain ⟨e, rfl⟩ : ∃ e, D = e + 11 := ⟨D - 11, by omega⟩
  have h7 := h.2.2.1.2.2.2.2.1
  have fi := sx_fineT h (e + 9)
  have as := sx_asked h (e + 9)
  have sg : jm_sem false (e + 10) jn_X6_isSign [.inr (.inr (.inl (5, 0, 0))), .inl 40] m = _ := sx_sign h (c := 40) (by decide) (e + 9)
  have st := e_X3_readOne (e + 10) 1 (nI w) m
  rw [fi, jt_bi, show decide (nI 1 ≠ 0) = true by decide, cond_true, as, jt_bi] at st
  have n9 : jm_sem false (e + 11) jn_X3_readOne [v9, v13, .inl (nI w)] m = jm_ev false (e + 10) 3 0 jc_X3_readOne 33 [v9, v13, .inl (nI w), .inl (jpl (askK T s.1)), jm_j, jm_j] [.inl (if tkY T s.1 = some 9 then nI 1 else nI 0)] m := by
    by_cases y : tkY T s.1 = some 9
    · rw [if_pos y]
      rw [y] at h7
      have h7 : m.1 5 0 0 7 = nI 9 := h7
      rw [h7, jt_df (show ¬ nI 9 ≠ 9 by decide), cond_false] at st
      exact st
    · rw [if_neg y]
      rw [jt_dt (show m.1 5 0 0 7 ≠ 9 by rw [h7]; exact jpl_ne (j := 9) (by decide) tkY_31 y), cond_true] at st
      exact st
  clear st
  have bk : 6 ≤ w → ∀ x4 x5 : Int32, ∃ m', jm_ev false (e + 10) 3 0 jc_X3_readOne 97 [v9, v13, .inl (nI w), .inl (jpl (askK T s.1)), .inl x4, .inl x5] [] m = some (jm_j, m') ∧ (xE (7, s.1) m' ∧ xLe m') ∧ fr PLr m m' := by
    intro c6 x4 x5
    obtain ⟨m', e1, e2, e3⟩ := sx_blK h hp (by omega) (k := 7) (by decide) (by decide) (e + 9)
    refine ⟨m', ?_, e2, e3⟩
    have e1 : jm_sem false (e + 10) jn_X6_blame [.inr (.inr (.inl (5, 0, 0))), .inl 7] m = some (jm_j, m') := e1
    rw [l_X3_readOne_97, jt_df (show ¬ nI w < 6 from nI_nlt (a := w) (b := 6) c6 (by omega)), cond_false, e1, jt_bv]
  rw [lP_0]
  cases hk : askK T s.1 with
  | some k =>
    rw [hk] at n9 bk
    obtain ⟨k7, j, hj, hjk⟩ := askK_s hk
    have y2 := tkY_2 hj
    have y9 : ¬ tkY T s.1 = some 9 := by
      rw [hj]
      exact fun z => by have := Option.some.inj z; omega
    have lt40 : isSgn T 40 s.1 = false := decide_eq_false (fun z => by have := tkY_k hj; omega)
    rw [if_neg y9] at n9
    have st := n9.trans (l_X3_readOne_33 (e + 10) 1 (nI w) (jpl (some k)) jm_j jm_j (nI 0) m)
    rw [sg, lt40, if_neg (by decide), jt_bi, jt_dt (show jpl (some k) ≠ -1 from jt_m1 (by omega)), cond_true, jt_df (show ¬ jpl (some k) = -1 from jt_m1 (by omega)), cond_false, hp.2] at st
    show ∃ m', _ ∧ xRl T (lOneA T w s k) m' ∧ _
    unfold lOneA
    by_cases c24 : 24 ≤ s.2.1
    · rw [if_pos c24]
      obtain ⟨m', e1, e2, e3⟩ := sx_blK h hp (by omega) (k := 6) (by decide) (by decide) (e + 9)
      refine ⟨m', ?_, e2, e3⟩
      have e1 : jm_sem false (e + 10) jn_X6_blame [.inr (.inr (.inl (5, 0, 0))), .inl 6] m = some (jm_j, m') := e1
      rw [jt_df (show ¬ nI s.2.1 < 24 from nI_nlt (a := s.2.1) (b := 24) c24 (by omega)), cond_false, e1, jt_bv] at st
      exact st
    · rw [if_neg c24]
      rw [jt_dt (show nI s.2.1 < 24 from nI_lt (a := s.2.1) (b := 24) (by omega) (by decide)), cond_true] at st
      by_cases c6 : 6 ≤ w
      · rw [if_pos c6]
        obtain ⟨m', e1, e2, e3⟩ := bk c6 (nI 0) (nI 0)
        exact ⟨m', st.trans e1, e2, e3⟩
      · rw [if_neg c6]
        have st := st.trans (l_X3_readOne_97 (e + 10) 1 (nI w) (jpl (some k)) (nI 0) (nI 0) m)
        have f0 : fr PLr m (jm_sI m 9 0 0 1 (m.1 9 0 0 1 + 1)) := fr_I (by unfold PLr; omega)
        have hF0 : xF T s.1 (jm_sI m 9 0 0 1 (m.1 9 0 0 1 + 1)) := xF_PV (P := fun K _ _ k => K = 9 ∧ k = 1) h (fr_I ⟨rfl, rfl⟩) (fun K i j k z => by omega)
        have hC0 : xLc s.2.2 (jm_sI m 9 0 0 1 (m.1 9 0 0 1 + 1)) := xLc_k hp.1 (fun K i j k z => by rw [rd_II, if_neg (by unfold PEm at z; omega)])
        obtain ⟨m1, a1, a2, a3⟩ := sx_advF hF0 (e + 2)
        obtain ⟨m2, b1, b2, b3⟩ := sx_readAsked k7 a2 (xLc_5 hC0 (P5_x a3)) (by omega) (e + 1)
        have a1 : jm_sem false (e + 10) jn_X6_advance [.inr (.inr (.inl (5, 0, 0)))] (jm_sI m 9 0 0 1 (m.1 9 0 0 1 + 1)) = some (jm_j, m1) := a1
        rw [jt_dt (show nI w < 6 from nI_lt (a := w) (b := 6) (by omega) (by decide)), cond_true, show decide (nI 0 = 0) = true by decide, cond_true, cond_true, a1, jt_bv] at st
        have b1 : jm_sem false (e + 10) jn_X3_readAsked [v9, v13, .inl (jpl (some k))] m1 = some (jm_j, m2) := b1
        rw [b1, jt_bv] at st
        refine ⟨m2, st, ?_, (f0.tr (P5_r a3)).tr (PLs_r b3)⟩
        cases he : lAsk T k (tkX T s.1) s.2.2 with
        | inl f => rw [he] at b2; exact b2
        | inr q =>
          rw [he] at b2
          refine ⟨b2.1, b2.2, ?_⟩
          rw [(b3 9 0 0 1 (by unfold PLs; omega)).1, (a3 9 0 0 1 (by unfold P5; omega)).1, rd_II, if_pos ⟨rfl, rfl, rfl, rfl⟩, hp.2, nI_1]
  | none =>
    rw [hk] at n9 bk
    have st := n9.trans (l_X3_readOne_33 (e + 10) 1 (nI w) (jpl none) jm_j jm_j _ m)
    rw [sg, jt_bi, jt_df (show ¬ jpl none ≠ -1 by decide), cond_false, jt_dt (show jpl none = -1 by decide), cond_true] at st
    show ∃ m', _ ∧ xRl T (if tkY T s.1 = some 9 then (if 6 ≤ w then (.inl (7, s.1) : Ft ⊕ Lq) else bnd (lP T r 0 (w + 1) (lqX T s)) (fun t => .inr (lqE t 8))) else if isSgn T 40 s.1 = true then (if 6 ≤ w then .inl (7, s.1) else bnd (lP T r 2 (w + 1) (lqX T s)) (lCl T)) else .inl (flt T s.1)) m' ∧ _
    by_cases y : tkY T s.1 = some 9
    · have y2 := tkY_2 y
      rw [if_pos y]
      rw [if_pos y, show decide (nI 1 ≠ 0) = true by decide, cond_true] at st
      by_cases c6 : 6 ≤ w
      · rw [if_pos c6]
        obtain ⟨m', e1, e2, e3⟩ := bk c6 (nI 1) (if isSgn T 40 s.1 = true then nI 1 else nI 0)
        exact ⟨m', st.trans e1, e2, e3⟩
      · rw [if_neg c6]
        have st := st.trans (l_X3_readOne_97 (e + 10) 1 (nI w) (jpl none) (nI 1) _ m)
        obtain ⟨m1, a1, a2, a3⟩ := sx_advF h (e + 2)
        have a1 : jm_sem false (e + 10) jn_X6_advance [.inr (.inr (.inl (5, 0, 0)))] m = some (jm_j, m1) := a1
        obtain ⟨m2, b1, b2, b3⟩ := i0 (w + 1) (e + 10) (lqX T s) m1 (by show 3 * (T.1 - tkX T s.1) + 0 + 1 < r; omega) (by omega) (by omega) a2 (xLp_5 hp (P5_x a3)) (by show 2 * s.2.2.length ≤ tkX T s.1; omega) hn
        rw [jt_dt (show nI w < 6 from nI_lt (a := w) (b := 6) (by omega) (by decide)), cond_true, show decide (nI 1 = 0) = false by decide, cond_false, a1, jt_bv, nI_1, b1, jt_bv] at st
        have f2 : fr PLr m m2 := (P5_r a3).tr b3
        cases hr2 : lP T r 0 (w + 1) (lqX T s) with
        | inl f =>
          rw [hr2] at b2
          obtain ⟨m3, c1, c2, c3⟩ := sx_emitF b2.1 b2.2 8 0 (e + 9)
          have c1 : jm_sem false (e + 10) jn_X2_emit [.inr (.inr (.inl (13, 1, 0))), .inl 8, .inl 0] m2 = some (jm_j, m3) := c1
          rw [c1, jt_bv] at st
          exact ⟨m3, st, c2, f2.tr c3⟩
        | inr t =>
          rw [hr2] at b2
          have lb := lpR_b ((lP_ok r).1 (w + 1) (lqX T s) t xa hn hr2)
          have lb4 : 2 * t.2.2.length + tkX T s.1 ≤ 2 * s.2.2.length + t.1 := lb.2.2.2
          obtain ⟨m3, c1, c2, c3, c4⟩ := sx_emitL b2.1 b2.2 (by omega) 8 (Or.inl rfl) (e + 9)
          have c1 : jm_sem false (e + 10) jn_X2_emit [.inr (.inr (.inl (13, 1, 0))), .inl 8, .inl 0] m2 = some (jm_j, m3) := c1
          rw [c1, jt_bv] at st
          exact ⟨m3, st, ⟨c2, c3⟩, f2.tr c4⟩
    · rw [if_neg y]
      rw [if_neg y, show decide (nI 0 ≠ 0) = false by decide, cond_false] at st
      cases hs : isSgn T 40 s.1 with
      | true =>
        have y2 := sgn_lt hs
        rw [if_pos rfl]
        rw [hs, if_pos rfl, show decide (nI 1 ≠ 0) = true by decide, cond_true] at st
        by_cases c6 : 6 ≤ w
        · rw [if_pos c6]
          obtain ⟨m', e1, e2, e3⟩ := bk c6 (nI 0) (nI 1)
          exact ⟨m', st.trans e1, e2, e3⟩
        · rw [if_neg c6]
          have st := st.trans (l_X3_readOne_97 (e + 10) 1 (nI w) (jpl none) (nI 0) (nI 1) m)
          obtain ⟨m1, a1, a2, a3⟩ := sx_advF h (e + 2)
          have a1 : jm_sem false (e + 10) jn_X6_advance [.inr (.inr (.inl (5, 0, 0)))] m = some (jm_j, m1) := a1
          obtain ⟨m2, b1, b2, b3⟩ := i2 (w + 1) (e + 10) (lqX T s) m1 (by show 3 * (T.1 - tkX T s.1) + 2 + 1 < r; omega) (by omega) (by omega) a2 (xLp_5 hp (P5_x a3)) (by show 2 * s.2.2.length ≤ tkX T s.1; omega) hn
          rw [jt_dt (show nI w < 6 from nI_lt (a := w) (b := 6) (by omega) (by decide)), cond_true, show decide (nI 0 = 0) = true by decide, cond_true, show decide (nI 1 = 0) = false by decide, cond_false, a1, jt_bv, nI_1, b1, jt_bv] at st
          have f2 : fr PLr m m2 := (P5_r a3).tr b3
          cases hr2 : lP T r 2 (w + 1) (lqX T s) with
          | inl f =>
            rw [hr2] at b2
            have c1 : jm_sem false (e + 10) jn_X6_passSign [.inr (.inr (.inl (5, 0, 0))), .inl 41] m2 = some (jm_j, m2) := sx_passSignE b2.1 41 (e + 7)
            rw [c1, jt_bv] at st
            exact ⟨m2, st, b2, f2⟩
          | inr t =>
            rw [hr2] at b2
            have lb := lpR_b ((lP_ok r).2.2.1 (w + 1) (lqX T s) t xa hn hr2)
            have lb4 : 2 * t.2.2.length + tkX T s.1 ≤ 2 * s.2.2.length + t.1 := lb.2.2.2
            obtain ⟨m3, c1, c2, c3⟩ := sx_passSign b2.1 (c := 41) (by decide) (e + 1)
            have c1 : jm_sem false (e + 10) jn_X6_passSign [.inr (.inr (.inl (5, 0, 0))), .inl 41] m2 = some (jm_j, m3) := c1
            rw [c1, jt_bv] at st
            refine ⟨m3, st, ?_, f2.tr (P5x_r c3)⟩
            show xRl T (lCl T t) m3
            unfold lCl
            by_cases z : isSgn T 41 t.1 = true
            · rw [if_pos z] at c2 ⊢
              exact ⟨c2, xLp_5 b2.2 c3⟩
            · rw [if_neg z] at c2 ⊢
              exact ⟨c2, xLe_5 (xLc_e b2.2.1 (by omega)) c3⟩
      | false =>
        rw [if_neg (by decide)]
        rw [hs, if_neg (by decide), show decide (nI 0 ≠ 0) = false by decide, cond_false] at st
        obtain ⟨m', e1, e2, e3⟩ := sx_blF h hp (by omega) (e + 8)
        have e1 : jm_sem false (e + 10) jn_X6_blameStanding [.inr (.inr (.inl (5, 0, 0)))] m = some (jm_j, m') := e1
        rw [e1, jt_bv] at st
        exact ⟨m', st, e2, e3⟩
theorem sx_both1 {T : Tb} (hT : T.1 ≤ 300) {r : Nat} (i0 : sxOne T r 0 0 jn_X3_readOne) (i3 : sxLoop T r 0 3 jc_X3_readBoth) : sxOne T (r + 1) 1 1 jn_X3_readBoth := by
  intro w D s m hr hw hD h hp h2 hn
  have ha := h.1
  obtain ⟨e, rfl⟩ : ∃ e, D = e + 12 := ⟨D - 12, by omega⟩
  obtain ⟨m1, a1, a2, a3⟩ := i0 w (e + 11) s m (by omega) hw (by omega) h hp h2 hn
  have st := e_X3_readBoth (e + 11) 1 (nI w) m
  rw [a1, jt_bv] at st
  rw [lP_1]
  cases hr2 : lP T r 0 w s with
  | inl f =>
    rw [hr2] at a2
    exact ⟨m1, st.trans (sx_b8E a2.1 (nI w) 0 (e + 10)), a2, a3⟩
  | inr t =>
    rw [hr2] at a2
    have lb := lpR_b ((lP_ok r).1 w s t ha hn hr2)
    obtain ⟨m2, b1, b2, b3⟩ := i3 w (e + 11) 0 t m1 (by omega) hw (by omega) (Nat.zero_le _) a2.1 a2.2 (by omega) lb.2.1
    exact ⟨m2, st.trans b1, b2, a3.tr b3⟩
theorem sx_either1 {T : Tb} (hT : T.1 ≤ 300) {r : Nat} (i0 : sxOne T r 1 1 jn_X3_readBoth) (i3 : sxLoop T r 1 4 jc_X3_readEither) : sxOne T (r + 1) 2 2 jn_X3_readEither := by
  intro w D s m hr hw hD h hp h2 hn
  have ha := h.1
  obtain ⟨e, rfl⟩ : ∃ e, D = e + 13 := ⟨D - 13, by omega⟩
  obtain ⟨m1, a1, a2, a3⟩ := i0 w (e + 12) s m (by omega) hw (by omega) h hp h2 hn
  have st := e_X3_readEither (e + 12) 1 (nI w) m
  rw [a1, jt_bv] at st
  rw [lP_2]
  cases hr2 : lP T r 1 w s with
  | inl f =>
    rw [hr2] at a2
    exact ⟨m1, st.trans (sx_e8E a2.1 (nI w) 0 (e + 11)), a2, a3⟩
  | inr t =>
    rw [hr2] at a2
    have lb := lpR_b ((lP_ok r).2.1 w s t ha hn hr2)
    obtain ⟨m2, b1, b2, b3⟩ := i3 w (e + 12) 0 t m1 (by omega) hw (by omega) (Nat.zero_le _) a2.1 a2.2 (by omega) lb.2.1
    exact ⟨m2, st.trans b1, b2, a3.tr b3⟩
theorem sx_loop3 {T : Tb} (hT : T.1 ≤ 300) {r : Nat} (i0 : sxOne T r 0 0 jn_X3_readOne) (i3 : sxLoop T r 0 3 jc_X3_readBoth) : sxLoop T (r + 1) 0 3 jc_X3_readBoth := by
  intro w D k s m hr hw hD hk h hp h2 hn
  have ha := h.1
  have xa := tkX_le ha
  obtain ⟨e, rfl⟩ : ∃ e, D = e + 11 := ⟨D - 11, by omega⟩
  have h7 := h.2.2.1.2.2.2.2.1
  have fi := sx_fineT h (e + 10)
  have st := l_X3_readBoth_8 (e + 11) 1 (nI w) (nI k) m
  rw [lP_3]
  by_cases y : tkY T s.1 = some 8
  · have y2 := tkY_2 y
    rw [if_pos y]
    rw [y] at h7
    have h7 : m.1 5 0 0 7 = nI 8 := h7
    obtain ⟨m1, a1, a2, a3⟩ := sx_advF h (e + 3)
    have a1 : jm_sem false (e + 11) jn_X6_advance [.inr (.inr (.inl (5, 0, 0)))] m = some (jm_j, m1) := a1
    obtain ⟨m2, b1, b2, b3⟩ := i0 w (e + 11) (lqX T s) m1 (by show 3 * (T.1 - tkX T s.1) + 0 + 1 < r; omega) hw (by omega) a2 (xLp_5 hp (P5_x a3)) (by show 2 * s.2.2.length ≤ tkX T s.1; omega) hn
    have fi : jm_sem false (e + 11) jn_X6_isFine [.inr (.inr (.inl (5, 0, 0)))] m = some (.inl (nI 1), m) := fi
    rw [jt_df (show ¬ (300 : Int32) ≤ nI k from nI_ge (b := 300) (a := k) (by omega) (by decide)), cond_false, fi, jt_bi, show decide (nI 1 = 0) = false by decide, cond_false, h7, jt_df (show ¬ nI 8 ≠ 8 by decide), cond_false, a1, jt_bv, b1, jt_bv] at st
    have f2 : fr PLr m m2 := (P5_r a3).tr b3
    cases hr2 : lP T r 0 w (lqX T s) with
    | inl f =>
      rw [hr2] at b2
      obtain ⟨m3, c1, c2, c3⟩ := sx_emitF b2.1 b2.2 9 0 (e + 10)
      have c1 : jm_sem false (e + 11) jn_X2_emit [.inr (.inr (.inl (13, 1, 0))), .inl 9, .inl 0] m2 = some (jm_j, m3) := c1
      rw [c1, jt_bv] at st
      exact ⟨m3, st.trans (sx_b8E c2.1 (nI w) _ (e + 10)), c2, f2.tr c3⟩
    | inr t =>
      rw [hr2] at b2
      have lb := lpR_b ((lP_ok r).1 w (lqX T s) t xa hn hr2)
      have lb3 : tkX T s.1 + 1 ≤ t.1 + 0 := lb.2.2.1
      have lb4 : 2 * t.2.2.length + tkX T s.1 ≤ 2 * s.2.2.length + t.1 := lb.2.2.2
      obtain ⟨m3, c1, c2, c3, c4⟩ := sx_emitL b2.1 b2.2 (by omega) 9 (by omega) (e + 10)
      have c1 : jm_sem false (e + 11) jn_X2_emit [.inr (.inr (.inl (13, 1, 0))), .inl 9, .inl 0] m2 = some (jm_j, m3) := c1
      obtain ⟨m4, d1, d2, d3⟩ := i3 w (e + 11) (k + 1) (lqE t 9) m3 (by show 3 * (T.1 - t.1) + 1 < r; omega) hw (by omega) (by show k + 1 ≤ t.1; omega) c2 c3 (by show 2 * (t.2.2 ++ [(9, 0)]).length ≤ t.1; rw [List.length_append, List.length_singleton]; omega) lb.2.1
      rw [c1, jt_bv, nI_1] at st
      exact ⟨m4, st.trans d1, d2, (f2.tr c4).tr d3⟩
  · rw [if_neg y]
    refine ⟨m, ?_, ⟨h, hp⟩, .rf⟩
    rw [st]
    have fi : jm_sem false (e + 11) jn_X6_isFine [.inr (.inr (.inl (5, 0, 0)))] m = some (.inl (nI 1), m) := fi
    cases jm_dec ((300 : Int32) ≤ nI k) with
    | true => rfl
    | false => rw [cond_false, fi, jt_bi, show decide (nI 1 = 0) = false by decide, cond_false, jt_dt (show m.1 5 0 0 7 ≠ 8 by rw [h7]; exact jpl_ne (j := 8) (by decide) tkY_31 y), cond_true]
theorem sx_loop4 {T : Tb} (hT : T.1 ≤ 300) {r : Nat} (i0 : sxOne T r 1 1 jn_X3_readBoth) (i3 : sxLoop T r 1 4 jc_X3_readEither) : sxLoop T (r + 1) 1 4 jc_X3_readEither := by
  intro w D k s m hr hw hD hk h hp h2 hn
  have ha := h.1
  have xa := tkX_le ha
  obtain ⟨e, rfl⟩ : ∃ e, D = e + 12 := ⟨D - 12, by omega⟩
  have h7 := h.2.2.1.2.2.2.2.1
  have fi := sx_fineT h (e + 11)
  have st := l_X3_readEither_8 (e + 12) 1 (nI w) (nI k) m
  rw [lP_4]
  by_cases y : tkY T s.1 = some 7
  · have y2 := tkY_2 y
    rw [if_pos y]
    rw [y] at h7
    have h7 : m.1 5 0 0 7 = nI 7 := h7
    obtain ⟨m1, a1, a2, a3⟩ := sx_advF h (e + 4)
    have a1 : jm_sem false (e + 12) jn_X6_advance [.inr (.inr (.inl (5, 0, 0)))] m = some (jm_j, m1) := a1
    obtain ⟨m2, b1, b2, b3⟩ := i0 w (e + 12) (lqX T s) m1 (by show 3 * (T.1 - tkX T s.1) + 1 + 1 < r; omega) hw (by omega) a2 (xLp_5 hp (P5_x a3)) (by show 2 * s.2.2.length ≤ tkX T s.1; omega) hn
    have fi : jm_sem false (e + 12) jn_X6_isFine [.inr (.inr (.inl (5, 0, 0)))] m = some (.inl (nI 1), m) := fi
    rw [jt_df (show ¬ (300 : Int32) ≤ nI k from nI_ge (b := 300) (a := k) (by omega) (by decide)), cond_false, fi, jt_bi, show decide (nI 1 = 0) = false by decide, cond_false, h7, jt_df (show ¬ nI 7 ≠ 7 by decide), cond_false, a1, jt_bv, b1, jt_bv] at st
    have f2 : fr PLr m m2 := (P5_r a3).tr b3
    cases hr2 : lP T r 1 w (lqX T s) with
    | inl f =>
      rw [hr2] at b2
      obtain ⟨m3, c1, c2, c3⟩ := sx_emitF b2.1 b2.2 10 0 (e + 11)
      have c1 : jm_sem false (e + 12) jn_X2_emit [.inr (.inr (.inl (13, 1, 0))), .inl 10, .inl 0] m2 = some (jm_j, m3) := c1
      rw [c1, jt_bv] at st
      exact ⟨m3, st.trans (sx_e8E c2.1 (nI w) _ (e + 11)), c2, f2.tr c3⟩
    | inr t =>
      rw [hr2] at b2
      have lb := lpR_b ((lP_ok r).2.1 w (lqX T s) t xa hn hr2)
      have lb3 : tkX T s.1 + 1 ≤ t.1 + 0 := lb.2.2.1
      have lb4 : 2 * t.2.2.length + tkX T s.1 ≤ 2 * s.2.2.length + t.1 := lb.2.2.2
      obtain ⟨m3, c1, c2, c3, c4⟩ := sx_emitL b2.1 b2.2 (by omega) 10 (by omega) (e + 11)
      have c1 : jm_sem false (e + 12) jn_X2_emit [.inr (.inr (.inl (13, 1, 0))), .inl 10, .inl 0] m2 = some (jm_j, m3) := c1
      obtain ⟨m4, d1, d2, d3⟩ := i3 w (e + 12) (k + 1) (lqE t 10) m3 (by show 3 * (T.1 - t.1) + 1 < r; omega) hw (by omega) (by show k + 1 ≤ t.1; omega) c2 c3 (by show 2 * (t.2.2 ++ [(10, 0)]).length ≤ t.1; rw [List.length_append, List.length_singleton]; omega) lb.2.1
      rw [c1, jt_bv, nI_1] at st
      exact ⟨m4, st.trans d1, d2, (f2.tr c4).tr d3⟩
  · rw [if_neg y]
    refine ⟨m, ?_, ⟨h, hp⟩, .rf⟩
    rw [st]
    have fi : jm_sem false (e + 12) jn_X6_isFine [.inr (.inr (.inl (5, 0, 0)))] m = some (.inl (nI 1), m) := fi
    cases jm_dec ((300 : Int32) ≤ nI k) with
    | true => rfl
    | false => rw [cond_false, fi, jt_bi, show decide (nI 1 = 0) = false by decide, cond_false, jt_dt (show m.1 5 0 0 7 ≠ 7 by rw [h7]; exact jpl_ne (j := 7) (by decide) tkY_31 y), cond_true]
theorem sx_lP {T : Tb} (hT : T.1 ≤ 300) : ∀ r, sxOne T r 0 0 jn_X3_readOne ∧ sxOne T r 1 1 jn_X3_readBoth ∧ sxOne T r 2 2 jn_X3_readEither ∧ sxLoop T r 0 3 jc_X3_readBoth ∧ sxLoop T r 1 4 jc_X3_readEither
  | 0 => ⟨fun w D s m hr => absurd hr (Nat.not_lt_zero _), fun w D s m hr => absurd hr (Nat.not_lt_zero _), fun w D s m hr => absurd hr (Nat.not_lt_zero _), fun w D k s m hr => absurd hr (Nat.not_lt_zero _), fun w D k s m hr => absurd hr (Nat.not_lt_zero _)⟩
  | r + 1 => by
    obtain ⟨i0, i1, i2, i3, i4⟩ := sx_lP hT r
    exact ⟨sx_one1 hT i0 i2, sx_both1 hT i0 i3, sx_either1 hT i1 i4, sx_loop3 hT i0 i3, sx_loop4 hT i1 i4⟩
