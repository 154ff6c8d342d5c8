/-! ===== a VILLAGE read (reference): a word whole; soft letters ===== -/
theorem nmB_k {T : Tb} {a : Nat} (h : ¬ (tkK T a = 1 ∧ (tkL T a).length ≤ 8)) : nmB T a = false := decide_eq_false (fun z => h ⟨z.1, z.2.1⟩)
theorem sm_aWord {T : Tb} {s : Pv} {a : Nat} (k1 : tkK T a = 1) {m : jm_M} (h : mFn T a m) (hp : mPv s m) (ho : okPv s) (d : Nat) : ∃ m', jm_sem false (d + 9) jn_X12_aWord [vM] m = some (.inl (reV (vtW2 T s a)), m') ∧ mRv T (vtW2 T s a) m' ∧ fr PMt m m' := by
  have n4 := hp.2.1
  have l12 := ho.2.2.1
  have lM := ho.1
  have lP := ho.2.1
  have i1 : jm_dec (vp_in 3081 8600) = true := jt_in (n := 3081) (N := 8600) (by decide) (by decide)
  have x1 : jm_ix 3081 = 3081 := jt_ix (n := 3081) (by decide)
  have ro : jm_sem false (d + 8) jn_X12_rowOf [.inl 3080, .inl (nI (pW s).length)] m = some (.inl (nI (3090 + 40 * (pW s).length)), m) := sm_rowOf (d + 7) 3080 (pW s).length m
  have st := e_X12_aWord (d + 8) m
  rw [i1, cond_true, x1, n4, ro, jt_bi] at st
  unfold vtW2
  by_cases c : (pW s).length = 12
  · rw [if_pos c]
    obtain ⟨m', e1, e2, e3⟩ := sm_fails h (k := 6) (by decide) (by decide) (d + 7)
    rw [fltK_w (tk1_4 k1)] at e2
    have e1 : jm_sem false (d + 8) jn_X12_fails [vM, .inl 6] m = some (.inl (nI 0), m') := e1
    refine ⟨m', ?_, e2, P40x_t e3⟩
    rw [c, jt_df (show ¬ (nI 12 ≠ 12) from fun z => z rfl), cond_false, e1, jt_bi, and0, cond_true] at st
    exact st
  · rw [if_neg c]
    obtain ⟨m1, a1, a2, a3⟩ := sm_aheadF h (d + 6)
    rw [jt_dt (show nI (pW s).length ≠ 12 from fun z => c ((nI_eq (b := 12) (by omega) (by decide)).mp z)), cond_true, a1, jt_bv] at st
    have p1 := mPv_40 ho hp (P40_x a3)
    have h12 := a2.2.2.1.1
    have h13 := a2.2.2.1.2.1
    have h14 := a2.2.2.1.2.2.1
    have ln := tkL_len T (tkX T a)
    have te := tkE_le a2.1
    have tg := tkE_ge T (tkX T a)
    have h9 := a2.2.1.1.1
    have kd := kdM_le (tkK T (tkX T a))
    have sz : nI (tkE T (tkX T a)) - nI (tkX T a) = nI (tkE T (tkX T a) - tkX T a) := jg_sub tg
    rw [h12] at st
    have fail2 : ∃ m', jm_sem false (d + 8) jn_X12_fails [vM, .inl 2] m1 = some (.inl (nI 0), m') ∧ mEr (flt T (tkX T a)) m' ∧ fr P40x m1 m' := sm_fails a2 (k := 2) (by decide) (by decide) (d + 7)
    by_cases kb : tkK T (tkX T a) = 1
    · rw [kd_w.mpr kb, jt_df (show ¬ (nI 2 ≠ 2) from fun z => z rfl), cond_false, h14, h13, sz] at st
      by_cases c8 : (tkL T (tkX T a)).length ≤ 8
      · rw [if_neg (fun z => z ⟨kb, c8⟩)]
        have f2 : fr (PA (3090 + 40 * (pW s).length) 9) m1 (jm_sI m1 41 0 0 (3090 + 40 * (pW s).length) (nI (tkE T (tkX T a) - tkX T a))) := fr_I (by unfold PA; omega)
        have h2 := mFn_fr a2 f2 (fun k _ _ z => by unfold PA at z; omega) (fun k z => by unfold PA at z; omega)
        obtain ⟨m3, u1, u2, u3⟩ := sm_w82 (T := T) (a := tkX T a) (row := 3090 + 40 * (pW s).length) kb (by omega) (nI (pW s).length) jm_j (d + 7) (tkE T (tkX T a) - tkX T a) 0 _ (by omega) (by omega) h2 (fun q hq => by omega)
        have f3 : fr (PA (3090 + 40 * (pW s).length) 9) m1 m3 := f2.tr (u3.wk (fun K i j k z => by unfold PA at z ⊢; omega))
        have h3 := mFn_fr a2 f3 (fun k _ _ z => by unfold PA at z; omega) (fun k z => by unfold PA at z; omega)
        have g13 : (jm_sI m1 41 0 0 (3090 + 40 * (pW s).length) (nI (tkE T (tkX T a) - tkX T a))).1 40 0 0 13 = nI (tkX T a) := h2.2.2.1.2.1
        rw [jt_dt (show nI (tkE T (tkX T a) - tkX T a) ≤ 8 from nI_le (b := 8) (by omega) (by decide)), cond_true, i41 (show 3090 + 40 * (pW s).length < 8600 by omega), cond_true, jt_ix (by omega), g13] at st
        have u1 : jm_ev false (d + 8) 11 2 jc_X12_aWord 82 [vM, .inl (nI (pW s).length), .inl (nI (3090 + 40 * (pW s).length)), .inl (nI (tkX T a)), jm_j] [] (jm_sI m1 41 0 0 (3090 + 40 * (pW s).length) (nI (tkE T (tkX T a) - tkX T a))) = jm_ev false (d + 8) 11 2 jc_X12_aWord 123 [vM, .inl (nI (pW s).length), .inl (nI (3090 + 40 * (pW s).length)), .inl (nI 0), jm_j] [] m3 := u1
        have st : jm_sem false (d + 9) jn_X12_aWord [vM] m = jm_ev false (d + 8) 11 2 jc_X12_aWord 123 [vM, .inl (nI (pW s).length), .inl (nI (3090 + 40 * (pW s).length)), .inl (nI 0), jm_j] [] m3 := st.trans u1
        have r3 : mR (tkL T (tkX T a)) (3090 + 40 * (pW s).length) m3 := by
          refine ⟨c8, ?_, fun q hq => u2 q (by omega)⟩
          rw [(u3 41 0 0 _ (by unfold PA; omega)).1, rd_II, if_pos ⟨rfl, rfl, rfl, rfl⟩, ln]
        have p3 : mPv s m3 := by
          obtain ⟨b1, b2, b3, b4, b5, b6, b7, b8, b9, b10⟩ := p1
          have ne : ∀ k, k < 3090 + 40 * (pW s).length ∨ 3570 ≤ k → m3.1 41 0 0 k = m1.1 41 0 0 k := fun k z => (f3 41 0 0 k (by unfold PA; omega)).1
          have neL : ∀ k, m3.2 42 0 0 k = m1.2 42 0 0 k := fun k => (f3 42 0 0 k (by unfold PA; omega)).2
          exact ⟨by rw [ne _ (by omega)]; exact b1, by rw [ne _ (by omega)]; exact b2, by rw [ne _ (by omega)]; exact b3, by rw [ne _ (by omega)]; exact b4, by rw [ne _ (by omega)]; exact b5, fun j hj => mW_cp (b6 j hj) (ws_X hj) (fun k hk => ne _ (by omega)), fun c c1 c2 => by rw [ne _ (by omega)]; exact b7 c c1 c2, fun k hk => by rw [neL]; exact b8 k hk, fun k hk => by rw [neL]; exact b9 k hk, by rw [(f3 40 0 0 19 (by unfold PA; omega)).1]; exact b10⟩
        have ft3 : fr PMt m m3 := (P40_t a3).tr (f3.wk (fun K i j k z => by unfold PA at z; unfold PMt; omega))
        obtain ⟨w1, w2⟩ := sm_w123 ho h3 kb c8 p3 r3 (by omega) jm_j (d + 6) (pW s).length 0 (by omega)
        rw [List.drop_zero] at w1 w2
        cases hi : ixOf (tkL T (tkX T a)) ((pW s).map (fun q => q.1)) 0 with
        | some q =>
          rw [if_pos (show (some q).isSome = true from rfl)]
          obtain ⟨m', e1, e2, e3⟩ := w1 q hi
          exact ⟨m', st.trans e1, e2, ft3.tr (P40x_t e3)⟩
        | none =>
          rw [if_neg (show ¬ (none : Option Nat).isSome = true from fun z => by cases z)]
          have st := st.trans (w2 hi)
          obtain ⟨m4, v1, v2, v3⟩ := sm_aheadF h3 (d + 6)
          obtain ⟨m5, y1, y2, y3⟩ := sm_wantWord v2 (j := 2) (by decide) (d + 1)
          have y1 : jm_sem false (d + 8) jn_X12_wantWord [vM, .inr (.inr (.inl (60, 2, 0))), .inl 4] m4 = some (.inl (if tkY T (tkX T (tkX T a)) = some 2 then nI 1 else nI 0), m5) := y1
          have ex := l_X12_aWord_123 (d + 8) (nI (pW s).length) (nI (3090 + 40 * (pW s).length)) (nI (pW s).length) jm_j m3
          rw [jt_dt (nI_le (Nat.le_refl (pW s).length) (by omega)), cond_true, v1, jt_bv, y1, jt_bi] at ex
          have st := st.trans ex
          have p5 := mPv_40 ho (mPv_40 ho p3 (P40_x v3)) y3
          have ft5 : fr PMt m m5 := (ft3.tr (P40_t v3)).tr (P40x_t y3)
          by_cases c2 : tkY T (tkX T (tkX T a)) = some 2
          · rw [if_neg (fun z => z c2)]
            rw [if_pos c2] at y2
            rw [if_pos c2, show decide (nI 1 ≠ 0) = true by decide, cond_true] at st
            have isn := sm_isName y2 (d + 1)
            rw [isn, jt_bi] at st
            cases hn : nmB T (tkX T (tkX T (tkX T a))) with
            | false =>
              have e0 : mnM T (pM s) 13 0 (tkX T (tkX T (tkX T a))) = .inl (flt T (tkX T (tkX T (tkX T a)))) := by
                show (if nmB T _ = false then (if (0 : Nat) = 0 then Sum.inl _ else _) else _) = _
                rw [if_pos hn, if_pos rfl]
              rw [e0]
              obtain ⟨m', e1, e2, e3⟩ := sm_fails y2 (k := 2) (by decide) (by decide) (d + 7)
              have e1 : jm_sem false (d + 8) jn_X12_fails [vM, .inl 2] m5 = some (.inl (nI 0), m') := e1
              refine ⟨m', ?_, e2, ft5.tr (P40x_t e3)⟩
              rw [hn, if_neg (by decide), show decide (nI 0 ≠ 0) = false by decide, cond_false, e1, jt_bi, and0, cond_true] at st
              exact st
            | true =>
              rw [hn, if_pos rfl, show decide (nI 1 ≠ 0) = true by decide, cond_true] at st
              have lp := sm_w188 (T := T) ho (3090 + 40 * (pW s).length) (.inl (nI (pW s).length)) d 13 0 0 (tkX T (tkX T (tkX T a))) jm_j m5 rfl (Nat.zero_le _) (by decide) (fun _ => hn) y2 p5
              cases hr : mnM T (pM s) 13 0 (tkX T (tkX T (tkX T a))) with
              | inl f =>
                rw [hr] at lp
                obtain ⟨m', e1, e2, e3⟩ := lp
                exact ⟨m', st.trans e1, e2, ft5.tr (P40x_t e3)⟩
              | inr q =>
                rw [hr] at lp
                obtain ⟨m6, y4, e1, e2, e3, e4⟩ := lp
                have st := st.trans e1
                have isn6 := sm_isName e3 (d + 1)
                rw [e2, if_neg (by decide)] at isn6
                have f6 : fr P40x m3 m6 := ((P40_x v3).tr y3).tr e4
                have r6 : mR (tkL T (tkX T a)) (3090 + 40 * (pW s).length) m6 := mR_cp r3 (fun k hk => (f6 41 0 0 _ (by unfold P40x; omega)).1)
                obtain ⟨m7, g1, g2, g3⟩ := sm_fresh (b := 3090 + 40 * (pW s).length) (by omega) r6 (d + 7) q.1
                have p6 := mPv_40 ho p5 e4
                have n47 : m7.1 41 0 0 3081 = nI (pW s).length := by rw [(g3 41 0 0 3081 (by unfold PA; omega)).1]; exact p6.2.1
                have ex2 := l_X12_aWord_188 (d + 8) (.inl (nI (pW s).length)) (nI (3090 + 40 * (pW s).length)) (nI q.1) y4 m6
                rw [isn6, jt_bi, show decide (nI 0 = 0) = true by decide, cond_true, g1, jt_bv, i1, cond_true, cond_true, x1, n47, nI_1] at ex2
                refine ⟨_, st.trans ex2, ⟨mFn_fr (P := fun K _ _ _ => K = 41) e3 ((g3.wk (fun K i j k z => z.1)).tr (fr_I rfl)) (fun k _ _ => by omega) (fun k => by omega), ?_⟩, ((ft5.tr (P40x_t e4)).tr (g3.wk (fun K i j k z => by unfold PA at z; unfold PMt; omega))).tr (fr_I (by unfold PMt; omega))⟩
                obtain ⟨b1, b2, b3, b4, b5, b6, b7, b8, b9, b10⟩ := p6
                have ne : ∀ k, k ≠ 3081 → (k < 3090 + 40 * (pW s).length ∨ 3570 ≤ k) → (jm_sI m7 41 0 0 3081 (nI ((pW s).length + 1))).1 41 0 0 k = m6.1 41 0 0 k := fun k z1 z => by rw [rd_II, if_neg (by omega), (g3 41 0 0 k (by unfold PA; omega)).1]
                have neL : ∀ k, (jm_sI m7 41 0 0 3081 (nI ((pW s).length + 1))).2 42 0 0 k = m6.2 42 0 0 k := fun k => by rw [rd_IL, (g3 42 0 0 k (by unfold PA; omega)).2]
                refine ⟨by rw [ne _ (by omega) (by omega)]; exact b1, ?_, by rw [ne _ (by omega) (by omega)]; exact b3, by rw [ne _ (by omega) (by omega)]; exact b4, by rw [ne _ (by omega) (by omega)]; exact b5, fun j hj => ?_, fun c c1 c2 => by rw [ne _ (by omega) (by omega)]; exact b7 c c1 c2, fun k hk => by rw [neL]; exact b8 k hk, fun k hk => by rw [neL]; exact b9 k hk, by rw [rd_II, if_neg (by omega), (g3 40 0 0 19 (by unfold PA; omega)).1]; exact b10⟩
                · rw [rd_II, if_pos ⟨rfl, rfl, rfl, rfl⟩]
                  show _ = nI (pW s ++ [_]).length
                  rw [List.length_append, List.length_singleton]
                · have hj : j < (pW s ++ [(tkL T (tkX T a), q.1)]).length := hj
                  rw [List.length_append, List.length_singleton] at hj
                  have e0 : wsOf (pM s, pP s, pW s ++ [(tkL T (tkX T a), q.1)], pS s) = wsOf s ++ [wNew (tkL T (tkX T a)) q.1] := by
                    show ((pW s ++ [_]).map wOf) = _
                    rw [List.map_append]
                    rfl
                  have lw : (wsOf s).length = (pW s).length := by unfold wsOf; rw [List.length_map]
                  show mW (gw (wsOf (pM s, pP s, pW s ++ [(tkL T (tkX T a), q.1)], pS s)) j) _ _
                  rw [e0]
                  by_cases e : j = (pW s).length
                  · subst e
                    have : gw (wsOf s ++ [wNew (tkL T (tkX T a)) q.1]) (pW s).length = wNew (tkL T (tkX T a)) q.1 := by
                      unfold gw
                      simp only [List.getD]
                      rw [List.getElem?_append_right (by omega), lw, Nat.sub_self]
                      rfl
                    rw [this, show 3080 + 10 + 40 * (pW s).length = 3090 + 40 * (pW s).length by omega]
                    exact mW_cp g2 (Nat.zero_le 8) (fun k hk => by rw [rd_II, if_neg (by omega)])
                  · have : gw (wsOf s ++ [wNew (tkL T (tkX T a)) q.1]) j = gw (wsOf s) j := by
                      unfold gw
                      simp only [List.getD]
                      rw [List.getElem?_append_left (by omega)]
                    rw [this]
                    exact mW_cp (b6 j (by omega)) (ws_X (by omega)) (fun k hk => ne _ (by omega) (by omega))
          · rw [if_pos c2]
            rw [if_neg c2] at y2
            refine ⟨m5, ?_, y2, ft5⟩
            rw [if_neg c2, show decide (nI 0 ≠ 0) = false by decide, cond_false] at st
            exact st
      · rw [if_pos (fun z => c8 z.2)]
        obtain ⟨m', e1, e2, e3⟩ := fail2
        refine ⟨m', ?_, e2, (P40_t a3).tr (P40x_t e3)⟩
        rw [jt_df (show ¬ nI (tkE T (tkX T a) - tkX T a) ≤ 8 from nI_ge (a := 8) (by omega) (by omega)), cond_false, e1, jt_bi, and0, cond_true] at st
        exact st
    · rw [if_pos (fun z => kb z.1)]
      obtain ⟨m', e1, e2, e3⟩ := fail2
      refine ⟨m', ?_, e2, (P40_t a3).tr (P40x_t e3)⟩
      rw [jt_dt (show nI (kdM (tkK T (tkX T a))) ≠ 2 from fun z => kb (kd_w.mp ((nI_eq (b := 2) (by omega) (by decide)).mp z))), cond_true, e1, jt_bi, and0, cond_true] at st
      exact st
