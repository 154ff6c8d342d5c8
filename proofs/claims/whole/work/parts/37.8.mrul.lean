/-! ===== a LAW read (reference): RULES ===== -/
def mLr (R : List Rl) (m : jm_M) : Prop := m.1 41 0 0 3083 = nI R.length ∧ ∀ r, r < R.length → m.1 41 0 0 (3600 + 3 * r) = nI (en R r) ∧ m.1 41 0 0 (3600 + 3 * r + 1) = nI (en R (r + 1)) ∧ m.1 41 0 0 (3600 + 3 * r + 2) = nI (whM (R.getD r ([], 0)).2)
def PMq (K _i _j k : Nat) : Prop := (K = 40 ∧ 12 ≤ k ∧ k ≤ 24 ∧ k ≠ 16 ∧ k ≠ 19) ∨ (K = 41 ∧ 3080 ≤ k ∧ k < 3850) ∨ K = 48
theorem PMl_q {m m' : jm_M} (f : fr PMl m m') : fr PMq m m' := f.wk (fun K i j k z => by unfold PMl at z; unfold PMq; omega)
theorem P40x_q {m m' : jm_M} (f : fr P40x m m') : fr PMq m m' := PMl_q (P40x_l f)
theorem pm_5i : ∀ i, i < 24 → (pmL.getD i 0 = 5 ↔ i = 5) := by decide +kernel
theorem pm_wh : ∀ j, j < 24 → (match whN j with | some v => pmL.getD j 0 == whM v && (whM v == 3 || (decide (18 ≤ whM v) && decide (whM v ≤ 23))) | none => pmL.getD j 0 != 3 && decide (pmL.getD j 0 < 18)) = true := by decide +kernel
def reQ (r : Ft ⊕ (List Rl × Nat × Nat)) : Int32 := match r with
  | .inl _ => nI 0
  | .inr _ => nI 1
def mRq (T : Tb) (r : Ft ⊕ (List Rl × Nat × Nat)) (m : jm_M) : Prop := match r with
  | .inl f => mEr f m
  | .inr q => mFn T q.2.1 m ∧ mLc (cs q.1) m ∧ mLr q.1 m ∧ m.1 40 0 0 23 = nI q.2.2
/-- code and rows stay -/
def PMg (L : Nat) (K _i _j k : Nat) : Prop := (K = 40 ∧ 12 ≤ k ∧ k ≤ 18 ∧ k ≠ 16) ∨ (K = 41 ∧ (k = 3083 ∨ (3600 + 3 * L ≤ k ∧ k ≤ 3600 + 3 * L + 2)))
theorem mLc_g {C : List Ck} {L : Nat} {m m' : jm_M} (hL : L < 12) (h : mLc C m) (f : fr (PMg L) m m') : mLc C m' := ⟨by rw [(f 40 0 0 24 (by unfold PMg; omega)).1]; exact h.1, fun j hj => by rw [(f 41 0 0 _ (by unfold PMg; omega)).1]; exact h.2 j hj⟩
theorem PMg_q {L : Nat} (hL : L < 12) {m m' : jm_M} (f : fr (PMg L) m m') : fr PMq m m' := f.wk (fun K i j k z => by unfold PMg at z; unfold PMq; omega)
theorem P40x_g {L : Nat} {m m' : jm_M} (f : fr P40x m m') : fr (PMg L) m m' := f.wk (fun K i j k z => by unfold P40x at z; unfold PMg; omega)
theorem mFn_41 {T : Tb} {a k : Nat} {x : Int32} {m : jm_M} (h : mFn T a m) : mFn T a (jm_sI m 41 0 0 k x) := mFn_fr (P := fun K _ _ _ => K = 41) h (fr_I rfl) (fun k h1 h2 z => by omega) (fun k z => by omega)
theorem sm_aRule {T : Tb} (hT : T.1 ≤ 300) {R : List Rl} {p n : Nat} {m : jm_M} (h : mFn T p m) (hc : mLc (cs R) m) (hr : mLr R m) (h23 : m.1 40 0 0 23 = nI n) (ho : okR R) (h2 : 2 * (cs R).length ≤ p) (hn : n ≤ 24) (alt : p < T.1) (e : Nat) : ∃ m', jm_sem false (e + 13) jn_X12_aRule [vM] m = some (.inl (reQ (lRule T R p n)), m') ∧ mRq T (lRule T R p n) m' ∧ fr PMq m m' := by
  have r12 := ho.1
  have h83 := hr.1
  have lt := tkX_gt alt
  have iw : jm_sem false (e + 12) jn_X12_inWords [vM, v60] m = some (.inl (jpl (pmO (tkY T p))), m) := sm_inWords h.2.1 h.2.2.1 (e + 6)
  have i83 : jm_ix (3083 : Int32) = 3083 := jt_ix (n := 3083) (by decide)
  have n83 : jm_dec (vp_in (3083 : Int32) 8600) = true := jt_in (n := 3083) (by decide) (by decide)
  have ri : (3600 : Int32) + ((3 : Int32) * nI R.length) = nI (3600 + 3 * R.length) := by
    rw [show (3 : Int32) * nI R.length = nI (3 * R.length) from pk_mul 3 R.length]
    exact nI_add 3600 (3 * R.length)
  have ri1 : nI (3600 + 3 * R.length) + 1 = nI (3600 + 3 * R.length + 1) := nI_1 _
  have ri2 : nI (3600 + 3 * R.length) + 2 = nI (3600 + 3 * R.length + 2) := nI_add _ 2
  have n0 : jm_dec (vp_in (nI (3600 + 3 * R.length)) 8600) = true := jt_in (by omega) (by decide)
  have n1 : jm_dec (vp_in (nI (3600 + 3 * R.length + 1)) 8600) = true := jt_in (by omega) (by decide)
  have n2 : jm_dec (vp_in (nI (3600 + 3 * R.length + 2)) 8600) = true := jt_in (by omega) (by decide)
  have x0 : jm_ix (nI (3600 + 3 * R.length)) = 3600 + 3 * R.length := jt_ix (by omega)
  have x1 : jm_ix (nI (3600 + 3 * R.length + 1)) = 3600 + 3 * R.length + 1 := jt_ix (by omega)
  have x2 : jm_ix (nI (3600 + 3 * R.length + 2)) = 3600 + 3 * R.length + 2 := jt_ix (by omega)
  have st := e_X12_aRule (e + 12) m
  rw [n83, cond_true, iw, jt_bi, i83, h83, ri, ri1, ri2, n0, n1, n2, x0, x1, x2] at st
  have p5 := jpl_pm (T := T) (a := p) pm_5i (by decide)
  unfold lRule
  by_cases y5 : tkY T p = some 5
  · rw [if_neg (fun z => z y5)]
    rw [jt_dt (show jpl (pmO (tkY T p)) = 5 from p5.mpr y5), cond_true, cond_true] at st
    by_cases c12 : R.length = 12
    · rw [if_pos c12]
      obtain ⟨m', e1, e2, e3⟩ := sm_failK (by have := tkY_k y5; omega) (k := 6) (by decide) (by decide) h (e + 11)
      refine ⟨m', ?_, e2, P40x_q e3⟩
      rw [c12, jt_df (show ¬ nI 12 ≠ 12 by decide), cond_false] at st
      exact st.trans e1
    · rw [if_neg c12]
      obtain ⟨m1, a1, a2, a3⟩ := sm_aheadF h (e + 10)
      have a1 : jm_sem false (e + 12) jn_X12_ahead [vM] m = some (jm_j, m1) := a1
      rw [jt_dt (show nI R.length ≠ 12 from nI_ne (a := R.length) (b := 12) (by omega) (by decide) c12), cond_true, a1, jt_bv, cond_true] at st
      have c1 := mLc_x hc (P40_x a3)
      generalize hm1 : jm_sI m1 41 0 0 (3600 + 3 * R.length) (m1.1 40 0 0 24) = m1' at st
      have f1 : fr (PMg R.length) m m1' := by
        rw [← hm1]
        exact fr_sI (P40x_g (P40_x a3)) (by unfold PMg; omega)
      have h1 : mFn T (tkX T p) m1' := by rw [← hm1]; exact mFn_41 a2
      have c1' : mLc (cs R) m1' := mLc_g (by omega) hc f1
      have v1 : m1'.1 41 0 0 (3600 + 3 * R.length) = nI (cs R).length := by rw [← hm1, rd_II, if_pos ⟨rfl, rfl, rfl, rfl⟩]; exact c1.1
      obtain ⟨m2, b1, b2, b3⟩ := sm_cond hT (s := (tkX T p, n, cs R)) h1 c1' (by rw [(f1 40 0 0 23 (by unfold PMg; omega)).1]; exact h23) (by show 2 * (cs R).length ≤ tkX T p; omega) hn e
      rw [b1, jt_bi] at st
      have f2 : fr PMq m m2 := (PMg_q (by omega) f1).tr (PMl_q b3)
      cases hl2 : lP T (3 * T.1 + 4) 2 0 (tkX T p, n, cs R) with
      | inl f =>
        rw [hl2] at b2 st
        rw [show decide (reO (.inl f) ≠ 0) = false from (by decide : decide (nI 0 ≠ 0) = false), cond_false] at st
        exact ⟨m2, st, b2, f2⟩
      | inr t =>
        rw [hl2] at b2 st
        obtain ⟨b2, bp⟩ := b2
        have lo := fun v (hv : v ≤ 6) => lRule_ok hT lt.2 hn (by omega) ho (by omega) hv hl2
        have lo0 := lo 0 (by decide)
        rw [show decide (reO (.inr t) ≠ 0) = true from (by decide : decide (nI 1 ≠ 0) = true), cond_true, cond_true, bp.1.1] at st
        generalize hm2 : jm_sI m2 41 0 0 (3600 + 3 * R.length + 1) (nI t.2.2.length) = m2' at st
        have f2' : fr (PMg R.length) m2 m2' := by
          rw [← hm2]
          exact fr_I (by unfold PMg; omega)
        have h2' : mFn T t.1 m2' := by rw [← hm2]; exact mFn_41 b2
        have v2 : m2'.1 41 0 0 (3600 + 3 * R.length + 1) = nI t.2.2.length := by rw [← hm2, rd_II, if_pos ⟨rfl, rfl, rfl, rfl⟩]
        obtain ⟨m3, d1, d2, d3⟩ := sm_wantWord h2' (j := 6) (by decide) (e + 5)
        have d1 : jm_sem false (e + 12) jn_X12_wantWord [vM, v60, .inl 6] m2' = _ := d1
        rw [d1, jt_bi] at st
        have f3 : fr (PMg R.length) m2 m3 := f2'.tr (P40x_g d3)
        show ∃ m', _ = some ((.inl (reQ (lRule2 T R t)) : jm_V), m') ∧ mRq T (lRule2 T R t) m' ∧ _
        by_cases y6 : tkY T t.1 = some 6
        · rw [if_pos y6] at d2 st
          rw [show lRule2 T R t = lRule3 T R t (whK T (tkX T t.1)) from if_neg (fun z => z y6)]
          have y62 := tkY_2 y6
          have iw3 : jm_sem false (e + 12) jn_X12_inWords [vM, v60] m3 = some (.inl (jpl (pmO (tkY T (tkX T t.1)))), m3) := sm_inWords d2.2.1 d2.2.2.1 (e + 6)
          rw [show decide (nI 1 ≠ 0) = true by decide, cond_true, iw3, jt_bi] at st
          obtain ⟨mb, q1, q2, q3⟩ := sm_failB d2 (e + 11)
          have q1 : jm_bi (jm_sem false (e + 12) jn_X12_fails [vM, .inl 2] m3) (fun r m => cond (decide (r &&& 1 = r)) (some ((.inl r : jm_V), m)) none) = some (.inl (nI 0), mb) := q1
          have fb : fr PMq m mb := (f2.tr (PMg_q (by omega) f3)).tr (P40x_q q3)
          cases hy : tkY T (tkX T t.1) with
          | none =>
            have hw : whK T (tkX T t.1) = none := by unfold whK; rw [hy]; rfl
            rw [hw]
            rw [hy, jt_df (show ¬ jpl (pmO none) = 3 by decide), cond_false, jt_dt (show jpl (pmO none) < 18 by decide), cond_true, q1] at st
            exact ⟨mb, st, q2, fb⟩
          | some j =>
            have y7 := tkY_2 hy
            have j24 := y7.2.2
            have pj := pmL_lt j j24
            have pw := pm_wh j j24
            have hw0 : whK T (tkX T t.1) = whN j := by unfold whK; rw [hy]; rfl
            rw [hw0]
            rw [hy, show jpl (pmO (some j)) = nI (pmL.getD j 0) from rfl] at st
            cases hw : whN j with
            | none =>
              rw [hw] at pw
              simp only [Bool.and_eq_true, bne_iff_ne, decide_eq_true_eq] at pw
              rw [jt_df (show ¬ nI (pmL.getD j 0) = 3 from nI_ne (a := pmL.getD j 0) (b := 3) (by omega) (by decide) pw.1), cond_false, jt_dt (show nI (pmL.getD j 0) < 18 from nI_lt (a := pmL.getD j 0) (b := 18) pw.2 (by decide)), cond_true, q1] at st
              exact ⟨mb, st, q2, fb⟩
            | some v =>
              rw [hw] at pw
              simp only [Bool.and_eq_true, Bool.or_eq_true, beq_iff_eq, decide_eq_true_eq] at pw
              obtain ⟨pv, pw⟩ := pw
              have v6 := (whK_s (hw0.trans hw)).1
              have lov := lo v v6
              rw [pv] at st
              generalize hm3 : jm_sI m3 41 0 0 (3600 + 3 * R.length + 2) (nI (whM v)) = m3' at st
              have f3' : fr (PMg R.length) m3 m3' := by
                rw [← hm3]
                exact fr_I (by unfold PMg; omega)
              have h3' : mFn T (tkX T t.1) m3' := by rw [← hm3]; exact mFn_41 d2
              have v3 : m3'.1 41 0 0 (3600 + 3 * R.length + 2) = nI (whM v) := by rw [← hm3, rd_II, if_pos ⟨rfl, rfl, rfl, rfl⟩]
              obtain ⟨m4, k1, k2, k3⟩ := sm_aheadF h3' (e + 10)
              have k1 : jm_sem false (e + 12) jn_X12_ahead [vM] m3' = some (jm_j, m4) := k1
              have f4 : fr (PMg R.length) m2 m4 := (f3.tr f3').tr (P40x_g (P40_x k3))
              have s83 : m4.1 41 0 0 3083 = nI R.length := by
                rw [(k3 41 0 0 3083 (by unfold P40; omega)).1, ← hm3, rd_II, if_neg (by omega), (d3 41 0 0 3083 (by unfold P40x; omega)).1, ← hm2, rd_II, if_neg (by omega), (b3 41 0 0 3083 (by unfold PMl; omega)).1, ← hm1, rd_II, if_neg (by omega), (a3 41 0 0 3083 (by unfold P40; omega)).1]
                exact h83
              have st : jm_sem false (e + 13) jn_X12_aRule [vM] m = jm_bi (jm_sem false (e + 12) jn_X12_wantSign [vM, .inl 59] (jm_sI m4 41 0 0 3083 (nI (R.length + 1)))) (fun r m => cond (decide (r &&& 1 = r)) (some ((.inl r : jm_V), m)) none) := by
                rcases pw with c | c
                · rw [jt_dt (show nI (whM v) = 3 by rw [c]; rfl), cond_true, cond_true, k1, jt_bv, cond_true, cond_true, s83, nI_1] at st
                  exact st
                · rw [jt_df (show ¬ nI (whM v) = 3 from nI_ne (a := whM v) (b := 3) (by omega) (by decide) (by omega)), cond_false, jt_df (show ¬ nI (whM v) < 18 from nI_nlt (a := whM v) (b := 18) c.1 (by omega)), cond_false, jt_dt (show nI (whM v) ≤ 23 from nI_le (a := whM v) (b := 23) c.2 (by decide)), cond_true, cond_true, k1, jt_bv, cond_true, cond_true, s83, nI_1] at st
                  exact st
              generalize hm4 : jm_sI m4 41 0 0 3083 (nI (R.length + 1)) = m4' at st
              have f4' : fr (PMg R.length) m4 m4' := by
                rw [← hm4]
                exact fr_I (by unfold PMg; omega)
              have h4' : mFn T (tkX T (tkX T t.1)) m4' := by rw [← hm4]; exact mFn_41 k2
              obtain ⟨m5, g1, g2, g3⟩ := sm_wantSign h4' (c := 59) (by decide) (e + 9)
              have g1 : jm_sem false (e + 12) jn_X12_wantSign [vM, .inl 59] m4' = _ := g1
              rw [g1, jt_bi] at st
              have f5 : fr (PMg R.length) m2 m5 := (f4.tr f4').tr (P40x_g g3)
              have fq : fr PMq m m5 := f2.tr (PMg_q (by omega) f5)
              by_cases z : isSgn T 59 (tkX T (tkX T t.1)) = true
              · rw [if_pos z] at g2 st
                rw [show lRule3 T R t (some v) = .inr (R ++ [(t.2.2.drop (cs R).length, v)], tkX T (tkX T (tkX T t.1)), t.2.1) from if_pos z]
                rw [and1, cond_true] at st
                refine ⟨m5, st, ⟨g2, ?_, ⟨?_, fun r hr' => ?_⟩, ?_⟩, fq⟩
                · show mLc (cs (R ++ [(t.2.2.drop (cs R).length, v)])) m5
                  rw [cs_1, ← lo0.1]
                  exact mLc_g (by omega) bp.1 f5
                · show m5.1 41 0 0 3083 = nI (R ++ [(t.2.2.drop (cs R).length, v)]).length
                  rw [(g3 41 0 0 3083 (by unfold P40x; omega)).1, ← hm4, rd_II, if_pos ⟨rfl, rfl, rfl, rfl⟩, List.length_append, List.length_singleton]
                · have hr' : r < (R ++ [(t.2.2.drop (cs R).length, v)]).length := hr'
                  show m5.1 41 0 0 (3600 + 3 * r) = nI (en (R ++ [(t.2.2.drop (cs R).length, v)]) r) ∧ m5.1 41 0 0 (3600 + 3 * r + 1) = nI (en (R ++ [(t.2.2.drop (cs R).length, v)]) (r + 1)) ∧ m5.1 41 0 0 (3600 + 3 * r + 2) = nI (whM ((R ++ [(t.2.2.drop (cs R).length, v)]).getD r ([], 0)).2)
                  rw [List.length_append, List.length_singleton] at hr'
                  by_cases er : r = R.length
                  · subst er
                    rw [en_all, cs_1, ← lo0.1, gR_hi, en_app (Nat.le_refl _)]
                    have eR : en R R.length = (cs R).length := by
                      unfold en
                      rw [List.take_length]
                    refine ⟨?_, ?_, ?_⟩
                    · rw [(g3 41 0 0 _ (by unfold P40x; omega)).1, ← hm4, rd_II, if_neg (by omega), (k3 41 0 0 _ (by unfold P40; omega)).1, ← hm3, rd_II, if_neg (by omega), (d3 41 0 0 _ (by unfold P40x; omega)).1, ← hm2, rd_II, if_neg (by omega), (b3 41 0 0 _ (by unfold PMl; omega)).1, v1, eR]
                    · rw [(g3 41 0 0 _ (by unfold P40x; omega)).1, ← hm4, rd_II, if_neg (by omega), (k3 41 0 0 _ (by unfold P40; omega)).1, ← hm3, rd_II, if_neg (by omega), (d3 41 0 0 _ (by unfold P40x; omega)).1, v2]
                    · rw [(g3 41 0 0 _ (by unfold P40x; omega)).1, ← hm4, rd_II, if_neg (by omega), (k3 41 0 0 _ (by unfold P40; omega)).1, v3]
                  · have hr2 : r < R.length := by omega
                    have old : ∀ k, 3600 ≤ k → k < 3600 + 3 * R.length → m5.1 41 0 0 k = m.1 41 0 0 k := fun k q1 q2 => by
                      rw [(f5 41 0 0 k (by unfold PMg; omega)).1, (b3 41 0 0 k (by unfold PMl; omega)).1, (f1 41 0 0 k (by unfold PMg; omega)).1]
                    rw [en_app (by omega), en_app (by omega), gR_lo hr2, old _ (by omega) (by omega), old _ (by omega) (by omega), old _ (by omega) (by omega)]
                    exact hr.2 r hr2
                · show m5.1 40 0 0 23 = nI t.2.1
                  rw [(f5 40 0 0 23 (by unfold PMg; omega)).1]
                  exact bp.2.2.2
              · rw [if_neg z] at g2 st
                rw [show lRule3 T R t (some v) = .inl (flt T (tkX T (tkX T t.1))) from if_neg z]
                rw [and0, cond_true] at st
                exact ⟨m5, st, g2, fq⟩
        · rw [if_neg y6] at d2 st
          rw [show lRule2 T R t = .inl (flt T t.1) from if_pos y6]
          rw [show decide (nI 0 ≠ 0) = false by decide, cond_false] at st
          exact ⟨m3, st, d2, f2.tr (PMg_q (by omega) f3)⟩
  · rw [if_pos y5]
    obtain ⟨m', e1, e2, e3⟩ := sm_failB h (e + 11)
    refine ⟨m', ?_, e2, P40x_q e3⟩
    rw [jt_df (show ¬ jpl (pmO (tkY T p)) = 5 from fun z => y5 (p5.mp z)), cond_false] at st
    exact st.trans e1
theorem lRule_r {T : Tb} (hT : T.1 ≤ 300) {R : List Rl} {p n : Nat} (alt : p < T.1) (hn : n ≤ 24) (h2 : 2 * (cs R).length ≤ p) (ho : okR R) {q : List Rl × Nat × Nat} (h : lRule T R p n = .inr q) : okR q.1 ∧ 2 * (cs q.1).length ≤ q.2.1 ∧ q.2.2 ≤ 24 ∧ p < q.2.1 := by
  have lt := tkX_gt alt
  have r12 := ho.1
  unfold lRule at h
  split at h
  · cases h
  · split at h
    · cases h
    · rename_i c12
      cases hl : lP T (3 * T.1 + 4) 2 0 (tkX T p, n, cs R) with
      | inl f =>
        rw [hl] at h
        have h : (Sum.inl f : Ft ⊕ (List Rl × Nat × Nat)) = .inr q := h
        cases h
      | inr t =>
        rw [hl] at h
        have h : lRule2 T R t = .inr q := h
        unfold lRule2 at h
        split at h
        · cases h
        · rename_i y6
          have y6 : tkY T t.1 = some 6 := Decidable.not_not.mp y6
          have y62 := tkY_2 y6
          cases hw : whK T (tkX T t.1) with
          | none =>
            rw [hw] at h
            have h : (Sum.inl (flt T (tkX T t.1)) : Ft ⊕ (List Rl × Nat × Nat)) = .inr q := h
            cases h
          | some v =>
            rw [hw] at h
            have h : lRule4 T R t v = .inr q := h
            unfold lRule4 at h
            split at h
            · rename_i z
              cases h
              have lo := lRule_ok hT lt.2 hn (by omega) ho (by omega) (whK_s hw).1 hl
              have zl := sgn_lt z
              have g1 := tkX_ge y62.2.1
              exact ⟨lo.2.1, by show 2 * (cs (R ++ [(t.2.2.drop (cs R).length, v)])).length ≤ tkX T (tkX T (tkX T t.1)); omega, lo.2.2.2.2.1, by show p < tkX T (tkX T (tkX T t.1)); omega⟩
            · cases h
theorem sm_l38 {T : Tb} (hT : T.1 ≤ 300) (z1 z3 : jm_V) (d : Nat) : ∀ (r p n : Nat) (R : List Rl) (m : jm_M), T.1 < p + r → mFn T p m → mLc (cs R) m → mLr R m → m.1 40 0 0 23 = nI n → okR R → 2 * (cs R).length ≤ p → n ≤ 24 → match lAll T r R p n with | .inl f => ∃ m', (∀ x, m.1 41 0 0 3 = nI x → jm_ev false (d + 13) 11 1 jc_X12_law 38 [vM, z1, .inl (nI 1), z3] [] m = some (.inl jM, jm_sI (jm_sI m' 40 0 0 16 (nI f.1)) 40 0 0 2 9)) ∧ mEr f m' ∧ fr PMq m m' | .inr R' => ∃ m' b y2, jm_ev false (d + 13) 11 1 jc_X12_law 38 [vM, z1, .inl (nI 1), z3] [] m = jm_ev false (d + 13) 11 1 jc_X12_law 82 [vM, z1, y2, .inl (nI 520)] [] (jm_sI m' 41 0 0 3 (nI R'.length)) ∧ mFn T b m' ∧ mLc (cs R') m' ∧ mLr R' m' ∧ okR R' ∧ fr PMq m m'
  | 0, p, n, R, m, hr, h, hc, hR, h23, ho, h2, hn => by
    have := h.1
    omega
  | r + 1, p, n, R, m, hr, h, hc, hR, h23, ho, h2, hn => by
    have h12 := h.2.2.1.1
    have h18 := h.2.2.2.1
    have kd := kdM_le (tkK T p)
    have i3 : jm_dec (vp_in 3 8600) = true := jt_in (n := 3) (N := 8600) (by decide) (by decide)
    have ix3 : jm_ix 3 = 3 := jt_ix (n := 3) (by decide)
    have i83 : jm_ix (3083 : Int32) = 3083 := jt_ix (n := 3083) (by decide)
    have n83 : jm_dec (vp_in (3083 : Int32) 8600) = true := jt_in (n := 3083) (by decide) (by decide)
    have st := l_X12_law_38 (d + 13) z1 (nI 1) z3 m
    rw [show decide (nI 1 = 0) = false by decide, cond_false, h12] at st
    rw [lAll_s]
    by_cases c0 : tkK T p = 0
    · rw [if_pos c0]
      refine ⟨m, p, .inl (nI 1), ?_, h, hc, hR, ho, .rf⟩
      rw [c0, show decide (nI (kdM 0) = 0) = true by decide, cond_true, h18, show decide (nI 0 ≠ 0) = false by decide, cond_false, n83, cond_true, i3, cond_true, ix3, i83, hR.1] at st
      exact st
    · rw [if_neg c0]
      have alt := tk_lt1 c0
      have k0 : kdM (tkK T p) ≠ 0 := by
        unfold kdM
        rw [if_neg c0]
        repeat' split
        all_goals omega
      obtain ⟨m1, a1, a2, a3⟩ := sm_aRule hT h hc hR h23 ho h2 hn alt d
      rw [show decide (nI (kdM (tkK T p)) = 0) = false from dec_ne (b := 0) (by omega) (by decide) k0, cond_false, a1, jt_bi] at st
      cases hv : lRule T R p n with
      | inl f =>
        rw [hv] at a2 st
        rw [show lNx (lAll T r) (.inl f) = .inl f from rfl]
        refine ⟨m1, fun x hx => ?_, a2, a3⟩
        obtain ⟨e1, e2, e3, e4⟩ := a2
        have x1 : m1.1 41 0 0 3 = nI x := by rw [(a3 41 0 0 3 (by unfold PMq; omega)).1]; exact hx
        have tk := sm_taken (x := x) e2 e3 (d + 11)
        rw [if_neg (by omega)] at tk
        refine st.trans ?_
        rw [show reQ (.inl f) = nI 0 from rfl, l_X12_law_38, show decide (nI 0 = 0) = true by decide, cond_true, e3, show decide (nI f.1 ≠ 0) = true from decide_eq_true (fun z => by have := (nI_eq (b := 0) (by omega) (by decide)).mp z; omega), cond_true, i3, cond_true, ix3, x1, tk, jt_bi]
      | inr q =>
        rw [hv] at a2 st
        obtain ⟨b1, b2, b3, b4⟩ := a2
        obtain ⟨o1, o2, o3, o4⟩ := lRule_r hT alt hn h2 ho hv
        have ih := sm_l38 hT z1 z3 d r q.2.1 q.2.2 q.1 m1 (by omega) b1 b2 b3 b4 o1 o2 o3
        have st : jm_ev false (d + 13) 11 1 jc_X12_law 38 [vM, z1, .inl (nI 1), z3] [] m = jm_ev false (d + 13) 11 1 jc_X12_law 38 [vM, z1, .inl (nI 1), z3] [] m1 := st
        rw [show lNx (lAll T r) (.inr q) = lAll T r q.1 q.2.1 q.2.2 from rfl]
        cases hr2 : lAll T r q.1 q.2.1 q.2.2 with
        | inl f =>
          rw [hr2] at ih
          obtain ⟨m', e1, e2, e3⟩ := ih
          exact ⟨m', fun x hx => st.trans (e1 x (by rw [(a3 41 0 0 3 (by unfold PMq; omega)).1]; exact hx)), e2, a3.tr e3⟩
        | inr s' =>
          rw [hr2] at ih
          obtain ⟨m', b, y2, e1, e2, e3, e4, e5, e6⟩ := ih
          exact ⟨m', b, y2, st.trans e1, e2, e3, e4, e5, a3.tr e6⟩
theorem sm_l82 (z1 z2 : jm_V) (d : Nat) : ∀ (r k : Nat) (m : jm_M), k + r = 770 → ∃ m', jm_ev false d 11 1 jc_X12_law 82 [vM, z1, z2, .inl (nI k)] [] m = jm_ev false d 11 1 jc_X12_law 82 [vM, z1, z2, .inl (nI 770)] [] m' ∧ (∀ j, k ≤ j → j < 770 → m'.1 41 0 0 j = m.1 41 0 0 (3080 + j)) ∧ fr (PA k (770 - k)) m m'
  | 0, k, m, hr => ⟨m, by rw [show k = 770 by omega], fun j h1 h2 => by omega, .rf⟩
  | r + 1, k, m, hr => by
    obtain ⟨m', e1, e2, e3⟩ := sm_l82 z1 z2 d r (k + 1) (jm_sI m 41 0 0 k (m.1 41 0 0 (3080 + k))) (by omega)
    refine ⟨m', ?_, fun j h1 h2 => ?_, (fr_I (by unfold PA; omega)).tr (e3.wk (fun K i j q z => by unfold PA at z ⊢; omega))⟩
    · rw [← e1]
      refine (l_X12_law_82 _ _ _ _ _).trans ?_
      rw [jt_df (show ¬ (770 : Int32) ≤ nI k from nI_ge (b := 770) (by omega) (by omega)), cond_false, show (3080 : Int32) + nI k = nI (3080 + k) from nI_add 3080 k, i41 (by omega), cond_true, i41 (by omega), cond_true, jt_ix (by omega), jt_ix (by omega), nI_1]
    · by_cases e : j = k
      · subst e
        rw [(e3 41 0 0 j (by unfold PA; omega)).1, rd_II, if_pos ⟨rfl, rfl, rfl, rfl⟩]
      · rw [e2 j (by omega) h2, rd_II, if_neg (by omega)]
