/-! ===== a VILLAGE read (reference): all ===== -/
theorem vt_len {T : Tb} {s : Pv} (ho : okPv s) {a : Nat} {q : Pv × Nat} (h : vtM T s a = .inr q ∨ vtW2 T s a = .inr q ∨ vtP T s a = .inr q ∨ vtS T s a = .inr q) : (pW q.1).length ≤ 12 ∧ (pM q.1).length ≤ 12 ∧ (pP q.1).length ≤ 4 := by
  obtain ⟨o1, o2, o3, -⟩ := ho
  rcases h with h | h | h | h
  · unfold vtM at h
    split at h
    · cases h
    · split at h
      · cases h
      · cases h
        exact ⟨o3, by show (pM s ++ [_]).length ≤ 12; rw [List.length_append, List.length_singleton]; omega, o2⟩
  · unfold vtW2 at h
    split at h
    · cases h
    · split at h
      · cases h
      · split at h
        · cases h
        · split at h
          · cases h
          · split at h
            · cases h
            · cases h
              exact ⟨by show (pW s ++ [_]).length ≤ 12; rw [List.length_append, List.length_singleton]; omega, o1, o2⟩
  · unfold vtP at h
    split at h
    · cases h
    · split at h
      · cases h
      · cases h
        exact ⟨o3, o1, by show (pP s ++ [_]).length ≤ 4; rw [List.length_append, List.length_singleton]; omega⟩
  · unfold vtS at h
    split at h
    · cases h
    · split at h
      · cases h
      · split at h
        · cases h
        · cases h
          exact ⟨o3, o1, o2⟩
theorem tkY_k {T : Tb} {a j : Nat} (h : tkY T a = some j) : tkK T a = 1 := by
  unfold tkY at h
  split at h
  · assumption
  · cases h
theorem pm_5 : ∀ j, j < 24 → j ≠ 0 → j ≠ 1 → j ≠ 3 → j ≠ 4 → 4 ≤ pmL.getD j 0 := by decide +kernel
theorem sm_vPart {T : Tb} {s : Pv} {a : Nat} {m : jm_M} (h : mFn T a m) (hp : mPv s m) (ho : okPv s) (d : Nat) : ∃ m', jm_sem false (d + 10) jn_X12_villagePart [vM] m = some (.inl (reV (vEnd T (vPart T s a))), m') ∧ mRv T (vEnd T (vPart T s a)) m' ∧ fr PMt m m' := by
  have iw := sm_inWords h.2.1 h.2.2.1 (d + 3)
  have st := e_X12_villagePart (d + 9) m
  rw [iw, jt_bi] at st
  rw [vPart_2]
  have fl : ∃ m', jm_sem false (d + 9) jn_X12_fails [vM, .inl 2] m = some (.inl (nI 0), m') ∧ mEr (flt T a) m' ∧ fr P40x m m' := sm_fails h (k := 2) (by decide) (by decide) (d + 8)
  unfold vPart2
  cases hy : tkY T a with
  | none =>
    rw [if_neg (fun z => by cases z), if_neg (fun z => by cases z), if_neg (fun z => by cases z), if_neg (fun z => by cases z)]
    obtain ⟨m', e1, e2, e3⟩ := fl
    refine ⟨m', ?_, e2, P40x_t e3⟩
    rw [hy, show decide (jpl (pmO none) = 0) = false by decide, cond_false, show decide (jpl (pmO none) = 1) = false by decide, cond_false, show decide (jpl (pmO none) = 2) = false by decide, cond_false, show decide (jpl (pmO none) = 3) = false by decide, cond_false, e1, jt_bi, and0, cond_true] at st
    exact st
  | some j =>
    have j24 := tkY_lt hy
    have k1 := tkY_k hy
    rw [hy, show jpl (pmO (some j)) = nI (pmL.getD j 0) from rfl] at st
    by_cases j0 : j = 0
    · subst j0
      rw [if_pos rfl]
      obtain ⟨m1, a1, a2, a3⟩ := sm_aMeaning k1 h hp ho d
      obtain ⟨m', e1, e2, e3⟩ := sm_vend (m := m) a2 (fun q hq => vt_len ho (Or.inl hq)) a3 (d + 6)
      refine ⟨m', ?_, e2, e3⟩
      rw [show decide (nI (pmL.getD 0 0) = 0) = true by decide, cond_true, a1, jt_bi] at st
      exact st.trans e1
    · rw [if_neg (fun z => j0 (Option.some.inj z))]
      by_cases j1 : j = 1
      · subst j1
        rw [if_pos rfl]
        obtain ⟨m1, a1, a2, a3⟩ := sm_aWord k1 h hp ho d
        obtain ⟨m', e1, e2, e3⟩ := sm_vend (m := m) a2 (fun q hq => vt_len ho (Or.inr (Or.inl hq))) a3 (d + 6)
        refine ⟨m', ?_, e2, e3⟩
        rw [show decide (nI (pmL.getD 1 0) = 0) = false by decide, cond_false, show decide (nI (pmL.getD 1 0) = 1) = true by decide, cond_true, a1, jt_bi] at st
        exact st.trans e1
      · rw [if_neg (fun z => j1 (Option.some.inj z))]
        by_cases j3 : j = 3
        · subst j3
          rw [if_pos rfl]
          obtain ⟨m1, a1, a2, a3⟩ := sm_aSpeaker k1 h hp ho d
          obtain ⟨m', e1, e2, e3⟩ := sm_vend (m := m) a2 (fun q hq => vt_len ho (Or.inr (Or.inr (Or.inl hq)))) a3 (d + 6)
          refine ⟨m', ?_, e2, e3⟩
          rw [show decide (nI (pmL.getD 3 0) = 0) = false by decide, cond_false, show decide (nI (pmL.getD 3 0) = 1) = false by decide, cond_false, show decide (nI (pmL.getD 3 0) = 2) = true by decide, cond_true, a1, jt_bi] at st
          exact st.trans e1
        · rw [if_neg (fun z => j3 (Option.some.inj z))]
          by_cases j4 : j = 4
          · subst j4
            rw [if_pos rfl]
            obtain ⟨m1, a1, a2, a3⟩ := sm_areSoft k1 h hp ho (d + 6)
            obtain ⟨m', e1, e2, e3⟩ := sm_vend (m := m) a2 (fun q hq => vt_len ho (Or.inr (Or.inr (Or.inr hq)))) a3 (d + 6)
            refine ⟨m', ?_, e2, e3⟩
            rw [show decide (nI (pmL.getD 4 0) = 0) = false by decide, cond_false, show decide (nI (pmL.getD 4 0) = 1) = false by decide, cond_false, show decide (nI (pmL.getD 4 0) = 2) = false by decide, cond_false, show decide (nI (pmL.getD 4 0) = 3) = true by decide, cond_true, a1, jt_bi] at st
            exact st.trans e1
          · rw [if_neg (fun z => j4 (Option.some.inj z))]
            have p5 := pm_5 j j24 j0 j1 j3 j4
            have p24 := pmL_lt j j24
            obtain ⟨m', e1, e2, e3⟩ := fl
            refine ⟨m', ?_, e2, P40x_t e3⟩
            rw [show decide (nI (pmL.getD j 0) = 0) = false from dec_ne (b := 0) (by omega) (by decide) (by omega), cond_false, show decide (nI (pmL.getD j 0) = 1) = false from dec_ne (b := 1) (by omega) (by decide) (by omega), cond_false, show decide (nI (pmL.getD j 0) = 2) = false from dec_ne (b := 2) (by omega) (by decide) (by omega), cond_false, show decide (nI (pmL.getD j 0) = 3) = false from dec_ne (b := 3) (by omega) (by decide) (by omega), cond_false, e1, jt_bi, and0, cond_true] at st
            exact st
theorem sm_taken {m : jm_M} {f x : Nat} (hf : f < 10) (h : m.1 40 0 0 18 = nI f) (d : Nat) : jm_sem false (d + 2) jn_X12_taken [vM, .inl (nI x)] m = if f = 0 then some (.inl (nI x), jm_sI (jm_sI m 40 0 0 16 (nI 0)) 40 0 0 2 0) else some (.inl jM, jm_sI (jm_sI m 40 0 0 16 (nI f)) 40 0 0 2 9) := by
  rw [e_X12_taken, h]
  have h' : (jm_sI m 40 0 0 16 (nI f)).1 40 0 0 18 = nI f := by rw [rd_II, if_neg (by omega)]; exact h
  rw [h']
  by_cases c : f = 0
  · subst c
    rw [if_pos rfl, show decide (nI 0 ≤ 0) = true by decide, cond_true, sm_gives, jt_bi]
  · rw [if_neg c, show decide (nI f ≤ 0) = false from decide_eq_false (nI_ge (a := 0) (by omega) (by omega)), cond_false, sm_refuse, jt_bi]
theorem sm_v52 {T : Tb} (z1 z3 z4 : jm_V) (d : Nat) : ∀ (r a : Nat) (s : Pv) (m : jm_M), T.1 < a + r → mFn T a m → mPv s m → okPv s → match vAll T r s a with | .inl f => ∃ m', (∀ x, m.1 41 0 0 1 = nI x → jm_ev false (d + 10) 11 1 jc_X12_village 52 [vM, z1, .inl (nI 1), z3, z4] [] m = some (.inl jM, jm_sI (jm_sI m' 40 0 0 16 (nI f.1)) 40 0 0 2 9)) ∧ mEr f m' ∧ fr PMt m m' | .inr s' => ∃ m' b, jm_ev false (d + 10) 11 1 jc_X12_village 52 [vM, z1, .inl (nI 1), z3, z4] [] m = jm_ev false (d + 10) 11 1 jc_X12_village 80 [vM, z1, .inl (nI 1), .inl (nI 0), z4] [] m' ∧ mFn T b m' ∧ mPv s' m' ∧ okPv s' ∧ fr PMt m m'
  | 0, a, s, m, hr, h, hp, ho => by
    have := h.1
    omega
  | r + 1, a, s, m, hr, h, hp, ho => by
    have h12 := h.2.2.1.1
    have h18 := h.2.2.2.1
    have kd := kdM_le (tkK T a)
    have st := l_X12_village_52 (d + 10) z1 (nI 1) z3 z4 m
    rw [show decide (nI 1 = 0) = false by decide, cond_false, h12] at st
    unfold vAll
    by_cases c0 : tkK T a = 0
    · rw [if_pos c0]
      refine ⟨m, a, ?_, h, hp, ho, .rf⟩
      rw [c0, show decide (nI (kdM 0) = 0) = true by decide, cond_true, h18, show decide (nI 0 ≠ 0) = false by decide, cond_false] at st
      exact st
    · rw [if_neg c0]
      have alt := tk_lt1 c0
      have k0 : kdM (tkK T a) ≠ 0 := by
        unfold kdM
        rw [if_neg c0]
        repeat' split
        all_goals omega
      obtain ⟨m1, a1, a2, a3⟩ := sm_vPart h hp ho d
      rw [show decide (nI (kdM (tkK T a)) = 0) = false from dec_ne (b := 0) (by omega) (by decide) k0, cond_false, a1, jt_bi] at st
      cases hv : vEnd T (vPart T s a) with
      | inl f =>
        rw [hv] at a2 st
        refine ⟨m1, fun x hx => ?_, a2, a3⟩
        obtain ⟨e1, e2, e3, e4⟩ := a2
        have x1 : m1.1 41 0 0 1 = nI x := by rw [(a3 41 0 0 1 (by unfold PMt; omega)).1]; exact hx
        have tk := sm_taken (x := x) e2 e3 (d + 8)
        rw [if_neg (by omega)] at tk
        have i1 : jm_dec (vp_in 1 8600) = true := jt_in (n := 1) (N := 8600) (by decide) (by decide)
        have ix1 : jm_ix 1 = 1 := jt_ix (n := 1) (by decide)
        refine st.trans ?_
        rw [show reV (.inl f) = nI 0 from rfl, l_X12_village_52, show decide (nI 0 = 0) = true by decide, cond_true, e3, show decide (nI f.1 ≠ 0) = true from decide_eq_true (fun z => by have := (nI_eq (b := 0) (by omega) (by decide)).mp z; omega), cond_true, i1, cond_true, ix1, x1, tk, jt_bi]
      | inr q =>
        rw [hv] at a2 st
        obtain ⟨a2, a4⟩ := a2
        obtain ⟨o1, o2, o3⟩ := vEnd_ok alt ho hv
        have ih := sm_v52 (T := T) z1 z3 z4 d r q.2 q.1 m1 (by omega) a2 a4 o1
        have st : jm_ev false (d + 10) 11 1 jc_X12_village 52 [vM, z1, .inl (nI 1), z3, z4] [] m = jm_ev false (d + 10) 11 1 jc_X12_village 52 [vM, z1, .inl (nI 1), z3, z4] [] m1 := st
        dsimp only
        cases hr2 : vAll T r q.1 q.2 with
        | inl f =>
          rw [hr2] at ih
          obtain ⟨m', e1, e2, e3⟩ := ih
          exact ⟨m', fun x hx => st.trans (e1 x (by rw [(a3 41 0 0 1 (by unfold PMt; omega)).1]; exact hx)), e2, a3.tr e3⟩
        | inr s' =>
          rw [hr2] at ih
          obtain ⟨m', b, e1, e2, e3, e4, e5⟩ := ih
          exact ⟨m', b, st.trans e1, e2, e3, e4, a3.tr e5⟩
