/-! ===== a LAW read (reference): conditions ===== -/
abbrev v60 : jm_V := .inr (.inr (.inl (60, 2, 0)))
/-- what conditions goes on with behind aOne -/
noncomputable def Cn (e : Nat) (x : Option (jm_V × jm_M)) : Option (jm_V × jm_M) := jm_bi x (fun r79 m79 => cond (decide (r79 ≠ 0)) (jm_bi (jm_sem false (e + 11) jn_X12_inWords [vM, v60] m79) (fun r90 m90 => jm_ev false (e + 11) 11 2 jc_X12_conditions 26 [vM, .inl r90] [] m90)) (some (.inl 0, m79)))
/-- ahead of a ONE -/
noncomputable def G0 (e : Nat) (m : jm_M) : Option (jm_V × jm_M) := Cn e (jm_sem false (e + 11) jn_X12_aOne [vM] m)
/-- behind a ONE -/
noncomputable def G1 (e : Nat) (z : jm_V) (m : jm_M) : Option (jm_V × jm_M) := Cn e (jm_bv (jm_sem false (e + 10) jn_X12_turnsRound [vM] m) (fun m' => jm_ev false (e + 10) 11 2 jc_X12_aOne 112 [vM, z] [] m'))
theorem Cn_0 (e : Nat) (m : jm_M) : Cn e (some (.inl (nI 0), m)) = some (.inl (nI 0), m) := by
  unfold Cn
  rw [jt_bi, show decide (nI 0 ≠ 0) = false by decide, cond_false]
  rfl
theorem Cn_1 {T : Tb} {a : Nat} {m : jm_M} (h : mFn T a m) (e : Nat) : Cn e (some (.inl (nI 1), m)) = jm_ev false (e + 11) 11 2 jc_X12_conditions 26 [vM, .inl (jpl (pmO (tkY T a)))] [] m := by
  have iw : jm_sem false (e + 11) jn_X12_inWords [vM, v60] m = some (.inl (jpl (pmO (tkY T a))), m) := sm_inWords h.2.1 h.2.2.1 (e + 5)
  unfold Cn
  rw [jt_bi, show decide (nI 1 ≠ 0) = true by decide, cond_true, iw, jt_bi]
/-- what may still wait: an and; an or too -/
def W3 (σ : List Nat) (s : Lq) (m : jm_M) : Prop := mLp σ s m ∨ ∃ s0, s = lqE s0 9 ∧ mLp (8 :: σ) s0 m
def W4 (σ : List Nat) (s : Lq) (m : jm_M) : Prop := W3 σ s m ∨ ∃ s0, s = lqE s0 10 ∧ W3 (7 :: σ) s0 m
/-- the heap of what waits -/
def wst (σ : List Nat) (n : Nat) (m : jm_M) : Prop := ∃ σ', mSt σ' m ∧ σ'.length ≤ σ.length + n ∧ okSt σ' ∧ σ'.head? ≠ some 9 ∧ σ'.any (fun x => x == 40) = σ.any (fun x => x == 40)
theorem okSt_c {σ : List Nat} {y : Nat} (h : okSt σ) (hy : y = 7 ∨ y = 8 ∨ y = 9 ∨ y = 40) : okSt (y :: σ) := fun x hx => by
  rcases List.mem_cons.mp hx with z | z
  · rw [z]; exact hy
  · exact h x z
theorem W3_st {σ : List Nat} {s : Lq} {m : jm_M} (h : W3 σ s m) (ho : okSt σ) (h9 : σ.head? ≠ some 9) : wst σ 1 m := by
  rcases h with h | ⟨s0, -, h⟩
  · exact ⟨σ, h.2.1, by omega, ho, h9, rfl⟩
  · exact ⟨8 :: σ, h.2.1, by rw [List.length_cons]; omega, okSt_c ho (by omega), by rw [List.head?_cons]; decide, by rw [List.any_cons]; rfl⟩
theorem W4_st {σ : List Nat} {s : Lq} {m : jm_M} (h : W4 σ s m) (ho : okSt σ) (h9 : σ.head? ≠ some 9) : wst σ 2 m := by
  rcases h with h | ⟨s0, -, h⟩
  · obtain ⟨σ', a1, a2, a3, a4, a5⟩ := W3_st h ho h9
    exact ⟨σ', a1, by omega, a3, a4, a5⟩
  · obtain ⟨σ', a1, a2, a3, a4, a5⟩ := W3_st h (okSt_c ho (by omega)) (by rw [List.head?_cons]; decide)
    refine ⟨σ', a1, ?_, a3, a4, ?_⟩
    · rw [List.length_cons] at a2; omega
    · rw [a5, List.any_cons]; rfl
theorem G1_t {σ : List Nat} {n : Nat} {m : jm_M} (h : wst σ n m) (hl : σ.length + n ≤ 60) (e : Nat) (z : jm_V) : G1 e z m = Cn e (jm_ev false (e + 10) 11 2 jc_X12_aOne 112 [vM, z] [] m) := by
  obtain ⟨σ', a1, a2, a3, a4, a5⟩ := h
  unfold G1
  rw [sm_turns0 a1 (by omega) a3 a4 (e + 8), jt_bv]
/-- no bracket is closed: conditions goes on -/
theorem G1_26 {T : Tb} {a : Nat} {σ : List Nat} {n : Nat} {m : jm_M} (h : mFn T a m) (hw : wst σ n m) (hl : σ.length + n ≤ 60) (hc : isSgn T 41 a = false ∨ σ.any (fun x => x == 40) = false) (e : Nat) (z : jm_V) : G1 e z m = jm_ev false (e + 11) 11 2 jc_X12_conditions 26 [vM, .inl (jpl (pmO (tkY T a)))] [] m := by
  have sg : jm_sem false (e + 10) jn_X12_isSign [vM, .inl 41] m = _ := sm_sign h (c := 41) (by decide) (e + 9)
  rw [G1_t hw hl, l_X12_aOne_112, sg, jt_bi, ← Cn_1 h]
  obtain ⟨σ', a1, a2, a3, a4, a5⟩ := hw
  have op := sm_isOpen a1 (by omega) a3 (e + 9)
  rw [a5] at op
  cases h41 : isSgn T 41 a with
  | false =>
    rw [if_neg (by decide), show decide (nI 0 = 0) = true by decide, cond_true]
    rfl
  | true =>
    have hc : σ.any (fun x => x == 40) = false := hc.resolve_left (by rw [h41]; exact fun z => by cases z)
    rw [hc, if_neg (by decide)] at op
    rw [if_pos rfl, show decide (nI 1 = 0) = false by decide, cond_false, op, jt_bi, show decide (nI 0 = 0) = true by decide, cond_true]
    rfl
theorem lqE_len (s : Lq) (k : Nat) : (lqE s k).2.2.length = s.2.2.length + 1 := by
  show (s.2.2 ++ [(k, 0)]).length = _
  rw [List.length_append, List.length_singleton]
/-- what waits is joined ahead of an and, an or -/
theorem sm_38j8 {σ : List Nat} {s : Lq} {x : Int32} {m : jm_M} (h : mLp (8 :: σ) s m) (hl : σ.length < 60) (hC : s.2.2.length < 200) (e : Nat) : ∃ m', jm_ev false (e + 11) 11 2 jc_X12_conditions 38 [vM, .inl x] [] m = jm_ev false (e + 11) 11 2 jc_X12_conditions 38 [vM, .inl x] [] m' ∧ mLp σ (lqE s 9) m' ∧ fr PMw m m' := by
  have d8 := sm_isD1 h.2.1 hl (x := 8) (by decide) (by decide) (e + 10)
  rw [if_pos rfl] at d8
  have d8 : jm_sem false (e + 11) jn_X12_isDoing [vM, .inl 8] m = some (.inl (nI 1), m) := d8
  obtain ⟨m', a1, a2, a3⟩ := sm_joinL h hl hC (Or.inr rfl) (e + 9)
  have a1 : jm_sem false (e + 11) jn_X12_joins [vM] m = some (jm_j, m') := a1
  refine ⟨m', ?_, a2, a3⟩
  rw [l_X12_conditions_38, d8, jt_bi, show decide (nI 1 ≠ 0) = true by decide, cond_true, a1, jt_bv]
theorem sm_38j7 {σ : List Nat} {s : Lq} {m : jm_M} (h : mLp (7 :: σ) s m) (hl : σ.length < 60) (hC : s.2.2.length < 200) (e : Nat) : ∃ m', jm_ev false (e + 11) 11 2 jc_X12_conditions 38 [vM, .inl (nI 7)] [] m = jm_ev false (e + 11) 11 2 jc_X12_conditions 38 [vM, .inl (nI 7)] [] m' ∧ mLp σ (lqE s 10) m' ∧ fr PMw m m' := by
  have d8 := sm_isD1 h.2.1 hl (x := 8) (by decide) (by decide) (e + 10)
  rw [if_neg (by decide)] at d8
  have d8 : jm_sem false (e + 11) jn_X12_isDoing [vM, .inl 8] m = some (.inl (nI 0), m) := d8
  have d7 := sm_isD1 h.2.1 hl (x := 7) (by decide) (by decide) (e + 10)
  rw [if_pos rfl] at d7
  have d7 : jm_sem false (e + 11) jn_X12_isDoing [vM, .inl 7] m = some (.inl (nI 1), m) := d7
  obtain ⟨m', a1, a2, a3⟩ := sm_joinL h hl hC (Or.inl rfl) (e + 9)
  have a1 : jm_sem false (e + 11) jn_X12_joins [vM] m = some (jm_j, m') := a1
  refine ⟨m', ?_, a2, a3⟩
  rw [l_X12_conditions_38, d8, jt_bi, show decide (nI 0 ≠ 0) = false by decide, cond_false, jt_df (show ¬ nI 7 ≠ 7 by decide), cond_false, d7, jt_bi, show decide (nI 1 = 0) = false by decide, cond_false, a1, jt_bv]
theorem W3_38 {σ : List Nat} {s : Lq} {x : Int32} {m : jm_M} (h : W3 σ s m) (hl : σ.length < 60) (hC : s.2.2.length < 200) (e : Nat) : ∃ m', jm_ev false (e + 11) 11 2 jc_X12_conditions 38 [vM, .inl x] [] m = jm_ev false (e + 11) 11 2 jc_X12_conditions 38 [vM, .inl x] [] m' ∧ mLp σ s m' ∧ fr PMw m m' := by
  rcases h with h | ⟨s0, rfl, h⟩
  · exact ⟨m, rfl, h, .rf⟩
  · rw [lqE_len] at hC
    exact sm_38j8 h hl (by omega) e
theorem W4_38 {σ : List Nat} {s : Lq} {m : jm_M} (h : W4 σ s m) (hl : σ.length < 59) (hC : s.2.2.length < 200) (e : Nat) : ∃ m', jm_ev false (e + 11) 11 2 jc_X12_conditions 38 [vM, .inl (nI 7)] [] m = jm_ev false (e + 11) 11 2 jc_X12_conditions 38 [vM, .inl (nI 7)] [] m' ∧ mLp σ s m' ∧ fr PMw m m' := by
  rcases h with h | ⟨s0, rfl, h⟩
  · exact W3_38 h (by omega) hC e
  · rw [lqE_len] at hC
    obtain ⟨m1, a1, a2, a3⟩ := W3_38 (x := nI 7) h (by rw [List.length_cons]; omega) (by omega) e
    obtain ⟨m2, b1, b2, b3⟩ := sm_38j7 a2 (by omega) (by omega) e
    exact ⟨m2, a1.trans b1, b2, a3.tr b3⟩
/-- an and, an or begins to wait -/
theorem sm_38d {T : Tb} {σ : List Nat} {s : Lq} {x : Nat} {m : jm_M} (hx : x = 7 ∨ x = 8) (h : mFn T s.1 m) (hp : mLp σ s m) (hl : σ.length < 60) (ho : okSt σ) (h8 : σ.head? ≠ some 8) (h7 : x = 7 → σ.head? ≠ some 7) (e : Nat) : ∃ m', jm_ev false (e + 11) 11 2 jc_X12_conditions 38 [vM, .inl (nI x)] [] m = G0 e m' ∧ mFn T (tkX T s.1) m' ∧ mLp (x :: σ) (lqX T s) m' ∧ fr PMl m m' := by
  obtain ⟨hc, hs, h22, h23⟩ := hp
  have d8 := sm_isD hs (by omega) ho (x := 8) (by decide) (e + 10)
  rw [if_neg h8] at d8
  have d8 : jm_sem false (e + 11) jn_X12_isDoing [vM, .inl 8] m = some (.inl (nI 0), m) := d8
  obtain ⟨m1, a1, a2, a3⟩ := sm_does (x := x) hs hl (e + 10)
  have h1 : mFn T s.1 m1 := mFn_fr h a3 (fun k h1 h2 z => by omega) (fun k z => by omega)
  obtain ⟨m2, b1, b2, b3⟩ := sm_aheadF h1 (e + 9)
  have a1 : jm_sem false (e + 11) jn_X12_does [vM, .inl (nI x)] m = some (jm_j, m1) := a1
  have b1 : jm_sem false (e + 11) jn_X12_ahead [vM] m1 = some (jm_j, m2) := b1
  have w : wi (x :: σ) = wi σ := if_neg (by omega)
  have p1 : mLp (x :: σ) (lqX T s) m1 := ⟨⟨by rw [(a3 40 0 0 24 (by omega)).1]; exact hc.1, fun k hk => by rw [(a3 41 0 0 _ (by omega)).1]; exact hc.2 k hk⟩, a2, by rw [(a3 40 0 0 22 (by omega)).1, w]; exact h22, by rw [(a3 40 0 0 23 (by omega)).1]; exact h23⟩
  refine ⟨m2, ?_, b2, mLp_40 p1 b3, (a3.wk (fun K i j k z => by unfold PMl; omega)).tr (P40_l b3)⟩
  rw [l_X12_conditions_38, d8, jt_bi, show decide (nI 0 ≠ 0) = false by decide, cond_false]
  rcases hx with rfl | rfl
  · have d7 := sm_isD hs (by omega) ho (x := 7) (by decide) (e + 10)
    rw [if_neg (h7 rfl)] at d7
    have d7 : jm_sem false (e + 11) jn_X12_isDoing [vM, .inl 7] m = some (.inl (nI 0), m) := d7
    rw [jt_df (show ¬ nI 7 ≠ 7 by decide), cond_false, d7, jt_bi, show decide (nI 0 = 0) = true by decide, cond_true, a1, jt_bv, b1, jt_bv]
    rfl
  · rw [jt_dt (show nI 8 ≠ 7 by decide), cond_true, a1, jt_bv, b1, jt_bv]
    rfl
/-- what waits is joined behind the last ONE -/
theorem sm_110j {σ : List Nat} {y : Nat} {s : Lq} {m : jm_M} (h : mLp (y :: σ) s m) (hl : σ.length < 60) (hC : s.2.2.length < 200) (hy : y = 7 ∨ y = 8) (z : jm_V) (e : Nat) : ∃ m', jm_ev false (e + 11) 11 2 jc_X12_conditions 110 [vM, z] [] m = jm_ev false (e + 11) 11 2 jc_X12_conditions 110 [vM, z] [] m' ∧ mLp σ (lqE s (17 - y)) m' ∧ fr PMw m m' := by
  obtain ⟨m', a1, a2, a3⟩ := sm_joinL h hl hC hy (e + 9)
  have a1 : jm_sem false (e + 11) jn_X12_joins [vM] m = some (jm_j, m') := a1
  have h21 : m.1 40 0 0 21 = nI (σ.length + 1) := h.2.1.1
  refine ⟨m', ?_, a2, a3⟩
  rw [l_X12_conditions_110, h21, decide_eq_false (show ¬ nI (σ.length + 1) ≤ 0 from nI_ge (a := 0) (b := σ.length + 1) (by omega) (by omega)), cond_false, a1, jt_bv]
theorem W4_110 {s : Lq} {m : jm_M} (h : W4 [] s m) (hC : s.2.2.length < 200) (z : jm_V) (e : Nat) : ∃ m', jm_ev false (e + 11) 11 2 jc_X12_conditions 110 [vM, z] [] m = some (.inl (nI 1), m') ∧ mLp [] s m' ∧ fr PMw m m' := by
  have fin : ∀ (t : Lq) (m' : jm_M), mLp [] t m' → jm_ev false (e + 11) 11 2 jc_X12_conditions 110 [vM, z] [] m' = some (.inl (nI 1), m') := fun t m' ht => by
    have h21 : m'.1 40 0 0 21 = nI 0 := ht.2.1.1
    rw [l_X12_conditions_110, h21, show decide (nI 0 ≤ 0) = true by decide, cond_true]
    rfl
  have w3 : ∀ (σ : List Nat) (t : Lq) (m' : jm_M), σ.length < 10 → t.2.2.length < 200 → W3 σ t m' → ∃ m'', jm_ev false (e + 11) 11 2 jc_X12_conditions 110 [vM, z] [] m' = jm_ev false (e + 11) 11 2 jc_X12_conditions 110 [vM, z] [] m'' ∧ mLp σ t m'' ∧ fr PMw m' m'' := by
    intro σ t m' hs hC h
    rcases h with h | ⟨s0, rfl, h⟩
    · exact ⟨m', rfl, h, .rf⟩
    · rw [lqE_len] at hC
      exact sm_110j h (by omega) (by omega) (Or.inr rfl) z e
  rcases h with h | ⟨s0, rfl, h⟩
  · obtain ⟨m1, a1, a2, a3⟩ := w3 _ _ _ (by rw [List.length_nil]; omega) hC h
    exact ⟨m1, a1.trans (fin _ _ a2), a2, a3⟩
  · rw [lqE_len] at hC
    obtain ⟨m1, a1, a2, a3⟩ := w3 _ _ _ (by rw [List.length_cons, List.length_nil]; omega) (by omega) h
    obtain ⟨m2, b1, b2, b3⟩ := sm_110j a2 (by rw [List.length_nil]; omega) (by omega) (Or.inl rfl) z e
    have b2 : mLp [] (lqE s0 10) m2 := b2
    exact ⟨m2, (a1.trans b1).trans (fin _ _ b2), b2, a3.tr b3⟩
/-- a bracket is closed -/
theorem sm_128j {σ : List Nat} {y : Nat} {s : Lq} {m : jm_M} (h : mLp (y :: σ) s m) (hl : σ.length < 60) (hC : s.2.2.length < 200) (hy : y = 7 ∨ y = 8) (z : jm_V) (e : Nat) : ∃ m', jm_ev false (e + 10) 11 2 jc_X12_aOne 128 [vM, z] [] m = jm_ev false (e + 10) 11 2 jc_X12_aOne 128 [vM, z] [] m' ∧ mLp σ (lqE s (17 - y)) m' ∧ fr PMw m m' := by
  obtain ⟨m', a1, a2, a3⟩ := sm_joinL h hl hC hy (e + 8)
  have a1 : jm_sem false (e + 10) jn_X12_joins [vM] m = some (jm_j, m') := a1
  have d4 := sm_isD1 h.2.1 hl (x := 40) (by omega) (by decide) (e + 9)
  rw [if_neg (by omega)] at d4
  have d4 : jm_sem false (e + 10) jn_X12_isDoing [vM, .inl 40] m = some (.inl (nI 0), m) := d4
  refine ⟨m', ?_, a2, a3⟩
  rw [l_X12_aOne_128, d4, jt_bi, show decide (nI 0 ≠ 0) = false by decide, cond_false, a1, jt_bv]
theorem W3_128 {σ : List Nat} {s : Lq} {m : jm_M} (h : W3 σ s m) (hl : σ.length < 60) (hC : s.2.2.length < 200) (z : jm_V) (e : Nat) : ∃ m', jm_ev false (e + 10) 11 2 jc_X12_aOne 128 [vM, z] [] m = jm_ev false (e + 10) 11 2 jc_X12_aOne 128 [vM, z] [] m' ∧ mLp σ s m' ∧ fr PMw m m' := by
  rcases h with h | ⟨s0, rfl, h⟩
  · exact ⟨m, rfl, h, .rf⟩
  · rw [lqE_len] at hC
    exact sm_128j h hl (by omega) (Or.inr rfl) z e
theorem W4_128 {σ : List Nat} {s : Lq} {m : jm_M} (h : W4 σ s m) (hl : σ.length < 59) (hC : s.2.2.length < 200) (z : jm_V) (e : Nat) : ∃ m', jm_ev false (e + 10) 11 2 jc_X12_aOne 128 [vM, z] [] m = jm_ev false (e + 10) 11 2 jc_X12_aOne 128 [vM, z] [] m' ∧ mLp σ s m' ∧ fr PMw m m' := by
  rcases h with h | ⟨s0, rfl, h⟩
  · exact W3_128 h (by omega) hC z e
  · rw [lqE_len] at hC
    obtain ⟨m1, a1, a2, a3⟩ := W3_128 h (by rw [List.length_cons]; omega) (by omega) z e
    obtain ⟨m2, b1, b2, b3⟩ := sm_128j a2 (by omega) (by omega) (Or.inl rfl) z e
    exact ⟨m2, a1.trans b1, b2, a3.tr b3⟩
theorem sm_128p {T : Tb} {σ : List Nat} {s : Lq} {m : jm_M} (h : mFn T s.1 m) (hp : mLp (40 :: σ) s m) (hl : σ.length < 60) (z : jm_V) (e : Nat) : ∃ m', jm_ev false (e + 10) 11 2 jc_X12_aOne 128 [vM, z] [] m = jm_bv (jm_sem false (e + 10) jn_X12_turnsRound [vM] m') (fun m' => jm_ev false (e + 10) 11 2 jc_X12_aOne 112 [vM, z] [] m') ∧ mFn T (tkX T s.1) m' ∧ mLp σ (lqX T s) m' ∧ fr PMl m m' := by
  obtain ⟨hc, hs, h22, h23⟩ := hp
  have d4 := sm_isD1 hs hl (x := 40) (by decide) (by decide) (e + 9)
  rw [if_pos rfl] at d4
  have d4 : jm_sem false (e + 10) jn_X12_isDoing [vM, .inl 40] m = some (.inl (nI 1), m) := d4
  have h21 : m.1 40 0 0 21 = nI (σ.length + 1) := hs.1
  rw [wi_p] at h22
  have e1 : jm_sI m 40 0 0 21 (m.1 40 0 0 21 - 1) = jm_sI m 40 0 0 21 (nI σ.length) := by rw [h21, nI_p1]
  have e2 : (jm_sI m 40 0 0 21 (nI σ.length)).1 40 0 0 22 - 1 = nI (wi σ) := by rw [rd_II, if_neg (by omega), h22, nI_p1]
  generalize hm1 : jm_sI (jm_sI m 40 0 0 21 (nI σ.length)) 40 0 0 22 (nI (wi σ)) = m1
  have f1 : fr (fun K _ _ k => K = 40 ∧ (k = 21 ∨ k = 22)) m m1 := by
    rw [← hm1]
    exact fr_sI (fr_sI .rf (by omega)) (by omega)
  have h1 : mFn T s.1 m1 := mFn_fr h f1 (fun k h1 h2 z => by omega) (fun k z => by omega)
  have p1 : mLp σ (lqX T s) m1 := ⟨⟨by rw [(f1 40 0 0 24 (by omega)).1]; exact hc.1, fun k hk => by rw [(f1 41 0 0 _ (by omega)).1]; exact hc.2 k hk⟩, ⟨by rw [← hm1, rd_II, if_neg (by omega), rd_II, if_pos ⟨rfl, rfl, rfl, rfl⟩], fun k hk => by rw [(f1 48 0 0 _ (by omega)).1, ← st_lo (y := 40) hk]; exact hs.2 k (by rw [List.length_cons]; omega)⟩, by rw [← hm1, rd_II, if_pos ⟨rfl, rfl, rfl, rfl⟩], by rw [(f1 40 0 0 23 (by omega)).1]; exact h23⟩
  obtain ⟨m2, b1, b2, b3⟩ := sm_aheadF h1 (e + 8)
  have b1 : jm_sem false (e + 10) jn_X12_ahead [vM] m1 = some (jm_j, m2) := b1
  refine ⟨m2, ?_, b2, mLp_40 p1 b3, (f1.wk (fun K i j k z => by unfold PMl; omega)).tr (P40_l b3)⟩
  rw [l_X12_aOne_128, d4, jt_bi, show decide (nI 1 ≠ 0) = true by decide, cond_true, e1, e2, hm1, b1, jt_bv]
