/-! ===== a LAW read (reference): what waits ===== -/
def mLc (C : List Ck) (m : jm_M) : Prop := m.1 40 0 0 24 = nI C.length ∧ ∀ k, k < C.length → m.1 41 0 0 (3640 + k) = nI (whatM (C.getD k (0, 0)))
def mSt (σ : List Nat) (m : jm_M) : Prop := m.1 40 0 0 21 = nI σ.length ∧ ∀ k, k < σ.length → m.1 48 0 0 k = nI (σ.reverse.getD k 0)
def wi : List Nat → Nat
  | [] => 0
  | x :: t => if x = 9 ∨ x = 40 then wi t + 1 else wi t
def mLp (σ : List Nat) (s : Lq) (m : jm_M) : Prop := mLc s.2.2 m ∧ mSt σ m ∧ m.1 40 0 0 22 = nI (wi σ) ∧ m.1 40 0 0 23 = nI s.2.1
def okSt (σ : List Nat) : Prop := ∀ x ∈ σ, x = 7 ∨ x = 8 ∨ x = 9 ∨ x = 40
/-- what reading conditions changes -/
def PMl (K _i _j k : Nat) : Prop := (K = 40 ∧ 12 ≤ k ∧ k ≤ 24 ∧ k ≠ 16 ∧ k ≠ 19) ∨ (K = 41 ∧ 3640 ≤ k ∧ k < 3850) ∨ K = 48
theorem P40x_l {m m' : jm_M} (f : fr P40x m m') : fr PMl m m' := f.wk (fun K i j k z => by unfold P40x at z; unfold PMl; omega)
theorem P40_l {m m' : jm_M} (f : fr P40 m m') : fr PMl m m' := P40x_l (P40_x f)
/-- changes of what waits and of the code alone -/
def PMw (K _i _j k : Nat) : Prop := (K = 40 ∧ 20 ≤ k ∧ k ≤ 24) ∨ (K = 41 ∧ 3640 ≤ k ∧ k < 3850) ∨ K = 48
theorem PMw_l {m m' : jm_M} (f : fr PMw m m') : fr PMl m m' := f.wk (fun K i j k z => by unfold PMw at z; unfold PMl; omega)
theorem mFn_w {T : Tb} {a : Nat} {m m' : jm_M} (h : mFn T a m) (f : fr PMw m m') : mFn T a m' := mFn_fr h f (fun k h1 h2 z => by unfold PMw at z; omega) (fun k z => by unfold PMw at z; omega)
theorem mLp_x {σ : List Nat} {s : Lq} {m m' : jm_M} (h : mLp σ s m) (f : fr P40x m m') : mLp σ s m' := by
  obtain ⟨⟨a1, a2⟩, ⟨b1, b2⟩, c1, c2⟩ := h
  have k := fun k (hk : 20 ≤ k) => (f 40 0 0 k (by unfold P40x; omega)).1
  exact ⟨⟨by rw [k _ (by omega)]; exact a1, fun j hj => by rw [(f 41 0 0 _ (by unfold P40x; omega)).1]; exact a2 j hj⟩, ⟨by rw [k _ (by omega)]; exact b1, fun j hj => by rw [(f 48 0 0 _ (by unfold P40x; omega)).1]; exact b2 j hj⟩, by rw [k _ (by omega)]; exact c1, by rw [k _ (by omega)]; exact c2⟩
theorem mLp_40 {σ : List Nat} {s : Lq} {m m' : jm_M} (h : mLp σ s m) (f : fr P40 m m') : mLp σ s m' := mLp_x h (P40_x f)
theorem st_lo {σ : List Nat} {y k : Nat} (h : k < σ.length) : (y :: σ).reverse.getD k 0 = σ.reverse.getD k 0 := by
  rw [List.reverse_cons]
  simp only [List.getD, List.getElem?_append_left (show k < σ.reverse.length by rw [List.length_reverse]; exact h)]
theorem st_hi (σ : List Nat) (y : Nat) : (y :: σ).reverse.getD σ.length 0 = y := by
  have e : σ.length = σ.reverse.length := List.length_reverse.symm
  rw [List.reverse_cons, e]
  simp [List.getD]
theorem sm_asksAlso {C : List Ck} {m : jm_M} (h : mLc C m) (hl : C.length < 200) (c : Ck) (d : Nat) : ∃ m', jm_sem false (d + 1) jn_X12_asksAlso [vM, .inl (nI (whatM c))] m = some (jm_j, m') ∧ mLc (C ++ [c]) m' ∧ fr (fun K _ _ k => (K = 40 ∧ k = 24) ∨ (K = 41 ∧ 3640 ≤ k ∧ k < 3850)) m m' := by
  obtain ⟨h4, hC⟩ := h
  refine ⟨jm_sI (jm_sI m 41 0 0 (3640 + C.length) (nI (whatM c))) 40 0 0 24 (nI (C.length + 1)), ?_, ⟨?_, fun k hk => ?_⟩, fr_sI (fr_sI .rf (by omega)) (by omega)⟩
  · rw [e_X12_asksAlso]; simp (disch := omega) only [jg_lit, jg_litL, jg_m1, jg_m1L, nI_add, lN_add, pk_mul, jg_sub, jg_subM, jg_addM, jg_addM', jg_negM, jt_in, jt_ix, jt_bi, jt_bl, jt_bv, jt_lt, jg_dT, jg_dF, jt_c, jt_cd, ru_I, ru_L, jg_leI, jg_ltI, jg_eqI, jg_M1, jg_M2, jg_M3, jg_M4, jg_M5, jg_M6, jg_ltT, jg_ltF, jg_leT, jg_leF, jg_eqT, jg_eqF, cond_true, cond_false, ne_eq, not_true_eq_false, not_false_eq_true, decide_true, decide_false, if_true, if_false, and_true, true_and, and_false, false_and, or_true, true_or, or_false, false_or, Nat.reduceEqDiff, reduceIte, Nat.reduceMul, Nat.reduceAdd, Nat.reduceSub, Nat.add_zero, Nat.zero_add, Nat.mul_zero, eq_self_iff_true, jg_not_lt, jg_not_le, h4]
  · rw [rd_II, if_pos ⟨rfl, rfl, rfl, rfl⟩, List.length_append, List.length_singleton]
  · rw [List.length_append, List.length_singleton] at hk
    rw [rd_II, if_neg (by omega), rd_II]
    by_cases e : k = C.length
    · subst e
      rw [if_pos ⟨rfl, rfl, rfl, rfl⟩, gC_hi]
    · rw [if_neg (by omega), gC_lo (by omega)]
      exact hC k (by omega)
theorem sm_isD0 {m : jm_M} (h : mSt [] m) (x : Int32) (d : Nat) : jm_sem false (d + 1) jn_X12_isDoing [vM, .inl x] m = some (.inl (nI 0), m) := by
  have h1 : m.1 40 0 0 21 = nI 0 := h.1
  rw [e_X12_isDoing, h1, show decide (nI 0 ≤ 0) = true by decide, cond_true]
  rfl
theorem sm_isD1 {σ : List Nat} {y x : Nat} {m : jm_M} (h : mSt (y :: σ) m) (hl : σ.length < 60) (hy : y < 100) (hx : x < 100) (d : Nat) : jm_sem false (d + 1) jn_X12_isDoing [vM, .inl (nI x)] m = some (.inl (if y = x then nI 1 else nI 0), m) := by
  obtain ⟨h1, h2⟩ := h
  have h1 : m.1 40 0 0 21 = nI (σ.length + 1) := h1
  have h2 := h2 σ.length (by rw [List.length_cons]; omega)
  rw [st_hi] at h2
  have le : decide (nI (σ.length + 1) ≤ 0) = false := decide_eq_false (nI_ge (a := 0) (b := σ.length + 1) (by omega) (by omega))
  rw [e_X12_isDoing, h1, le, cond_false, nI_p1, jt_in hl (by decide), cond_true, jt_ix (by omega), h2]
  by_cases e : y = x
  · rw [if_pos e, e, jt_df (show ¬ nI x ≠ nI x from fun z => z rfl), cond_false]; rfl
  · rw [if_neg e, jt_dt (nI_ne (by omega) (by omega) e), cond_true]; rfl
theorem sm_isD {σ : List Nat} {x : Nat} {m : jm_M} (h : mSt σ m) (hl : σ.length ≤ 60) (ho : okSt σ) (hx : x < 100) (d : Nat) : jm_sem false (d + 1) jn_X12_isDoing [vM, .inl (nI x)] m = some (.inl (if σ.head? = some x then nI 1 else nI 0), m) := by
  cases σ with
  | nil => rw [if_neg (by rw [List.head?_nil]; exact fun z => by cases z)]; exact sm_isD0 h _ d
  | cons y σ =>
    have := ho y List.mem_cons_self
    rw [sm_isD1 h (by rw [List.length_cons] at hl; omega) (by omega) hx d, List.head?_cons]
    by_cases e : y = x
    · rw [if_pos e, if_pos (by rw [e])]
    · rw [if_neg e, if_neg (fun z => e (Option.some.inj z))]
theorem sm_does {σ : List Nat} {x : Nat} {m : jm_M} (h : mSt σ m) (hl : σ.length < 60) (d : Nat) : ∃ m', jm_sem false (d + 1) jn_X12_does [vM, .inl (nI x)] m = some (jm_j, m') ∧ mSt (x :: σ) m' ∧ fr (fun K _ _ k => (K = 40 ∧ k = 21) ∨ K = 48) m m' := by
  obtain ⟨h1, h2⟩ := h
  refine ⟨jm_sI (jm_sI m 48 0 0 σ.length (nI x)) 40 0 0 21 (nI (σ.length + 1)), ?_, ⟨?_, fun k hk => ?_⟩, fr_sI (fr_sI .rf (by omega)) (by omega)⟩
  · rw [e_X12_does]; simp (disch := omega) only [jg_lit, jg_litL, jg_m1, jg_m1L, nI_add, lN_add, pk_mul, jg_sub, jg_subM, jg_addM, jg_addM', jg_negM, jt_in, jt_ix, jt_bi, jt_bl, jt_bv, jt_lt, jg_dT, jg_dF, jt_c, jt_cd, ru_I, ru_L, jg_leI, jg_ltI, jg_eqI, jg_M1, jg_M2, jg_M3, jg_M4, jg_M5, jg_M6, jg_ltT, jg_ltF, jg_leT, jg_leF, jg_eqT, jg_eqF, cond_true, cond_false, ne_eq, not_true_eq_false, not_false_eq_true, decide_true, decide_false, if_true, if_false, and_true, true_and, and_false, false_and, or_true, true_or, or_false, false_or, Nat.reduceEqDiff, reduceIte, Nat.reduceMul, Nat.reduceAdd, Nat.reduceSub, Nat.add_zero, Nat.zero_add, Nat.mul_zero, eq_self_iff_true, jg_not_lt, jg_not_le, h1]
  · rw [rd_II, if_pos ⟨rfl, rfl, rfl, rfl⟩]; rfl
  · rw [List.length_cons] at hk
    rw [rd_II, if_neg (by omega), rd_II]
    by_cases e : k = σ.length
    · subst e
      rw [if_pos ⟨rfl, rfl, rfl, rfl⟩, st_hi]
    · rw [if_neg (by omega), st_lo (by omega)]
      exact h2 k (by omega)
def ckO (y : Nat) : Ck := (17 - y, 0)
theorem ckO_w {y : Nat} (h : y = 7 ∨ y = 8 ∨ y = 9) : whatM (ckO y) = y := by
  rcases h with rfl | rfl | rfl <;> rfl
theorem sm_joins {σ : List Nat} {y : Nat} {C : List Ck} {m : jm_M} (h : mSt (y :: σ) m) (hc : mLc C m) (hl : σ.length < 60) (hC : C.length < 200) (hy : y = 7 ∨ y = 8 ∨ y = 9) (d : Nat) : ∃ m', jm_sem false (d + 2) jn_X12_joins [vM] m = some (jm_j, m') ∧ mSt σ m' ∧ mLc (C ++ [ckO y]) m' ∧ fr (fun K _ _ k => (K = 40 ∧ (k = 21 ∨ k = 24)) ∨ (K = 41 ∧ 3640 ≤ k ∧ k < 3850)) m m' := by
  obtain ⟨h1, h2⟩ := h
  have h1 : m.1 40 0 0 21 = nI (σ.length + 1) := h1
  have h48 := h2 σ.length (by rw [List.length_cons]; omega)
  rw [st_hi] at h48
  have e21 : jm_sI m 40 0 0 21 (m.1 40 0 0 21 - 1) = jm_sI m 40 0 0 21 (nI σ.length) := by rw [h1, nI_p1]
  have c0 : mLc C (jm_sI m 40 0 0 21 (nI σ.length)) := ⟨by rw [rd_II, if_neg (by omega)]; exact hc.1, fun k hk => by rw [rd_II, if_neg (by omega)]; exact hc.2 k hk⟩
  obtain ⟨m', a1, a2, a3⟩ := sm_asksAlso c0 hC (ckO y) d
  rw [ckO_w hy] at a1
  refine ⟨m', ?_, ⟨?_, fun k hk => ?_⟩, a2, (fr_I (Or.inl ⟨rfl, Or.inl rfl⟩)).tr (a3.wk (fun K i j k z => by omega))⟩
  · rw [e_X12_joins, e21, rd_II, if_pos ⟨rfl, rfl, rfl, rfl⟩, jt_in hl (by decide), cond_true, jt_ix (by omega), rd_II, if_neg (by omega), h48, a1, jt_bv]
  · rw [(a3 40 0 0 21 (by omega)).1, rd_II, if_pos ⟨rfl, rfl, rfl, rfl⟩]
  · rw [(a3 48 0 0 k (by omega)).1, rd_II, if_neg (by omega), ← st_lo (y := y) hk]
    exact h2 k (by rw [List.length_cons]; omega)
theorem wi_n (σ : List Nat) : wi (9 :: σ) = wi σ + 1 := if_pos (Or.inl rfl)
theorem wi_p (σ : List Nat) : wi (40 :: σ) = wi σ + 1 := if_pos (Or.inr rfl)
theorem wi_a (σ : List Nat) : wi (8 :: σ) = wi σ := if_neg (by omega)
theorem wi_o (σ : List Nat) : wi (7 :: σ) = wi σ := if_neg (by omega)
/-- an and, an or that waited is joined -/
theorem sm_joinL {σ : List Nat} {y : Nat} {s : Lq} {m : jm_M} (h : mLp (y :: σ) s m) (hl : σ.length < 60) (hC : s.2.2.length < 200) (hy : y = 7 ∨ y = 8) (d : Nat) : ∃ m', jm_sem false (d + 2) jn_X12_joins [vM] m = some (jm_j, m') ∧ mLp σ (lqE s (17 - y)) m' ∧ fr PMw m m' := by
  obtain ⟨hc, hs, h22, h23⟩ := h
  obtain ⟨m', a1, a2, a3, a4⟩ := sm_joins hs hc hl hC (by omega) d
  have w : wi (y :: σ) = wi σ := if_neg (by omega)
  exact ⟨m', a1, ⟨a3, a2, by rw [(a4 40 0 0 22 (by omega)).1, h22, w], by rw [(a4 40 0 0 23 (by omega)).1]; exact h23⟩, a4.wk (fun K i j k z => by unfold PMw; omega)⟩
theorem sm_turns0 {σ : List Nat} {m : jm_M} (h : mSt σ m) (hl : σ.length ≤ 60) (ho : okSt σ) (hh : σ.head? ≠ some 9) (d : Nat) : jm_sem false (d + 2) jn_X12_turnsRound [vM] m = some (jm_j, m) := by
  have e := sm_isD h hl ho (x := 9) (by decide) d
  rw [if_neg hh] at e
  have e : jm_sem false (d + 1) jn_X12_isDoing [vM, .inl 9] m = some (.inl (nI 0), m) := e
  rw [e_X12_turnsRound, e, jt_bi, show decide (nI 0 = 0) = true by decide, cond_true]
theorem sm_turns1 {σ : List Nat} {s : Lq} {m : jm_M} (h : mLp (9 :: σ) s m) (hl : σ.length < 60) (hC : s.2.2.length < 200) (d : Nat) : ∃ m', jm_sem false (d + 3) jn_X12_turnsRound [vM] m = jm_sem false (d + 3) jn_X12_turnsRound [vM] m' ∧ mLp σ (lqE s 8) m' ∧ fr PMw m m' := by
  obtain ⟨hc, hs, h22, h23⟩ := h
  have e := sm_isD1 hs hl (x := 9) (by decide) (by decide) (d + 1)
  rw [if_pos rfl] at e
  have e : jm_sem false (d + 2) jn_X12_isDoing [vM, .inl 9] m = some (.inl (nI 1), m) := e
  obtain ⟨m1, a1, a2, a3, a4⟩ := sm_joins hs hc hl hC (by omega) d
  have k22 : m1.1 40 0 0 22 = nI (wi σ + 1) := by rw [(a4 40 0 0 22 (by omega)).1, h22, wi_n]
  have f1 : fr (fun K _ _ k => K = 40 ∧ k = 22) m1 (jm_sI m1 40 0 0 22 (nI (wi σ))) := fr_I ⟨rfl, rfl⟩
  refine ⟨jm_sI m1 40 0 0 22 (nI (wi σ)), ?_, ⟨⟨by rw [(f1 40 0 0 24 (by omega)).1]; exact a3.1, fun k hk => by rw [(f1 41 0 0 _ (by omega)).1]; exact a3.2 k hk⟩, ⟨by rw [(f1 40 0 0 21 (by omega)).1]; exact a2.1, fun k hk => by rw [(f1 48 0 0 _ (by omega)).1]; exact a2.2 k hk⟩, by rw [rd_II, if_pos ⟨rfl, rfl, rfl, rfl⟩], by rw [(f1 40 0 0 23 (by omega)).1, (a4 40 0 0 23 (by omega)).1]; exact h23⟩, (a4.wk (fun K i j k z => by unfold PMw; omega)).tr (f1.wk (fun K i j k z => by unfold PMw; omega))⟩
  rw [e_X12_turnsRound, e, jt_bi, show decide (nI 1 = 0) = false by decide, cond_false, a1, jt_bv, k22, nI_p1, e_X12_turnsRound, l_X12_turnsRound_0]
theorem sm_open_loop {σ : List Nat} {m : jm_M} (h : mSt σ m) (hl : σ.length ≤ 60) (ho : okSt σ) (d : Nat) : ∀ (r k : Nat), k + r = σ.length → jm_ev false d 11 2 jc_X12_isOpen 2 [vM, .inl (nI k)] [] m = some (.inl (if (σ.reverse.drop k).any (fun x => x == 40) then nI 1 else nI 0), m)
  | 0, k, hk => by
    rw [List.drop_of_length_le (by rw [List.length_reverse]; omega), l_X12_isOpen_2, h.1, jt_dt (nI_le (by omega) (by omega)), cond_true]
    rfl
  | r + 1, k, hk => by
    have hk' : k < σ.reverse.length := by rw [List.length_reverse]; omega
    have e : σ.reverse.drop k = σ.reverse.getD k 0 :: σ.reverse.drop (k + 1) := by
      rw [List.drop_eq_getElem_cons hk']
      simp only [List.getD, List.getElem?_eq_getElem hk', Option.getD_some]
    have mem : σ.reverse.getD k 0 ∈ σ := List.mem_reverse.mp (getD_memN hk')
    have om := ho _ mem
    rw [e, List.any_cons, l_X12_isOpen_2, h.1, jt_df (nI_ge (by omega) (by omega)), cond_false, jt_in (by omega) (by decide), cond_true, jt_ix (by omega), h.2 k (by omega)]
    by_cases c : σ.reverse.getD k 0 = 40
    · rw [c, jt_df (show ¬ nI 40 ≠ 40 by decide), cond_false]
      rfl
    · rw [jt_dt (show nI (σ.reverse.getD k 0) ≠ 40 from nI_ne (b := 40) (by omega) (by decide) c), cond_true, nI_1, sm_open_loop h hl ho d r (k + 1) (by omega), beq_eq_false_iff_ne.mpr c, Bool.false_or]
theorem sm_isOpen {σ : List Nat} {m : jm_M} (h : mSt σ m) (hl : σ.length ≤ 60) (ho : okSt σ) (d : Nat) : jm_sem false (d + 1) jn_X12_isOpen [vM] m = some (.inl (if σ.any (fun x => x == 40) then nI 1 else nI 0), m) := by
  have e := sm_open_loop h hl ho d σ.length 0 (by omega)
  rw [List.drop_zero, List.any_reverse] at e
  rw [e_X12_isOpen]
  exact e
