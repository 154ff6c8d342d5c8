/-! ===== a VILLAGE read (class): names ===== -/
def ixN (c : Nat) : List Nat → Nat → Option Nat
  | [], _ => none
  | x :: t, i => if x = c then some i else ixN c t (i + 1)
def sfL (l : List Nat) : Sf := fun c => ixN c l 0
def sfO (o : Option (List Nat)) : Sf := match o with
  | none => fun _ => none
  | some l => sfL l
def wOf (q : List Nat × Nat) : Wd := wNew q.1 q.2
def wsOf (s : Pv) : List Wd := (pW s).map wOf
def xPv (s : Pv) (m : jm_M) : Prop := m.1 10 1 0 3 = nI (pM s).length ∧ m.1 10 1 0 4 = nI (pW s).length ∧ m.1 10 1 0 5 = nI (pP s).length ∧ m.1 10 1 0 6 = nI 0 ∧ xL [] 1 m ∧ xS (sfO (pS s)) 1 m ∧ (∀ j, j < (pW s).length → xW (gw (wsOf s) j) 1 j m) ∧ (∀ k, k < (pM s).length → m.2 7 0 0 k = lN (enc (gN (pM s) k))) ∧ (∀ k, k < (pP s).length → m.2 8 0 0 k = lN (enc (gN (pP s) k))) ∧ m.1 6 0 0 3 = jb (pS s).isSome
def PVt (K i _j k : Nat) : Prop := (K = 5 ∧ 2 ≤ k ∧ k ≤ 9) ∨ (K = 6 ∧ k = 3) ∨ K = 7 ∨ K = 8 ∨ (i = 1 ∧ (K = 10 ∨ (12 ≤ K ∧ K ≤ 19)))
theorem P5x_t {m m' : jm_M} (f : fr P5x m m') : fr PVt m m' := f.wk (fun K i j k z => Or.inl z)
theorem P5_t {m m' : jm_M} (f : fr P5 m m') : fr PVt m m' := P5x_t (P5_x f)
theorem xPv_k {s : Pv} {m m' : jm_M} (h : xPv s m) (hf : ∀ K i j k, K = 6 ∨ K = 7 ∨ K = 8 ∨ (i = 1 ∧ (K = 10 ∨ (12 ≤ K ∧ K ≤ 19))) → m'.1 K i j k = m.1 K i j k ∧ m'.2 K i j k = m.2 K i j k) : xPv s m' := by
  obtain ⟨h1, h2, h3, h4, h5, h6, h7, h8, h9, h10⟩ := h
  have k10 := fun k => (hf 10 1 0 k (by omega)).1
  have k13 := fun k => (hf 13 1 0 k (by omega)).1
  have k14 := fun k => (hf 14 1 0 k (by omega)).1
  have k15 := fun k => (hf 15 1 0 k (by omega)).1
  have k16 := fun k => (hf 16 1 0 k (by omega)).1
  have k17 := fun k => (hf 17 1 0 k (by omega)).1
  have k19 := fun k => (hf 19 1 0 k (by omega)).1
  refine ⟨by rw [k10]; exact h1, by rw [k10]; exact h2, by rw [k10]; exact h3, by rw [k10]; exact h4, ?_, fun c c1 c2 => by rw [k19]; exact h6 c c1 c2, fun j hj => xW_k (h7 j hj) (fun k => (hf 12 1 j k (by omega)).1) (fun k => (hf 12 1 j k (by omega)).2), fun k hk => by rw [(hf 7 0 0 k (by omega)).2]; exact h8 k hk, fun k hk => by rw [(hf 8 0 0 k (by omega)).2]; exact h9 k hk, by rw [(hf 6 0 0 3 (by omega)).1]; exact h10⟩
  unfold xL xC at h5 ⊢
  simp only [k13, k14, k15, k16, k17]
  exact h5
theorem xPv_5 {s : Pv} {m m' : jm_M} (h : xPv s m) (f : fr P5x m m') : xPv s m' := xPv_k h (fun K i j k hK => f K i j k (by unfold P5x; omega))
theorem gN_mem {L : List (List Nat)} {k : Nat} (h : k < L.length) : gN L k ∈ L := by
  unfold gN
  simp only [List.getD, List.getElem?_eq_getElem h, Option.getD_some]
  exact List.getElem_mem h
theorem dropN {L : List (List Nat)} {k : Nat} (h : k < L.length) : L.drop k = gN L k :: L.drop (k + 1) := by
  rw [List.drop_eq_getElem_cons h]
  unfold gN
  simp only [List.getD, List.getElem?_eq_getElem h, Option.getD_some]
theorem sx_pl7 {L : List (List Nat)} (hL : L.length ≤ 12) {v : Int64} {m : jm_M} (hv : m.2 5 0 0 6 = v) (h7 : ∀ k, k < L.length → m.2 7 0 0 k = lN (enc (gN L k))) (d : Nat) : ∀ (r k : Nat), k + r = L.length → jm_ev false d 8 1 jc_X9_placeOf 2 [.inr (.inr (.inl (6, 0, 0))), .inr (.inr (.inl (7, 0, 0))), .inl (nI L.length), .inl (nI k)] [] m = some (.inl (kyL v (L.drop k) k), m)
  | 0, k, hr => by
    rw [l_X9_placeOf_7_2, List.drop_of_length_le (by omega)]
    simp (disch := omega) only [jg_lit, jg_litL, jg_m1, jg_m1L, nI_add, lN_add, pk_mul, jg_sub, jg_subM, jg_addM, jg_addM', jg_negM, jt_in, jt_ix, jt_bi, jt_bl, jt_bv, jt_lt, jg_dT, jg_dF, jt_c, jt_cd, ru_I, ru_L, jg_leI, jg_ltI, jg_eqI, jg_M1, jg_M2, jg_M3, jg_M4, jg_M5, jg_M6, jg_ltT, jg_ltF, jg_leT, jg_leF, jg_eqT, jg_eqF, cond_true, cond_false, ne_eq, not_true_eq_false, not_false_eq_true, decide_true, decide_false, if_true, if_false, and_true, true_and, and_false, false_and, or_true, true_or, or_false, false_or, Nat.reduceEqDiff, reduceIte, Nat.reduceMul, Nat.reduceAdd, Nat.reduceSub, Nat.add_zero, Nat.zero_add, Nat.mul_zero, eq_self_iff_true, jg_not_lt, jg_not_le]
    rfl
  | r + 1, k, hr => by
    have q7 := h7 k (by omega)
    have e12 : (Int32.ofNat 12 : Int32) = nI 12 := rfl
    rw [l_X9_placeOf_7_2, e12, dropN (by omega)]
    unfold kyL
    by_cases c : lN (enc (gN L k)) = v
    · have c' : (lN (enc (gN L k)) = v) = True := eq_true c
      rw [if_pos c]
      simp (disch := omega) only [jg_lit, jg_litL, jg_m1, jg_m1L, nI_add, lN_add, pk_mul, jg_sub, jg_subM, jg_addM, jg_addM', jg_negM, jt_in, jt_ix, jt_bi, jt_bl, jt_bv, jt_lt, jg_dT, jg_dF, jt_c, jt_cd, ru_I, ru_L, jg_leI, jg_ltI, jg_eqI, jg_M1, jg_M2, jg_M3, jg_M4, jg_M5, jg_M6, jg_ltT, jg_ltF, jg_leT, jg_leF, jg_eqT, jg_eqF, cond_true, cond_false, ne_eq, not_true_eq_false, not_false_eq_true, decide_true, decide_false, if_true, if_false, and_true, true_and, and_false, false_and, or_true, true_or, or_false, false_or, Nat.reduceEqDiff, reduceIte, Nat.reduceMul, Nat.reduceAdd, Nat.reduceSub, Nat.add_zero, Nat.zero_add, Nat.mul_zero, eq_self_iff_true, jg_not_lt, jg_not_le, hv, q7, lc_eq, c']
    · have c' : (lN (enc (gN L k)) = v) = False := eq_false c
      rw [if_neg c]
      simp (disch := omega) only [jg_lit, jg_litL, jg_m1, jg_m1L, nI_add, lN_add, pk_mul, jg_sub, jg_subM, jg_addM, jg_addM', jg_negM, jt_in, jt_ix, jt_bi, jt_bl, jt_bv, jt_lt, jg_dT, jg_dF, jt_c, jt_cd, ru_I, ru_L, jg_leI, jg_ltI, jg_eqI, jg_M1, jg_M2, jg_M3, jg_M4, jg_M5, jg_M6, jg_ltT, jg_ltF, jg_leT, jg_leF, jg_eqT, jg_eqF, cond_true, cond_false, ne_eq, not_true_eq_false, not_false_eq_true, decide_true, decide_false, if_true, if_false, and_true, true_and, and_false, false_and, or_true, true_or, or_false, false_or, Nat.reduceEqDiff, reduceIte, Nat.reduceMul, Nat.reduceAdd, Nat.reduceSub, Nat.add_zero, Nat.zero_add, Nat.mul_zero, eq_self_iff_true, jg_not_lt, jg_not_le, hv, q7, lc_eq, c']
      exact sx_pl7 hL hv h7 d r (k + 1) (by omega)
theorem sx_pl8 {L : List (List Nat)} (hL : L.length ≤ 4) {v : Int64} {m : jm_M} (hv : m.2 5 0 0 6 = v) (h7 : ∀ k, k < L.length → m.2 8 0 0 k = lN (enc (gN L k))) (d : Nat) : ∀ (r k : Nat), k + r = L.length → jm_ev false d 8 1 jc_X9_placeOf 2 [.inr (.inr (.inl (6, 0, 0))), .inr (.inr (.inl (8, 0, 0))), .inl (nI L.length), .inl (nI k)] [] m = some (.inl (kyL v (L.drop k) k), m)
  | 0, k, hr => by
    rw [l_X9_placeOf_8_2, List.drop_of_length_le (by omega)]
    simp (disch := omega) only [jg_lit, jg_litL, jg_m1, jg_m1L, nI_add, lN_add, pk_mul, jg_sub, jg_subM, jg_addM, jg_addM', jg_negM, jt_in, jt_ix, jt_bi, jt_bl, jt_bv, jt_lt, jg_dT, jg_dF, jt_c, jt_cd, ru_I, ru_L, jg_leI, jg_ltI, jg_eqI, jg_M1, jg_M2, jg_M3, jg_M4, jg_M5, jg_M6, jg_ltT, jg_ltF, jg_leT, jg_leF, jg_eqT, jg_eqF, cond_true, cond_false, ne_eq, not_true_eq_false, not_false_eq_true, decide_true, decide_false, if_true, if_false, and_true, true_and, and_false, false_and, or_true, true_or, or_false, false_or, Nat.reduceEqDiff, reduceIte, Nat.reduceMul, Nat.reduceAdd, Nat.reduceSub, Nat.add_zero, Nat.zero_add, Nat.mul_zero, eq_self_iff_true, jg_not_lt, jg_not_le]
    rfl
  | r + 1, k, hr => by
    have q7 := h7 k (by omega)
    have e12 : (Int32.ofNat 4 : Int32) = nI 4 := rfl
    rw [l_X9_placeOf_8_2, e12, dropN (by omega)]
    unfold kyL
    by_cases c : lN (enc (gN L k)) = v
    · have c' : (lN (enc (gN L k)) = v) = True := eq_true c
      rw [if_pos c]
      simp (disch := omega) only [jg_lit, jg_litL, jg_m1, jg_m1L, nI_add, lN_add, pk_mul, jg_sub, jg_subM, jg_addM, jg_addM', jg_negM, jt_in, jt_ix, jt_bi, jt_bl, jt_bv, jt_lt, jg_dT, jg_dF, jt_c, jt_cd, ru_I, ru_L, jg_leI, jg_ltI, jg_eqI, jg_M1, jg_M2, jg_M3, jg_M4, jg_M5, jg_M6, jg_ltT, jg_ltF, jg_leT, jg_leF, jg_eqT, jg_eqF, cond_true, cond_false, ne_eq, not_true_eq_false, not_false_eq_true, decide_true, decide_false, if_true, if_false, and_true, true_and, and_false, false_and, or_true, true_or, or_false, false_or, Nat.reduceEqDiff, reduceIte, Nat.reduceMul, Nat.reduceAdd, Nat.reduceSub, Nat.add_zero, Nat.zero_add, Nat.mul_zero, eq_self_iff_true, jg_not_lt, jg_not_le, hv, q7, lc_eq, c']
    · have c' : (lN (enc (gN L k)) = v) = False := eq_false c
      rw [if_neg c]
      simp (disch := omega) only [jg_lit, jg_litL, jg_m1, jg_m1L, nI_add, lN_add, pk_mul, jg_sub, jg_subM, jg_addM, jg_addM', jg_negM, jt_in, jt_ix, jt_bi, jt_bl, jt_bv, jt_lt, jg_dT, jg_dF, jt_c, jt_cd, ru_I, ru_L, jg_leI, jg_ltI, jg_eqI, jg_M1, jg_M2, jg_M3, jg_M4, jg_M5, jg_M6, jg_ltT, jg_ltF, jg_leT, jg_leF, jg_eqT, jg_eqF, cond_true, cond_false, ne_eq, not_true_eq_false, not_false_eq_true, decide_true, decide_false, if_true, if_false, and_true, true_and, and_false, false_and, or_true, true_or, or_false, false_or, Nat.reduceEqDiff, reduceIte, Nat.reduceMul, Nat.reduceAdd, Nat.reduceSub, Nat.add_zero, Nat.zero_add, Nat.mul_zero, eq_self_iff_true, jg_not_lt, jg_not_le, hv, q7, lc_eq, c']
      exact sx_pl8 hL hv h7 d r (k + 1) (by omega)
theorem okN_K {L : List (List Nat)} (h : ∀ l ∈ L, okN l) : ∀ w ∈ L, w.length ≤ 8 ∧ ∀ c ∈ w, 1 ≤ c ∧ c < 32 := fun w hw => ⟨(h w hw).2.1, (h w hw).1⟩
theorem sx_place7 {s : Pv} {m : jm_M} (h : xPv s m) (ho : okPv s) (d : Nat) : jm_sem false (d + 1) jn_X9_placeOf [.inr (.inr (.inl (6, 0, 0))), .inr (.inr (.inl (7, 0, 0))), .inl (nI (pM s).length)] m = some (.inl (kyL (m.2 5 0 0 6) (pM s) 0), m) := by
  rw [e_X9_placeOf_7]
  exact sx_pl7 ho.1 rfl h.2.2.2.2.2.2.2.1 d (pM s).length 0 (by omega)
theorem sx_place8 {s : Pv} {m : jm_M} (h : xPv s m) (ho : okPv s) (d : Nat) : jm_sem false (d + 1) jn_X9_placeOf [.inr (.inr (.inl (6, 0, 0))), .inr (.inr (.inl (8, 0, 0))), .inl (nI (pP s).length)] m = some (.inl (kyL (m.2 5 0 0 6) (pP s) 0), m) := by
  rw [e_X9_placeOf_8]
  exact sx_pl8 ho.2.1 rfl h.2.2.2.2.2.2.2.2.1 d (pP s).length 0 (by omega)
theorem ixOf_lt {ls : List Nat} {K : List (List Nat)} (hK : K.length < 2 ^ 31) : ∀ q, ixOf ls K 0 = some q → q < 2 ^ 31 := fun q hq => by
  have := (ixOf_some K 0 q hq).2.1
  omega
theorem and1 : decide (nI 1 &&& 1 = nI 1) = true := by decide
theorem and0 : decide (nI 0 &&& 1 = nI 0) = true := by decide
theorem nnS_1 {T : Tb} {s : Pv} {b : Nat} (h : nmB T b = false) : nnS T s b = some (flt T b) := if_pos h
theorem nnS_2 {T : Tb} {s : Pv} {b : Nat} (h : nmB T b = true) (h2 : (ixOf (tkL T b) (pM s) 0).isSome = true ∨ (ixOf (tkL T b) (pP s) 0).isSome = true) : nnS T s b = some (3, b) := by
  unfold nnS
  rw [if_neg (by rw [h]; decide), if_pos h2]
theorem nnS_3 {T : Tb} {s : Pv} {b : Nat} (h : nmB T b = true) (h1 : ixOf (tkL T b) (pM s) 0 = none) (h2 : ixOf (tkL T b) (pP s) 0 = none) : nnS T s b = none := by
  unfold nnS
  rw [if_neg (by rw [h]; decide), if_neg (by rw [h1, h2]; exact fun z => by rcases z with z | z <;> cases z)]
theorem sx_newName {T : Tb} {s : Pv} {b : Nat} {m : jm_M} (h : xF T b m) (hp : xPv s m) (ho : okPv s) (d : Nat) : ∃ m', jm_sem false (d + 3) jn_X9_isNewName [.inr (.inr (.inl (6, 0, 0))), .inr (.inr (.inl (10, 1, 0)))] m = some (.inl (if (nnS T s b).isSome then nI 0 else nI 1), m') ∧ (match nnS T s b with | some f => xE f m' | none => m' = m) ∧ fr P5x m m' := by
  have isn := (sx_isName h d).1
  have n3 := hp.1
  have n5 := hp.2.2.1
  have p7 := sx_place7 hp ho (d + 1)
  have p8 := sx_place8 hp ho (d + 1)
  cases hn : nmB T b with
  | false =>
    rw [nnS_1 hn]
    rw [hn, if_neg (by decide)] at isn
    obtain ⟨m', e1, e2, e3⟩ := sx_blSt h d
    have fi := sx_fineF e2 (d + 1)
    refine ⟨m', ?_, e2, e3⟩
    rw [e_X9_isNewName, isn, jt_bi, show decide (nI 0 ≠ 0) = false by decide, cond_false, e1, jt_bv, fi, jt_bi, and0, cond_true]
    rfl
  | true =>
    rw [hn, if_pos rfl] at isn
    obtain ⟨⟨o1, o2, o3, o4⟩, k1, -⟩ := nmB_ok hn
    have v6 := h.2.2.1.2.2.2.2.2.1 k1
    rw [v6] at p7 p8
    rw [kyL_ix o1 o2 (pM s) 0 (okN_K ho.2.2.2.1)] at p7
    rw [kyL_ix o1 o2 (pP s) 0 (okN_K ho.2.2.2.2.1)] at p8
    have l1 := ho.1
    have l2 := ho.2.1
    have st : jm_sem false (d + 3) jn_X9_isNewName [.inr (.inr (.inl (6, 0, 0))), .inr (.inr (.inl (10, 1, 0)))] m = _ := e_X9_isNewName (d + 2) 1 m
    rw [isn, jt_bi, show decide (nI 1 ≠ 0) = true by decide, cond_true, n3, p7, jt_bi] at st
    cases h7 : ixOf (tkL T b) (pM s) 0 with
    | some q =>
      rw [nnS_2 hn (Or.inl (by rw [h7]; rfl))]
      obtain ⟨m', e1, e2, e3⟩ := sx_blame h (k := 3) (by decide) (by decide) (d + 1)
      have fi := sx_fineF e2 (d + 1)
      refine ⟨m', ?_, e2, e3⟩
      have e1 : jm_sem false (d + 2) jn_X6_blame [.inr (.inr (.inl (5, 0, 0))), .inl 3] m = some (jm_j, m') := e1
      rw [h7, jt_dt (show jpl (some q) ≠ -1 from jt_m1 (ixOf_lt (by omega) q h7)), cond_true, e1, jt_bv, fi, jt_bi, and0, cond_true] at st
      exact st
    | none =>
      rw [h7, jt_df (show ¬ (jpl none ≠ -1) from fun z => z rfl), cond_false, n5, p8, jt_bi] at st
      cases h8 : ixOf (tkL T b) (pP s) 0 with
      | some q =>
        rw [nnS_2 hn (Or.inr (by rw [h8]; rfl))]
        obtain ⟨m', e1, e2, e3⟩ := sx_blame h (k := 3) (by decide) (by decide) (d + 1)
        have fi := sx_fineF e2 (d + 1)
        refine ⟨m', ?_, e2, e3⟩
        have e1 : jm_sem false (d + 2) jn_X6_blame [.inr (.inr (.inl (5, 0, 0))), .inl 3] m = some (jm_j, m') := e1
        rw [h8, jt_df (show ¬ jpl (some q) = -1 from jt_m1 (ixOf_lt (by omega) q h8)), cond_false, e1, jt_bv, fi, jt_bi, and0, cond_true] at st
        exact st
      | none =>
        rw [nnS_3 hn h7 h8]
        have fi := sx_fineT h (d + 1)
        refine ⟨m, ?_, rfl, .rf⟩
        rw [h8, jt_dt (show jpl none = -1 from rfl), cond_true, fi, jt_bi, and1, cond_true] at st
        exact st
theorem gN_lo {L : List (List Nat)} {x : List Nat} {k : Nat} (h : k < L.length) : gN (L ++ [x]) k = gN L k := by
  unfold gN
  simp only [List.getD]
  rw [List.getElem?_append_left h]
theorem gN_hi (L : List (List Nat)) (x : List Nat) : gN (L ++ [x]) L.length = x := by
  unfold gN
  simp only [List.getD]
  rw [List.getElem?_append_right (Nat.le_refl _), Nat.sub_self]
  rfl
def xN (s : Pv) (m : jm_M) : Prop := m.1 10 1 0 4 = nI (pW s).length ∧ m.1 10 1 0 5 = nI (pP s).length
theorem xN_5 {s : Pv} {m m' : jm_M} (h : xPv s m) (f : fr P5x m m') : xN s m' := ⟨((f 10 1 0 4 (by unfold P5x; omega)).1).trans h.2.1, ((f 10 1 0 5 (by unfold P5x; omega)).1).trans h.2.2.1⟩
/-- what a part of the text gives -/
def xRv (T : Tb) (s : Pv) (r : Ft ⊕ (Pv × Nat)) (m : jm_M) : Prop := match r with
  | .inl f => xE f m ∧ xN s m
  | .inr q => xF T q.2 m ∧ xPv q.1 m
theorem xF_PV {T : Tb} {a : Nat} {P : Nat → Nat → Nat → Nat → Prop} {m m' : jm_M} (h : xF T a m) (f : fr P m m') (hP : ∀ K i j k, P K i j k → K ≠ 5 ∧ K ≠ 4) : xF T a m' := xF_fr h f (fun k z => (hP _ _ _ _ z).1 rfl) (fun k z => (hP _ _ _ _ z).2 rfl)
theorem sx_readMeaning {T : Tb} {s : Pv} {a : Nat} {m : jm_M} (h : xF T a m) (hp : xPv s m) (ho : okPv s) (d : Nat) : ∃ m', jm_sem false (d + 9) jn_X9_readMeaning [.inr (.inr (.inl (6, 0, 0))), .inr (.inr (.inl (10, 1, 0)))] m = some (jm_j, m') ∧ xRv T s (vtM T s a) m' ∧ fr PVt m m' := by
  have n3 := hp.1
  have l12 := ho.1
  unfold vtM
  by_cases c : (pM s).length = 12
  · rw [if_pos c]
    obtain ⟨m', e1, e2, e3⟩ := sx_blame h (k := 6) (by decide) (by decide) (d + 7)
    refine ⟨m', ?_, ⟨e2, xN_5 hp e3⟩, P5x_t e3⟩
    rw [e_X9_readMeaning]; simp (disch := omega) only [jg_lit, jg_litL, jg_m1, jg_m1L, nI_add, lN_add, pk_mul, jg_sub, jg_subM, jg_addM, jg_addM', jg_negM, jt_in, jt_ix, jt_bi, jt_bl, jt_bv, jt_lt, jg_dT, jg_dF, jt_c, jt_cd, ru_I, ru_L, jg_leI, jg_ltI, jg_eqI, jg_M1, jg_M2, jg_M3, jg_M4, jg_M5, jg_M6, jg_ltT, jg_ltF, jg_leT, jg_leF, jg_eqT, jg_eqF, cond_true, cond_false, ne_eq, not_true_eq_false, not_false_eq_true, decide_true, decide_false, if_true, if_false, and_true, true_and, and_false, false_and, or_true, true_or, or_false, false_or, Nat.reduceEqDiff, reduceIte, Nat.reduceMul, Nat.reduceAdd, Nat.reduceSub, Nat.add_zero, Nat.zero_add, Nat.mul_zero, eq_self_iff_true, jg_not_lt, jg_not_le, n3, e1]
  · rw [if_neg c]
    obtain ⟨m1, a1, a2, a3⟩ := sx_advF h d
    have p1 := xPv_5 hp (P5_x a3)
    obtain ⟨m2, b1, b2, b3⟩ := sx_newName a2 p1 ho (d + 5)
    have st : jm_sem false (d + 9) jn_X9_readMeaning [.inr (.inr (.inl (6, 0, 0))), .inr (.inr (.inl (10, 1, 0)))] m = _ := e_X9_readMeaning (d + 8) 1 m
    rw [n3, jt_dt (show nI (pM s).length < 12 from nI_lt (b := 12) (by omega) (by decide)), cond_true, a1, jt_bv, b1, jt_bi] at st
    cases hn : nnS T s (tkX T a) with
    | some f =>
      rw [hn] at b2 st
      refine ⟨m2, ?_, ⟨b2, xN_5 hp ((P5_x a3).tr b3)⟩, (P5_t a3).tr (P5x_t b3)⟩
      rw [st]
      rfl
    | none =>
      rw [hn] at b2 st
      have b2 : m2 = m1 := b2
      subst b2
      have nb : nmB T (tkX T a) = true := by
        cases hh : nmB T (tkX T a) with
        | true => rfl
        | false => unfold nnS at hn; rw [if_pos hh] at hn; cases hn
      have v6 := a2.2.2.1.2.2.2.2.2.1 (nmB_ok nb).2.1
      have n3' := p1.1
      have f3 : fr (fun K i _ _ => K = 7 ∨ (K = 10 ∧ i = 1)) m2 (jm_sI (jm_sL m2 7 0 0 (pM s).length (lN (enc (tkL T (tkX T a))))) 10 1 0 3 (nI ((pM s).length + 1))) := fr_sI (fr_sL .rf (Or.inl rfl)) (Or.inr ⟨rfl, rfl⟩)
      have h3 := xF_PV a2 f3 (fun K i j k z => by omega)
      obtain ⟨m4, d1, d2, d3⟩ := sx_advF h3 d
      refine ⟨m4, ?_, ⟨d2, ?_⟩, ((P5_t a3).tr (f3.wk (fun K i j k z => by unfold PVt; omega))).tr (P5_t d3)⟩
      · rw [st]
        simp (disch := omega) only [jg_lit, jg_litL, jg_m1, jg_m1L, nI_add, lN_add, pk_mul, jg_sub, jg_subM, jg_addM, jg_addM', jg_negM, jt_in, jt_ix, jt_bi, jt_bl, jt_bv, jt_lt, jg_dT, jg_dF, jt_c, jt_cd, ru_I, ru_L, jg_leI, jg_ltI, jg_eqI, jg_M1, jg_M2, jg_M3, jg_M4, jg_M5, jg_M6, jg_ltT, jg_ltF, jg_leT, jg_leF, jg_eqT, jg_eqF, cond_true, cond_false, ne_eq, not_true_eq_false, not_false_eq_true, decide_true, decide_false, if_true, if_false, and_true, true_and, and_false, false_and, or_true, true_or, or_false, false_or, Nat.reduceEqDiff, reduceIte, Nat.reduceMul, Nat.reduceAdd, Nat.reduceSub, Nat.add_zero, Nat.zero_add, Nat.mul_zero, eq_self_iff_true, jg_not_lt, jg_not_le, n3', v6, Option.isSome_none, Bool.false_eq_true]
        rw [d1]
        rfl
      · refine xPv_5 ?_ (P5_x d3)
        obtain ⟨h1, h2, h3, h4, h5, h6, h7, h8, h9, h10⟩ := p1
        have ne : ∀ K i j k, ¬ (K = 10 ∧ k = 3) → (jm_sI (jm_sL m2 7 0 0 (pM s).length (lN (enc (tkL T (tkX T a))))) 10 1 0 3 (nI ((pM s).length + 1))).1 K i j k = m2.1 K i j k := fun K i j k z => by rw [rd_II, if_neg (by omega)]
        refine ⟨?_, by rw [ne _ _ _ _ (by omega)]; exact h2, by rw [ne _ _ _ _ (by omega)]; exact h3, by rw [ne _ _ _ _ (by omega)]; exact h4, ?_, fun c c1 c2 => by rw [ne _ _ _ _ (by omega)]; exact h6 c c1 c2, fun j hj => xW_k (h7 j hj) (fun k => ne _ _ _ _ (by omega)) (fun k => by rw [rd_IL, rd_LL, if_neg (by omega)]), fun k hk => ?_, fun k hk => by rw [rd_IL, rd_LL, if_neg (by omega)]; exact h9 k hk, by rw [ne _ _ _ _ (by omega)]; exact h10⟩
        · rw [rd_II, if_pos ⟨rfl, rfl, rfl, rfl⟩]
          show _ = nI (pM s ++ [_]).length
          rw [List.length_append, List.length_singleton]
        · unfold xL xC at h5 ⊢
          have k13 := fun k => ne 13 1 0 k (by omega)
          have k14 := fun k => ne 14 1 0 k (by omega)
          have k15 := fun k => ne 15 1 0 k (by omega)
          have k16 := fun k => ne 16 1 0 k (by omega)
          have k17 := fun k => ne 17 1 0 k (by omega)
          simp only [k13, k14, k15, k16, k17]
          exact h5
        · have hk : k < (pM s ++ [tkL T (tkX T a)]).length := hk
          rw [List.length_append, List.length_singleton] at hk
          show _ = lN (enc (gN (pM s ++ [tkL T (tkX T a)]) k))
          rw [rd_IL, rd_LL]
          by_cases e : k = (pM s).length
          · rw [if_pos ⟨rfl, rfl, rfl, e⟩, e, gN_hi]
          · rw [if_neg (by omega), gN_lo (by omega)]; exact h8 k (by omega)
theorem sx_readSpeaker {T : Tb} {s : Pv} {a : Nat} {m : jm_M} (h : xF T a m) (hp : xPv s m) (ho : okPv s) (d : Nat) : ∃ m', jm_sem false (d + 9) jn_X9_readSpeaker [.inr (.inr (.inl (6, 0, 0))), .inr (.inr (.inl (10, 1, 0)))] m = some (jm_j, m') ∧ xRv T s (vtP T s a) m' ∧ fr PVt m m' := by
  have n3 := hp.2.2.1
  have l12 := ho.2.1
  unfold vtP
  by_cases c : (pP s).length = 4
  · rw [if_pos c]
    obtain ⟨m', e1, e2, e3⟩ := sx_blame h (k := 6) (by decide) (by decide) (d + 7)
    refine ⟨m', ?_, ⟨e2, xN_5 hp e3⟩, P5x_t e3⟩
    rw [e_X9_readSpeaker]; simp (disch := omega) only [jg_lit, jg_litL, jg_m1, jg_m1L, nI_add, lN_add, pk_mul, jg_sub, jg_subM, jg_addM, jg_addM', jg_negM, jt_in, jt_ix, jt_bi, jt_bl, jt_bv, jt_lt, jg_dT, jg_dF, jt_c, jt_cd, ru_I, ru_L, jg_leI, jg_ltI, jg_eqI, jg_M1, jg_M2, jg_M3, jg_M4, jg_M5, jg_M6, jg_ltT, jg_ltF, jg_leT, jg_leF, jg_eqT, jg_eqF, cond_true, cond_false, ne_eq, not_true_eq_false, not_false_eq_true, decide_true, decide_false, if_true, if_false, and_true, true_and, and_false, false_and, or_true, true_or, or_false, false_or, Nat.reduceEqDiff, reduceIte, Nat.reduceMul, Nat.reduceAdd, Nat.reduceSub, Nat.add_zero, Nat.zero_add, Nat.mul_zero, eq_self_iff_true, jg_not_lt, jg_not_le, n3, e1]
  · rw [if_neg c]
    obtain ⟨m1, a1, a2, a3⟩ := sx_advF h d
    have p1 := xPv_5 hp (P5_x a3)
    obtain ⟨m2, b1, b2, b3⟩ := sx_newName a2 p1 ho (d + 5)
    have st : jm_sem false (d + 9) jn_X9_readSpeaker [.inr (.inr (.inl (6, 0, 0))), .inr (.inr (.inl (10, 1, 0)))] m = _ := e_X9_readSpeaker (d + 8) 1 m
    rw [n3, jt_dt (show nI (pP s).length < 4 from nI_lt (b := 4) (by omega) (by decide)), cond_true, a1, jt_bv, b1, jt_bi] at st
    cases hn : nnS T s (tkX T a) with
    | some f =>
      rw [hn] at b2 st
      refine ⟨m2, ?_, ⟨b2, xN_5 hp ((P5_x a3).tr b3)⟩, (P5_t a3).tr (P5x_t b3)⟩
      rw [st]
      rfl
    | none =>
      rw [hn] at b2 st
      have b2 : m2 = m1 := b2
      subst b2
      have nb : nmB T (tkX T a) = true := by
        cases hh : nmB T (tkX T a) with
        | true => rfl
        | false => unfold nnS at hn; rw [if_pos hh] at hn; cases hn
      have v6 := a2.2.2.1.2.2.2.2.2.1 (nmB_ok nb).2.1
      have n3' := p1.2.2.1
      have f3 : fr (fun K i _ _ => K = 8 ∨ (K = 10 ∧ i = 1)) m2 (jm_sI (jm_sL m2 8 0 0 (pP s).length (lN (enc (tkL T (tkX T a))))) 10 1 0 5 (nI ((pP s).length + 1))) := fr_sI (fr_sL .rf (Or.inl rfl)) (Or.inr ⟨rfl, rfl⟩)
      have h3 := xF_PV a2 f3 (fun K i j k z => by omega)
      obtain ⟨m4, d1, d2, d3⟩ := sx_advF h3 d
      refine ⟨m4, ?_, ⟨d2, ?_⟩, ((P5_t a3).tr (f3.wk (fun K i j k z => by unfold PVt; omega))).tr (P5_t d3)⟩
      · rw [st]
        simp (disch := omega) only [jg_lit, jg_litL, jg_m1, jg_m1L, nI_add, lN_add, pk_mul, jg_sub, jg_subM, jg_addM, jg_addM', jg_negM, jt_in, jt_ix, jt_bi, jt_bl, jt_bv, jt_lt, jg_dT, jg_dF, jt_c, jt_cd, ru_I, ru_L, jg_leI, jg_ltI, jg_eqI, jg_M1, jg_M2, jg_M3, jg_M4, jg_M5, jg_M6, jg_ltT, jg_ltF, jg_leT, jg_leF, jg_eqT, jg_eqF, cond_true, cond_false, ne_eq, not_true_eq_false, not_false_eq_true, decide_true, decide_false, if_true, if_false, and_true, true_and, and_false, false_and, or_true, true_or, or_false, false_or, Nat.reduceEqDiff, reduceIte, Nat.reduceMul, Nat.reduceAdd, Nat.reduceSub, Nat.add_zero, Nat.zero_add, Nat.mul_zero, eq_self_iff_true, jg_not_lt, jg_not_le, n3', v6, Option.isSome_none, Bool.false_eq_true]
        rw [d1]
        rfl
      · refine xPv_5 ?_ (P5_x d3)
        obtain ⟨h1, h2, h3, h4, h5, h6, h7, h8, h9, h10⟩ := p1
        have ne : ∀ K i j k, ¬ (K = 10 ∧ k = 5) → (jm_sI (jm_sL m2 8 0 0 (pP s).length (lN (enc (tkL T (tkX T a))))) 10 1 0 5 (nI ((pP s).length + 1))).1 K i j k = m2.1 K i j k := fun K i j k z => by rw [rd_II, if_neg (by omega)]
        refine ⟨by rw [ne _ _ _ _ (by omega)]; exact h1, by rw [ne _ _ _ _ (by omega)]; exact h2, ?_, by rw [ne _ _ _ _ (by omega)]; exact h4, ?_, fun c c1 c2 => by rw [ne _ _ _ _ (by omega)]; exact h6 c c1 c2, fun j hj => xW_k (h7 j hj) (fun k => ne _ _ _ _ (by omega)) (fun k => by rw [rd_IL, rd_LL, if_neg (by omega)]), fun k hk => by rw [rd_IL, rd_LL, if_neg (by omega)]; exact h8 k hk, fun k hk => ?_, by rw [ne _ _ _ _ (by omega)]; exact h10⟩
        · rw [rd_II, if_pos ⟨rfl, rfl, rfl, rfl⟩]
          show _ = nI (pP s ++ [_]).length
          rw [List.length_append, List.length_singleton]
        · unfold xL xC at h5 ⊢
          have k13 := fun k => ne 13 1 0 k (by omega)
          have k14 := fun k => ne 14 1 0 k (by omega)
          have k15 := fun k => ne 15 1 0 k (by omega)
          have k16 := fun k => ne 16 1 0 k (by omega)
          have k17 := fun k => ne 17 1 0 k (by omega)
          simp only [k13, k14, k15, k16, k17]
          exact h5
        · have hk : k < (pP s ++ [tkL T (tkX T a)]).length := hk
          rw [List.length_append, List.length_singleton] at hk
          show _ = lN (enc (gN (pP s ++ [tkL T (tkX T a)]) k))
          rw [rd_IL, rd_LL]
          by_cases e : k = (pP s).length
          · rw [if_pos ⟨rfl, rfl, rfl, e⟩, e, gN_hi]
          · rw [if_neg (by omega), gN_lo (by omega)]; exact h9 k (by omega)
