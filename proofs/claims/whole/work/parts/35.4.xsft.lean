/-! ===== a VILLAGE read (class): soft letters; all ===== -/
theorem ixN_snoc (x c : Nat) : ∀ (l : List Nat) (i : Nat), ixN x (l ++ [c]) i = match ixN x l i with | some j => some j | none => if c = x then some (i + l.length) else none
  | [], i => by
    show (if c = x then some i else none) = _
    rfl
  | y :: t, i => by
    show (if y = x then some i else ixN x (t ++ [c]) (i + 1)) = match (if y = x then some i else ixN x t (i + 1)) with | some j => some j | none => if c = x then some (i + (t.length + 1)) else none
    by_cases e : y = x
    · rw [if_pos e, if_pos e]
    · rw [if_neg e, if_neg e, ixN_snoc x c t (i + 1), show i + 1 + t.length = i + (t.length + 1) by omega]
theorem ixN_none {x : Nat} : ∀ (l : List Nat) (i : Nat), l.any (fun y => y == x) = false → ixN x l i = none
  | [], i, _ => rfl
  | y :: t, i, h => by
    rw [List.any_cons, Bool.or_eq_false_iff] at h
    unfold ixN
    rw [if_neg (fun z => by rw [z] at h; simp at h), ixN_none t (i + 1) h.2]
theorem sfL_snoc {pre : List Nat} {c : Nat} (h : pre.any (fun y => y == c) = false) (x : Nat) : sfL (pre ++ [c]) x = if x = c then some pre.length else sfL pre x := by
  unfold sfL
  rw [ixN_snoc]
  by_cases e : x = c
  · subst e
    rw [ixN_none pre 0 h, if_pos rfl]
    dsimp only
    rw [if_pos rfl, Nat.zero_add]
  · rw [if_neg e]
    cases ixN x pre 0 with
    | some j => rfl
    | none => dsimp only; rw [if_neg (fun z => e z.symm)]
theorem setN_any (pre : List Nat) (c : Nat) : (setN pre).testBit c = pre.any (fun y => y == c) := by
  rw [setN_bit]
  congr 1
  funext y
  exact Bool.beq_comm
theorem sx_letT {T : Tb} {b : Nat} {m : jm_M} (h : xF T b m) (k1 : tkK T b = 1) {k : Nat} (hk : k < tkE T b - b) (d : Nat) : jm_sem false (d + 2) jn_X6_letter [.inr (.inr (.inl (5, 0, 0))), .inl (nI k)] m = some (.inl (nI ((tkL T b).getD k 0)), m) := by
  have h3 := h.2.2.1.2.1
  have h4 := h.2.2.1.2.2.1
  have h5 := h.2.2.1.2.2.2.1
  have te := tkE_le h.1
  have h9 := h.2.1.1.1
  have ts := tkL_sm k1 hk
  have tg := tkL_get hk
  have by1 := sx_byT h.2.1 (show b + k < T.1 by omega) d
  rw [k1] at h3
  have e : T.2 (b + k) - 97 + 1 = (tkL T b).getD k 0 := by omega
  rw [e_X6_letter]
  simp (disch := omega) only [jg_lit, jg_litL, jg_m1, jg_m1L, nI_add, lN_add, pk_mul, jg_sub, jg_subM, jg_addM, jg_addM', jg_negM, jt_in, jt_ix, jt_bi, jt_bl, jt_bv, jt_lt, jg_dT, jg_dF, jt_c, jt_cd, ru_I, ru_L, jg_leI, jg_ltI, jg_eqI, jg_M1, jg_M2, jg_M3, jg_M4, jg_M5, jg_M6, jg_ltT, jg_ltF, jg_leT, jg_leF, jg_eqT, jg_eqF, cond_true, cond_false, ne_eq, not_true_eq_false, not_false_eq_true, decide_true, decide_false, if_true, if_false, and_true, true_and, and_false, false_and, or_true, true_or, or_false, false_or, Nat.reduceEqDiff, reduceIte, Nat.reduceMul, Nat.reduceAdd, Nat.reduceSub, Nat.add_zero, Nat.zero_add, Nat.mul_zero, eq_self_iff_true, jg_not_lt, jg_not_le, h3, h4, h5, by1, e]
def pvS (s : Pv) (o : Option (List Nat)) : Pv := (pM s, pP s, pW s, o)
theorem sx_rsoft {T : Tb} {s : Pv} {b : Nat} (k1 : tkK T b = 1) (d : Nat) : ∀ (rest pre : List Nat) (z4 : jm_V) (m : jm_M), pre ++ rest = tkL T b → dsc [] pre = false → xF T b m → xPv (pvS s (some pre)) m → ∃ m', jm_ev false (d + 8) 8 0 jc_X9_readSoft 51 [.inr (.inr (.inl (6, 0, 0))), .inr (.inr (.inl (10, 1, 0))), .inl (nI (setN pre)), .inl (nI pre.length), z4] [] m = some (jm_j, m') ∧ (if dsc pre rest then xE (5, b) m' ∧ xN s m' else xF T (tkX T b) m' ∧ xPv (pvS s (some (tkL T b))) m') ∧ fr PVt m m'
  | [], pre, z4, m, hl, hd, h, hp => by
    rw [List.append_nil] at hl
    have h5 := h.2.2.1.2.2.2.1
    have ln := tkL_len T b
    have te := tkE_le h.1
    have h9 := h.2.1.1.1
    obtain ⟨m', e1, e2, e3⟩ := sx_advF h d
    refine ⟨m', ?_, ?_, P5_t e3⟩
    · rw [hl, ln, l_X9_readSoft_51]
      simp (disch := omega) only [jg_lit, jg_litL, jg_m1, jg_m1L, nI_add, lN_add, pk_mul, jg_sub, jg_subM, jg_addM, jg_addM', jg_negM, jt_in, jt_ix, jt_bi, jt_bl, jt_bv, jt_lt, jg_dT, jg_dF, jt_c, jt_cd, ru_I, ru_L, jg_leI, jg_ltI, jg_eqI, jg_M1, jg_M2, jg_M3, jg_M4, jg_M5, jg_M6, jg_ltT, jg_ltF, jg_leT, jg_leF, jg_eqT, jg_eqF, cond_true, cond_false, ne_eq, not_true_eq_false, not_false_eq_true, decide_true, decide_false, if_true, if_false, and_true, true_and, and_false, false_and, or_true, true_or, or_false, false_or, Nat.reduceEqDiff, reduceIte, Nat.reduceMul, Nat.reduceAdd, Nat.reduceSub, Nat.add_zero, Nat.zero_add, Nat.mul_zero, eq_self_iff_true, jg_not_lt, jg_not_le, h5, e1]
    · rw [if_neg (show ¬ dsc pre [] = true from fun z => by cases z), ← hl]
      exact ⟨e2, xPv_5 hp (P5_x e3)⟩
  | c :: rest, pre, z4, m, hl, hd, h, hp => by
    have h5 := h.2.2.1.2.2.2.1
    have ln := tkL_len T b
    have te := tkE_le h.1
    have h9 := h.2.1.1.1
    obtain ⟨o1, o2, o3⟩ := tkL_ok k1
    have hlen : pre.length + (rest.length + 1) = tkE T b - b := by rw [← ln, ← hl, List.length_append, List.length_cons]
    have hc : (tkL T b).getD pre.length 0 = c := by
      rw [← hl]
      simp only [List.getD]
      rw [List.getElem?_append_right (Nat.le_refl _), Nat.sub_self]
      rfl
    have mc : c ∈ tkL T b := by rw [← hl]; exact List.mem_append.mpr (Or.inr List.mem_cons_self)
    have c26 := o2 c mc
    have c1 := (o1 c mc).1
    have lt := sx_letT h k1 (k := pre.length) (by omega) (d + 6)
    rw [hc] at lt
    have sl : setN pre < 2 ^ 27 := setN_lt (fun x hx => o2 x (by rw [← hl]; exact List.mem_append.mpr (Or.inl hx)))
    have bt := bit_In (v := setN pre) (c := c) (by omega) (by omega)
    rw [setN_any] at bt
    have st := l_X9_readSoft_51 (d + 8) 1 (nI (setN pre)) (nI pre.length) z4 m
    rw [h5, jt_df (nI_ge (show pre.length < tkE T b - b by omega) (by omega)), cond_false, lt, jt_bi] at st
    have un : dsc pre (c :: rest) = (pre.any (fun x => x == c) || dsc (pre ++ [c]) rest) := rfl
    cases hb : pre.any (fun x => x == c) with
    | true =>
      rw [un, hb, Bool.true_or]
      rw [hb] at bt
      obtain ⟨m', e1, e2, e3⟩ := sx_blame h (k := 5) (by decide) (by decide) (d + 7)
      refine ⟨m', ?_, by rw [if_pos rfl]; exact ⟨e2, (xN_5 hp e3 : xN (pvS s (some pre)) m')⟩, P5x_t e3⟩
      have e1 : jm_sem false (d + 8) jn_X6_blame [.inr (.inr (.inl (5, 0, 0))), .inl 5] m = some (jm_j, m') := e1
      rw [jt_df (show ¬ ((nI (setN pre) >>> (nI c &&& 31)) &&& 1 ≠ 1) from fun z => z bt), cond_false, e1, jt_bv] at st
      exact st
    | false =>
      rw [un, hb, Bool.false_or]
      rw [hb] at bt
      have so : jm_sem false (d + 8) jn_X8_soften [.inr (.inr (.inl (10, 1, 0))), .inl (nI c), .inl (nI pre.length)] m = some (jm_j, jm_sI m 19 1 0 c (nI pre.length)) := by
        rw [e_X8_soften]
        simp (disch := omega) only [jg_lit, jg_litL, jg_m1, jg_m1L, nI_add, lN_add, pk_mul, jg_sub, jg_subM, jg_addM, jg_addM', jg_negM, jt_in, jt_ix, jt_bi, jt_bl, jt_bv, jt_lt, jg_dT, jg_dF, jt_c, jt_cd, ru_I, ru_L, jg_leI, jg_ltI, jg_eqI, jg_M1, jg_M2, jg_M3, jg_M4, jg_M5, jg_M6, jg_ltT, jg_ltF, jg_leT, jg_leF, jg_eqT, jg_eqF, cond_true, cond_false, ne_eq, not_true_eq_false, not_false_eq_true, decide_true, decide_false, if_true, if_false, and_true, true_and, and_false, false_and, or_true, true_or, or_false, false_or, Nat.reduceEqDiff, reduceIte, Nat.reduceMul, Nat.reduceAdd, Nat.reduceSub, Nat.add_zero, Nat.zero_add, Nat.mul_zero, eq_self_iff_true, jg_not_lt, jg_not_le]
      have f1 : fr (fun K i _ _ => K = 19 ∧ i = 1) m (jm_sI m 19 1 0 c (nI pre.length)) := fr_I ⟨rfl, rfl⟩
      have sn := setN_snoc pre c
      have pl : (pre ++ [c]).length = pre.length + 1 := by rw [List.length_append, List.length_singleton]
      have ds : ∀ (p l : List Nat), dsc p (l ++ [c]) = (dsc p l || (p ++ l).any (fun x => x == c)) := by
        intro p l
        induction l generalizing p with
        | nil =>
          show (p.any (fun x => x == c) || false) = (false || (p ++ []).any _)
          rw [List.append_nil, Bool.or_false, Bool.false_or]
        | cons y t ih =>
          show (p.any (fun x => x == y) || dsc (p ++ [y]) (t ++ [c])) = ((p.any (fun x => x == y) || dsc (p ++ [y]) t) || (p ++ y :: t).any (fun x => x == c))
          rw [ih (p ++ [y]), Bool.or_assoc, List.append_assoc, List.singleton_append]
      obtain ⟨m', e1, e2, e3⟩ := sx_rsoft (s := s) k1 d rest (pre ++ [c]) (.inl (nI c)) (jm_sI m 19 1 0 c (nI pre.length)) (by rw [List.append_assoc]; exact hl) (by rw [ds [] pre, hd, Bool.false_or, List.nil_append]; exact hb) (xF_PV h f1 (fun K i j k z => by omega)) (by
        obtain ⟨h1, h2, h3, h4, h5, h6, h7, h8, h9, h10⟩ := hp
        have ne : ∀ K i j k, K ≠ 19 → (jm_sI m 19 1 0 c (nI pre.length)).1 K i j k = m.1 K i j k := fun K i j k z => by rw [rd_II, if_neg (by omega)]
        refine ⟨by rw [ne _ _ _ _ (by omega)]; exact h1, by rw [ne _ _ _ _ (by omega)]; exact h2, by rw [ne _ _ _ _ (by omega)]; exact h3, by rw [ne _ _ _ _ (by omega)]; exact h4, xL0 h5 (ne _ _ _ _ (by omega)) (ne _ _ _ _ (by omega)) (ne _ _ _ _ (by omega)), fun x x1 x2 => ?_, fun j hj => xW_k (h7 j hj) (fun k => ne _ _ _ _ (by omega)) (fun k => rfl), h8, h9, by rw [ne _ _ _ _ (by omega)]; exact h10⟩
        show _ = nI (rkX (sfL (pre ++ [c])) x)
        unfold rkX
        rw [sfL_snoc hb, rd_II]
        by_cases e : x = c
        · rw [if_pos e, if_pos ⟨rfl, rfl, rfl, e⟩]
        · rw [if_neg e, if_neg (by omega)]
          exact h6 x x1 x2)
      refine ⟨m', ?_, e2, (f1.wk (fun K i j k z => by unfold PVt; omega)).tr e3⟩
      have sh : (1 : Int32) <<< (nI c &&& 31) = nI (2 ^ c) := shl_n c (by omega)
      rw [jt_dt (show (nI (setN pre) >>> (nI c &&& 31)) &&& 1 ≠ 1 from fun z => by have z : nI 1 = _ := z.symm; rw [show (nI (setN pre) >>> (nI c &&& 31)) &&& 1 = bI false from bt] at z; exact absurd z (by decide)), cond_true, so, jt_bv, sh, fb_orI, ← sn, nI_1, ← pl] at st
      rw [st]
      exact e1
theorem sx_readSoft {T : Tb} {s : Pv} {a : Nat} {m : jm_M} (h : xF T a m) (hp : xPv s m) (d : Nat) : ∃ m', jm_sem false (d + 9) jn_X9_readSoft [.inr (.inr (.inl (6, 0, 0))), .inr (.inr (.inl (10, 1, 0)))] m = some (jm_j, m') ∧ xRv T s (vtS T s a) m' ∧ fr PVt m m' := by
  have t3 := hp.2.2.2.2.2.2.2.2.2
  unfold vtS
  cases hs : pS s with
  | some l =>
    rw [if_pos (show (some l).isSome = true from rfl)]
    rw [hs] at t3
    have t3 : m.1 6 0 0 3 = nI 1 := t3
    obtain ⟨m', e1, e2, e3⟩ := sx_blame h (k := 5) (by decide) (by decide) (d + 7)
    refine ⟨m', ?_, ⟨e2, xN_5 hp e3⟩, P5x_t e3⟩
    have a1 : nI 1 &&& nI 1 = nI 1 := rfl
    rw [e_X9_readSoft]; simp (disch := omega) only [jg_lit, jg_litL, jg_m1, jg_m1L, nI_add, lN_add, pk_mul, jg_sub, jg_subM, jg_addM, jg_addM', jg_negM, jt_in, jt_ix, jt_bi, jt_bl, jt_bv, jt_lt, jg_dT, jg_dF, jt_c, jt_cd, ru_I, ru_L, jg_leI, jg_ltI, jg_eqI, jg_M1, jg_M2, jg_M3, jg_M4, jg_M5, jg_M6, jg_ltT, jg_ltF, jg_leT, jg_leF, jg_eqT, jg_eqF, cond_true, cond_false, ne_eq, not_true_eq_false, not_false_eq_true, decide_true, decide_false, if_true, if_false, and_true, true_and, and_false, false_and, or_true, true_or, or_false, false_or, Nat.reduceEqDiff, reduceIte, Nat.reduceMul, Nat.reduceAdd, Nat.reduceSub, Nat.add_zero, Nat.zero_add, Nat.mul_zero, eq_self_iff_true, jg_not_lt, jg_not_le, t3, a1, e1]
  | none =>
    rw [if_neg (show ¬ (none : Option (List Nat)).isSome = true from fun z => by cases z)]
    rw [hs] at t3
    have t3 : m.1 6 0 0 3 = nI 0 := t3
    have f0 : fr (fun K _ _ k => K = 6 ∧ k = 3) m (jm_sI m 6 0 0 3 1) := fr_I ⟨rfl, rfl⟩
    have h0 := xF_PV h f0 (fun K i j k z => by omega)
    have p0 : xPv (pvS s (some [])) (jm_sI m 6 0 0 3 1) := by
      obtain ⟨h1, h2, h3, h4, h5, h6, h7, h8, h9, h10⟩ := hp
      have ne : ∀ K i j k, K ≠ 6 → (jm_sI m 6 0 0 3 1).1 K i j k = m.1 K i j k := fun K i j k z => by rw [rd_II, if_neg (by omega)]
      rw [hs] at h6
      exact ⟨by rw [ne _ _ _ _ (by omega)]; exact h1, by rw [ne _ _ _ _ (by omega)]; exact h2, by rw [ne _ _ _ _ (by omega)]; exact h3, by rw [ne _ _ _ _ (by omega)]; exact h4, xL0 h5 (ne _ _ _ _ (by omega)) (ne _ _ _ _ (by omega)) (ne _ _ _ _ (by omega)), fun x x1 x2 => by rw [ne _ _ _ _ (by omega)]; exact h6 x x1 x2, fun j hj => xW_k (h7 j hj) (fun k => ne _ _ _ _ (by omega)) (fun k => rfl), h8, h9, by rw [rd_II, if_pos ⟨rfl, rfl, rfl, rfl⟩]; rfl⟩
    obtain ⟨m1, a1, a2, a3⟩ := sx_advF h0 d
    have p1 := xPv_5 p0 (P5_x a3)
    have f1 : fr PVt m m1 := (f0.wk (fun K i j k z => by unfold PVt; omega)).tr (P5_t a3)
    have k3 := a2.2.2.1.2.1
    have kl := tkK_le T (tkX T a)
    have st := e_X9_readSoft (d + 8) 1 m
    rw [t3, show decide (nI 0 &&& 1 = 0) = true by decide, cond_true, a1, jt_bv, k3] at st
    by_cases c1 : tkK T (tkX T a) = 1
    · rw [if_neg (fun z => z c1)]
      rw [c1, jt_dt (show nI 1 = 1 from rfl), cond_true] at st
      obtain ⟨m', e1, e2, e3⟩ := sx_rsoft (s := s) c1 d (tkL T (tkX T a)) [] jm_j m1 rfl rfl a2 p1
      have e1 : jm_ev false (d + 8) 8 0 jc_X9_readSoft 51 [.inr (.inr (.inl (6, 0, 0))), .inr (.inr (.inl (10, 1, 0))), .inl 0, .inl 0, jm_j] [] m1 = some (jm_j, m') := e1
      rw [e1] at st
      refine ⟨m', st, ?_, f1.tr e3⟩
      have e2 : if dupB (tkL T (tkX T a)) then xE (5, tkX T a) m' ∧ xN s m' else xF T (tkX T (tkX T a)) m' ∧ xPv (pvS s (some (tkL T (tkX T a)))) m' := e2
      cases hd : dupB (tkL T (tkX T a)) with
      | true => rw [hd, if_pos rfl] at e2; rw [if_pos rfl]; exact e2
      | false => rw [hd, if_neg (by decide)] at e2; rw [if_neg (by decide)]; exact e2
    · rw [if_pos c1]
      obtain ⟨m', e1, e2, e3⟩ := sx_blSt a2 (d + 6)
      refine ⟨m', ?_, ⟨e2, (xN_5 p1 e3 : xN (pvS s (some [])) m')⟩, f1.tr (P5x_t e3)⟩
      rw [jt_df (show ¬ nI (tkK T (tkX T a)) = 1 from fun z => c1 ((nI_eq (b := 1) (by omega) (by decide)).mp z)), cond_false, e1, jt_bv] at st
      exact st
theorem dec_ne {a b : Nat} (ha : a < 2 ^ 31) (hb : b < 2 ^ 31) (h : a ≠ b) : decide (nI a = nI b) = false := decide_eq_false (fun z => h ((nI_eq ha hb).mp z))
theorem sx_readPart {T : Tb} {s : Pv} {a : Nat} {m : jm_M} (h : xF T a m) (hp : xPv s m) (ho : okPv s) (d : Nat) : ∃ m', jm_sem false (d + 11) jn_X9_readPart [.inr (.inr (.inl (6, 0, 0))), .inr (.inr (.inl (10, 1, 0)))] m = some (jm_j, m') ∧ xRv T s (vPart T s a) m' ∧ fr PVt m m' := by
  have h7 := h.2.2.1.2.2.2.2.1
  have bl : ∃ m', jm_sem false (d + 10) jn_X6_blameStanding [.inr (.inr (.inl (5, 0, 0)))] m = some (jm_j, m') ∧ xRv T s (.inl (flt T a)) m' ∧ fr PVt m m' := by
    obtain ⟨m', e1, e2, e3⟩ := sx_blSt h (d + 8)
    exact ⟨m', e1, ⟨e2, xN_5 hp e3⟩, P5x_t e3⟩
  unfold vPart
  have st := e_X9_readPart (d + 10) 1 m
  cases hy : tkY T a with
  | none =>
    rw [hy] at h7
    rw [if_neg (fun z => by cases z), if_neg (fun z => by cases z), if_neg (fun z => by cases z), if_neg (fun z => by cases z)]
    obtain ⟨m', e1, e2, e3⟩ := bl
    refine ⟨m', ?_, e2, e3⟩
    rw [h7, show decide (jpl none = 0) = false by decide, cond_false, show decide (jpl none = 1) = false by decide, cond_false, show decide (jpl none = 2) = false by decide, cond_false, show decide (jpl none = 3) = false by decide, cond_false, show decide (jpl none = 4) = false by decide, cond_false, e1, jt_bv] at st
    exact st
  | some j =>
    have j24 := tkY_lt hy
    rw [hy] at h7
    have h7 : m.1 5 0 0 7 = nI j := h7
    rw [h7] at st
    by_cases j0 : j = 0
    · subst j0
      rw [if_pos rfl]
      obtain ⟨m', e1, e2, e3⟩ := sx_readMeaning h hp ho (d + 1)
      refine ⟨m', ?_, e2, e3⟩
      rw [show decide (nI 0 = 0) = true by decide, cond_true, e1, jt_bv] at st
      exact st
    · rw [if_neg (fun z => j0 (Option.some.inj z))]
      rw [show decide (nI j = 0) = false from dec_ne (b := 0) (by omega) (by decide) j0, cond_false] at st
      by_cases j1 : j = 1
      · subst j1
        rw [if_pos rfl]
        obtain ⟨m', e1, e2, e3⟩ := sx_readThing h hp ho d
        refine ⟨m', ?_, e2, e3⟩
        rw [show decide (nI 1 = 1) = true by decide, cond_true, e1, jt_bv] at st
        exact st
      · rw [if_neg (fun z => j1 (Option.some.inj z))]
        rw [show decide (nI j = 1) = false from dec_ne (b := 1) (by omega) (by decide) j1, cond_false] at st
        by_cases j2 : j = 2
        · subst j2
          rw [if_neg (fun z => by cases z), if_neg (fun z => by cases z)]
          obtain ⟨m', e1, e2, e3⟩ := bl
          refine ⟨m', ?_, e2, e3⟩
          rw [show decide (nI 2 = 2) = true by decide, cond_true, e1, jt_bv] at st
          exact st
        · rw [show decide (nI j = 2) = false from dec_ne (b := 2) (by omega) (by decide) j2, cond_false] at st
          by_cases j3 : j = 3
          · subst j3
            rw [if_pos rfl]
            obtain ⟨m', e1, e2, e3⟩ := sx_readSpeaker h hp ho (d + 1)
            refine ⟨m', ?_, e2, e3⟩
            rw [show decide (nI 3 = 3) = true by decide, cond_true, e1, jt_bv] at st
            exact st
          · rw [if_neg (fun z => j3 (Option.some.inj z))]
            rw [show decide (nI j = 3) = false from dec_ne (b := 3) (by omega) (by decide) j3, cond_false] at st
            by_cases j4 : j = 4
            · subst j4
              rw [if_pos rfl]
              obtain ⟨m', e1, e2, e3⟩ := sx_readSoft h hp (d + 1)
              refine ⟨m', ?_, e2, e3⟩
              rw [show decide (nI 4 = 4) = true by decide, cond_true, e1, jt_bv] at st
              exact st
            · rw [if_neg (fun z => j4 (Option.some.inj z))]
              rw [show decide (nI j = 4) = false from dec_ne (b := 4) (by omega) (by decide) j4, cond_false] at st
              obtain ⟨m', e1, e2, e3⟩ := bl
              refine ⟨m', ?_, e2, e3⟩
              rw [e1, jt_bv] at st
              exact st
