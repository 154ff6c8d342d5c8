/-! ===== a LAW read (class): RULES ===== -/
def lRule4 (T : Tb) (R : List Rl) (t : Lq) (v : Nat) : Ft ⊕ (List Rl × Nat × Nat) := if isSgn T 59 (tkX T (tkX T t.1)) = true then .inr (R ++ [(t.2.2.drop (cs R).length, v)], tkX T (tkX T (tkX T t.1)), t.2.1) else .inl (flt T (tkX T (tkX T t.1)))
def lRule3 (T : Tb) (R : List Rl) (t : Lq) : Option Nat → Ft ⊕ (List Rl × Nat × Nat)
  | none => .inl (flt T (tkX T t.1))
  | some v => lRule4 T R t v
def lRule2 (T : Tb) (R : List Rl) (t : Lq) : Ft ⊕ (List Rl × Nat × Nat) := if tkY T t.1 ≠ some 6 then .inl (flt T t.1) else lRule3 T R t (whK T (tkX T t.1))
def lRule1 (T : Tb) (R : List Rl) : Ft ⊕ Lq → Ft ⊕ (List Rl × Nat × Nat)
  | .inl f => .inl f
  | .inr t => lRule2 T R t
def lRule (T : Tb) (R : List Rl) (p n : Nat) : Ft ⊕ (List Rl × Nat × Nat) :=
  if tkY T p ≠ some 5 then .inl (flt T p) else if R.length = 12 then .inl (6, p) else lRule1 T R (lP T (3 * T.1 + 4) 2 0 (tkX T p, n, cs R))
def lNx (g : List Rl → Nat → Nat → Ft ⊕ List Rl) (x : Ft ⊕ (List Rl × Nat × Nat)) : Ft ⊕ List Rl := match x with
  | .inl f => .inl f
  | .inr q => g q.1 q.2.1 q.2.2
def lAll (T : Tb) : Nat → List Rl → Nat → Nat → Ft ⊕ List Rl
  | 0, R, _, _ => .inr R
  | r + 1, R, p, n => if tkK T p = 0 then .inr R else lNx (fun R' p' n' => lAll T r R' p' n') (lRule T R p n)
theorem lAll_s (T : Tb) (r : Nat) (R : List Rl) (p n : Nat) : lAll T (r + 1) R p n = if tkK T p = 0 then .inr R else lNx (lAll T r) (lRule T R p n) := rfl
theorem whK_s {T : Tb} {a v : Nat} (h : whK T a = some v) : v ≤ 6 ∧ ∃ j, tkY T a = some j ∧ whN j = some v := by
  unfold whK at h
  cases hy : tkY T a with
  | none => rw [hy] at h; cases h
  | some j =>
    rw [hy] at h
    have h : whN j = some v := h
    refine ⟨?_, j, rfl, h⟩
    unfold whN at h
    repeat' split at h
    all_goals first | cases h; done | (have := Option.some.inj h; omega)
theorem en_app {R : List Rl} {x : Rl} {r : Nat} (h : r ≤ R.length) : en (R ++ [x]) r = en R r := by
  unfold en
  rw [List.take_append_of_le_length h]
theorem en_all (R : List Rl) (x : Rl) : en (R ++ [x]) (R.length + 1) = (cs (R ++ [x])).length := by
  unfold en
  rw [List.take_of_length_le (by rw [List.length_append, List.length_singleton]; omega)]
theorem cs_1 (R : List Rl) (E : List Ck) (v : Nat) : cs (R ++ [(E, v)]) = cs R ++ E := by
  rw [cs_app]
  show cs R ++ (E ++ []) = _
  rw [List.append_nil]
theorem gR_lo {R : List Rl} {x : Rl} {r : Nat} (h : r < R.length) : (R ++ [x]).getD r ([], 0) = R.getD r ([], 0) := by
  simp only [List.getD, List.getElem?_append_left h]
theorem gR_hi (R : List Rl) (x : Rl) : (R ++ [x]).getD R.length ([], 0) = x := by
  simp [List.getD]
/-- a RULE taken: what holds -/
theorem lRule_ok {T : Tb} (hT : T.1 ≤ 300) {R : List Rl} {p n : Nat} {t : Lq} {v : Nat} (hp : tkX T p ≤ T.1) (hn : n ≤ 24) (hC : 2 * (cs R).length ≤ tkX T p) (ho : okR R) (hl : R.length < 12) (hv : v ≤ 6) (h : lP T (3 * T.1 + 4) 2 0 (tkX T p, n, cs R) = .inr t) : t.2.2 = cs R ++ t.2.2.drop (cs R).length ∧ okR (R ++ [(t.2.2.drop (cs R).length, v)]) ∧ 2 * (cs (R ++ [(t.2.2.drop (cs R).length, v)])).length ≤ t.1 ∧ t.1 ≤ T.1 ∧ t.2.1 ≤ 24 ∧ tkX T p < t.1 := by
  obtain ⟨E, h1, h2, h3, h4, h5, h6, h7, h8⟩ := (lP_ok (3 * T.1 + 4)).2.2.1 0 (tkX T p, n, cs R) t hp hn h
  have h1 : t.2.2 = cs R ++ E := h1
  have h5 : 2 * E.length + tkX T p ≤ t.1 := h5
  have h7 : tkX T p + 1 ≤ t.1 + 0 := h7
  have h8 : ∀ k c, k + 0 + (t.2.1 - n) ≤ 28 → dep (E ++ c) (k + 0) = dep c (k + 1) := h8
  have e : t.2.2.drop (cs R).length = E := by rw [h1, List.drop_left]
  rw [e, cs_1]
  have ln : 2 * (cs R ++ E).length ≤ t.1 := by rw [List.length_append]; omega
  refine ⟨h1, ⟨by rw [List.length_append, List.length_singleton]; omega, by rw [cs_1]; omega, mem_snoc ho.2.2 ⟨h2, ?_, hv⟩⟩, ln, h3, h4, by omega⟩
  have := h8 0 [] (by omega)
  rw [List.append_nil] at this
  exact this
def xLR (R : List Rl) (m : jm_M) : Prop := m.1 13 1 0 5 = nI R.length ∧ m.1 13 1 0 6 = jb (R.any (fun r => r.2 == 6)) ∧ ∀ r, r < R.length → m.1 16 1 0 r = nI (en R (r + 1)) ∧ m.1 17 1 0 r = nI (R.getD r ([], 0)).2
def PLz (K i _j k : Nat) : Prop := (K = 5 ∧ 2 ≤ k ∧ k ≤ 9) ∨ (K = 13 ∧ i = 1) ∨ (i = 1 ∧ 14 ≤ K ∧ K ≤ 17)
def PLq (K i _j k : Nat) : Prop := (K = 5 ∧ 2 ≤ k ∧ k ≤ 9) ∨ (K = 13 ∧ i = 1) ∨ (i = 1 ∧ 14 ≤ K ∧ K ≤ 17) ∨ (K = 9 ∧ k = 1)
theorem PLz_q {m m' : jm_M} (f : fr PLz m m') : fr PLq m m' := f.wk (fun K i j k z => by unfold PLz at z; unfold PLq; omega)
theorem P5x_z {m m' : jm_M} (f : fr P5x m m') : fr PLz m m' := f.wk (fun K i j k z => by unfold P5x at z; unfold PLz; omega)
theorem P5_z {m m' : jm_M} (f : fr P5 m m') : fr PLz m m' := P5x_z (P5_x f)
theorem PLr_q {m m' : jm_M} (f : fr PLr m m') : fr PLq m m' := f.wk (fun K i j k z => by unfold PLr at z; unfold PLq; omega)
theorem xLR_k {R : List Rl} {m m' : jm_M} (h : xLR R m) (hf : ∀ K k, (K = 13 ∧ (k = 5 ∨ k = 6)) ∨ K = 16 ∨ K = 17 → m'.1 K 1 0 k = m.1 K 1 0 k) : xLR R m' := ⟨by rw [hf 13 5 (by omega)]; exact h.1, by rw [hf 13 6 (by omega)]; exact h.2.1, fun r hr => by rw [hf 16 r (by omega), hf 17 r (by omega)]; exact h.2.2 r hr⟩
theorem xLR_r {R : List Rl} {m m' : jm_M} (h : xLR R m) (f : fr PLr m m') : xLR R m' := xLR_k h (fun K k hk => (f K 1 0 k (by unfold PLr; omega)).1)
theorem sx_endRule {N L v : Nat} {b : Bool} {m : jm_M} (h4 : m.1 13 1 0 4 = nI N) (h5 : m.1 13 1 0 5 = nI L) (h6 : m.1 13 1 0 6 = jb b) (hL : L < 12) (hv : v ≤ 6) (d : Nat) : jm_sem false (d + 1) jn_X2_endRule [.inr (.inr (.inl (13, 1, 0))), .inl (nI v)] m = some (jm_j, jm_sI (jm_sI (jm_sI (jm_sI m 16 1 0 L (nI N)) 17 1 0 L (nI v)) 13 1 0 5 (nI (L + 1))) 13 1 0 6 (jb (b || v == 6))) := by
  have e1 : nI 1 &&& nI 1 = nI 1 := by decide
  have e0 : nI 0 &&& nI 1 = nI 0 := by decide
  cases b with
  | true =>
    have h6 : m.1 13 1 0 6 = nI 1 := h6
    rw [e_X2_endRule]
    rw [show jb (true || v == 6) = nI 1 from rfl]
    simp (disch := omega) only [jg_lit, jg_litL, jg_m1, jg_m1L, nI_add, lN_add, pk_mul, jg_sub, jg_subM, jg_addM, jg_addM', jg_negM, jt_in, jt_ix, jt_bi, jt_bl, jt_bv, jt_lt, jg_dT, jg_dF, jt_c, jt_cd, ru_I, ru_L, jg_leI, jg_ltI, jg_eqI, jg_M1, jg_M2, jg_M3, jg_M4, jg_M5, jg_M6, jg_ltT, jg_ltF, jg_leT, jg_leF, jg_eqT, jg_eqF, cond_true, cond_false, ne_eq, not_true_eq_false, not_false_eq_true, decide_true, decide_false, if_true, if_false, and_true, true_and, and_false, false_and, or_true, true_or, or_false, false_or, Nat.reduceEqDiff, reduceIte, Nat.reduceMul, Nat.reduceAdd, Nat.reduceSub, Nat.add_zero, Nat.zero_add, Nat.mul_zero, eq_self_iff_true, jg_not_lt, jg_not_le, h4, h5, h6, e1]
  | false =>
    have h6 : m.1 13 1 0 6 = nI 0 := h6
    by_cases c : v = 6
    · subst c
      rw [e_X2_endRule]
      rw [show jb (false || 6 == 6) = nI 1 from rfl]
      simp (disch := omega) only [jg_lit, jg_litL, jg_m1, jg_m1L, nI_add, lN_add, pk_mul, jg_sub, jg_subM, jg_addM, jg_addM', jg_negM, jt_in, jt_ix, jt_bi, jt_bl, jt_bv, jt_lt, jg_dT, jg_dF, jt_c, jt_cd, ru_I, ru_L, jg_leI, jg_ltI, jg_eqI, jg_M1, jg_M2, jg_M3, jg_M4, jg_M5, jg_M6, jg_ltT, jg_ltF, jg_leT, jg_leF, jg_eqT, jg_eqF, cond_true, cond_false, ne_eq, not_true_eq_false, not_false_eq_true, decide_true, decide_false, if_true, if_false, and_true, true_and, and_false, false_and, or_true, true_or, or_false, false_or, Nat.reduceEqDiff, reduceIte, Nat.reduceMul, Nat.reduceAdd, Nat.reduceSub, Nat.add_zero, Nat.zero_add, Nat.mul_zero, eq_self_iff_true, jg_not_lt, jg_not_le, h4, h5, h6, e0]
    · have c' : (v == 6) = false := by rw [beq_eq_false_iff_ne]; exact c
      rw [e_X2_endRule, c']
      rw [show jb (false || false) = nI 0 from rfl]
      simp (disch := omega) only [jg_lit, jg_litL, jg_m1, jg_m1L, nI_add, lN_add, pk_mul, jg_sub, jg_subM, jg_addM, jg_addM', jg_negM, jt_in, jt_ix, jt_bi, jt_bl, jt_bv, jt_lt, jg_dT, jg_dF, jt_c, jt_cd, ru_I, ru_L, jg_leI, jg_ltI, jg_eqI, jg_M1, jg_M2, jg_M3, jg_M4, jg_M5, jg_M6, jg_ltT, jg_ltF, jg_leT, jg_leF, jg_eqT, jg_eqF, cond_true, cond_false, ne_eq, not_true_eq_false, not_false_eq_true, decide_true, decide_false, if_true, if_false, and_true, true_and, and_false, false_and, or_true, true_or, or_false, false_or, Nat.reduceEqDiff, reduceIte, Nat.reduceMul, Nat.reduceAdd, Nat.reduceSub, Nat.add_zero, Nat.zero_add, Nat.mul_zero, eq_self_iff_true, jg_not_lt, jg_not_le, h4, h5, h6, e0]
def whF (x : Int32) : Int32 := cond (decide (x = 4)) 2 (cond (decide (x = 5)) (-1) (cond (decide (x = 6)) (-1) (cond (decide (x = 7)) (-1) (cond (decide (x = 8)) (-1) (cond (decide (x = 9)) (-1) (cond (decide (x = 10)) (-1) (cond (decide (x = 11)) (-1) (cond (decide (x = 12)) (-1) (cond (decide (x = 13)) (-1) (cond (decide (x = 14)) 5 (cond (decide (x = 15)) (-1) (cond (decide (x = 16)) (-1) (cond (decide (x = 17)) (-1) (cond (decide (x = 18)) (-1) (cond (decide (x = 19)) 0 (cond (decide (x = 20)) 1 (cond (decide (x = 21)) 3 (cond (decide (x = 22)) 4 (cond (decide (x = 23)) 6 (-1))))))))))))))))))))
theorem whF_n : ∀ j, j < 24 → whF (nI j) = jpl (whN j) := by decide +kernel
theorem whF_0 : whF jM = jM := by decide +kernel
theorem sx_whichH {T : Tb} {a : Nat} {m : jm_M} (h : xF T a m) (d : Nat) : jm_sem false (d + 1) jn_X3_whichHere [.inr (.inr (.inl (9, 0, 0)))] m = some (.inl (jpl (whK T a)), m) := by
  have h7 := h.2.2.1.2.2.2.2.1
  have e : whF (jpl (tkY T a)) = jpl (whK T a) := by
    unfold whK
    cases hy : tkY T a with
    | none => exact whF_0
    | some j => exact whF_n j (tkY_lt hy)
  rw [e_X3_whichHere, h7]
  simp only [cond_some]
  rw [← e]
  rfl
theorem sx_readWhichE {f : Ft} {m : jm_M} (h : xE f m) (d : Nat) : jm_sem false (d + 2) jn_X3_readWhich [v9, v13] m = some (jm_j, m) := by
  have fe := sx_fineF h d
  rw [e_X3_readWhich, fe, jt_bi, show decide (nI 0 ≠ 0) = false by decide, cond_false]
theorem sx_readWhich {T : Tb} {a : Nat} {R : List Rl} {E : List Ck} {m : jm_M} (h : xF T a m) (hc : xLc (cs R ++ E) m) (hR : xLR R m) (hl : R.length < 12) (d : Nat) : ∃ m', jm_sem false (d + 9) jn_X3_readWhich [v9, v13] m = some (jm_j, m') ∧ (match whK T a with | none => xE (flt T a) m' | some v => xF T (tkX T a) m' ∧ xLc (cs (R ++ [(E, v)])) m' ∧ xLR (R ++ [(E, v)]) m') ∧ fr PLz m m' := by
  have fi := sx_fineT h (d + 7)
  have wh := sx_whichH h (d + 7)
  have st := e_X3_readWhich (d + 8) 1 m
  rw [fi, jt_bi, show decide (nI 1 ≠ 0) = true by decide, cond_true, wh, jt_bi] at st
  cases hw : whK T a with
  | none =>
    obtain ⟨m', e1, e2, e3⟩ := sx_blSt h (d + 6)
    refine ⟨m', ?_, e2, P5x_z e3⟩
    have e1 : jm_sem false (d + 8) jn_X6_blameStanding [.inr (.inr (.inl (5, 0, 0)))] m = some (jm_j, m') := e1
    rw [hw, jt_df (show ¬ jpl none ≠ -1 by decide), cond_false, e1, jt_bv] at st
    exact st
  | some v =>
    have v6 := (whK_s hw).1
    have er := sx_endRule hc.1 hR.1 hR.2.1 hl v6 (d + 7)
    generalize hm1 : jm_sI (jm_sI (jm_sI (jm_sI m 16 1 0 R.length (nI (cs R ++ E).length)) 17 1 0 R.length (nI v)) 13 1 0 5 (nI (R.length + 1))) 13 1 0 6 (jb (R.any (fun r => r.2 == 6) || v == 6)) = m1 at er
    have f1 : fr (fun K i _ k => (K = 13 ∧ i = 1 ∧ (k = 5 ∨ k = 6)) ∨ (i = 1 ∧ (K = 16 ∨ K = 17))) m m1 := by
      rw [← hm1]
      exact fr_sI (fr_sI (fr_sI (fr_sI .rf (by omega)) (by omega)) (by omega)) (by omega)
    have h1 : xF T a m1 := xF_PV h f1 (fun K i j k z => by omega)
    have c1 : xLc (cs (R ++ [(E, v)])) m1 := by
      rw [cs_1]
      exact xLc_k hc (fun K i j k z => (f1 K i j k (by unfold PEm at z; omega)).1)
    have r1 : xLR (R ++ [(E, v)]) m1 := by
      refine ⟨?_, ?_, fun r hr => ?_⟩
      · rw [← hm1, rd_II, if_neg (by omega), rd_II, if_pos ⟨rfl, rfl, rfl, rfl⟩, List.length_append, List.length_singleton]
      · rw [← hm1, rd_II, if_pos ⟨rfl, rfl, rfl, rfl⟩, List.any_append]
        simp only [List.any_cons, List.any_nil, Bool.or_false]
      · rw [List.length_append, List.length_singleton] at hr
        by_cases e : r = R.length
        · subst e
          rw [en_all, cs_1, gR_hi, ← hm1]
          constructor
          · rw [rd_II, if_neg (by omega), rd_II, if_neg (by omega), rd_II, if_neg (by omega), rd_II, if_pos ⟨rfl, rfl, rfl, rfl⟩]
          · rw [rd_II, if_neg (by omega), rd_II, if_neg (by omega), rd_II, if_pos ⟨rfl, rfl, rfl, rfl⟩]
        · have hr : r < R.length := by omega
          rw [en_app (by omega), gR_lo hr, ← hm1]
          constructor
          · rw [rd_II, if_neg (by omega), rd_II, if_neg (by omega), rd_II, if_neg (by omega), rd_II, if_neg (by omega)]
            exact (hR.2.2 r hr).1
          · rw [rd_II, if_neg (by omega), rd_II, if_neg (by omega), rd_II, if_neg (by omega), rd_II, if_neg (by omega)]
            exact (hR.2.2 r hr).2
    obtain ⟨m2, b1, b2, b3⟩ := sx_advF h1 d
    refine ⟨m2, ?_, ⟨b2, xLc_5 c1 (P5_x b3), xLR_k r1 (fun K k hk => (b3 K 1 0 k (by unfold P5; omega)).1)⟩, (f1.wk (fun K i j k z => by unfold PLz; omega)).tr (P5_z b3)⟩
    have er : jm_sem false (d + 8) jn_X2_endRule [.inr (.inr (.inl (13, 1, 0))), .inl (jpl (some v))] m = some (jm_j, m1) := er
    rw [hw, jt_dt (show jpl (some v) ≠ -1 from jt_m1 (by omega)), cond_true, er, jt_bv, b1, jt_bv] at st
    exact st
def reL (r : Ft ⊕ List Rl) : Int32 := match r with
  | .inl _ => nI 0
  | .inr _ => nI 1
def xLa (T : Tb) (r : Ft ⊕ List Rl) (m : jm_M) : Prop := match r with
  | .inl f => xE f m
  | .inr R => (∃ b, xF T b m) ∧ okR R ∧ xL R 1 m
theorem sx_l11E {f : Ft} {m : jm_M} (h : xE f m) (x : Int32) (d : Nat) : jm_ev false (d + 1) 3 2 jc_X3_readAll 11 [v9, v13, .inl x] [] m = some (.inl (nI 0), m) := by
  have fe := sx_fineF h d
  have fin : jm_bi (jm_sem false (d + 1) jn_X6_isFine [.inr (.inr (.inl (5, 0, 0)))] m) (fun r125 m125 => cond (decide (r125 &&& 1 = r125)) (some ((.inl r125 : jm_V), m125)) none) = some (.inl (nI 0), m) := by
    rw [fe, jt_bi, and0, cond_true]
  rw [l_X3_readAll_11]
  cases jm_dec ((12 : Int32) < x) with
  | true => exact fin
  | false => rw [cond_false, fe, jt_bi, show decide (nI 0 = 0) = true by decide, cond_true]; exact fin
theorem sx_law11 {T : Tb} (hT : T.1 ≤ 300) (d : Nat) : ∀ (r p n : Nat) (R : List Rl) (m : jm_M), T.1 < p + r → xF T p m → xLc (cs R) m → xLR R m → m.1 9 0 0 1 = nI n → okR R → 2 * (cs R).length ≤ p → n ≤ 24 → ∃ m', jm_ev false (d + 31) 3 2 jc_X3_readAll 11 [v9, v13, .inl (nI R.length)] [] m = some (.inl (reL (lAll T r R p n)), m') ∧ xLa T (lAll T r R p n) m' ∧ fr PLq m m'
  | 0, p, n, R, m, hr, h, hc, hR, h9, ho, hl, hn => by
    have := h.1
    omega
  | r + 1, p, n, R, m, hr, h, hc, hR, h9, ho, hl, hn => by
    have ha := h.1
    have h3 := h.2.2.1.2.1
    have h7 := h.2.2.1.2.2.2.2.1
    have kl := tkK_le T p
    have r12 := ho.1
    have fi := sx_fineT h (d + 30)
    have st := l_X3_readAll_11 (d + 31) 1 (nI R.length) m
    rw [jt_df (show ¬ (12 : Int32) < nI R.length from nI_nlt (a := 12) (b := R.length) r12 (by decide)), cond_false, fi, jt_bi, show decide (nI 1 = 0) = false by decide, cond_false, h3] at st
    rw [lAll_s]
    by_cases c0 : tkK T p = 0
    · rw [if_pos c0]
      rw [c0, show decide (nI 0 = 0) = true by decide, cond_true, fi, jt_bi, and1, cond_true] at st
      exact ⟨m, st, ⟨⟨p, h⟩, ho, hc.1, hR.1, hR.2.1, hc.2, hR.2.2⟩, .rf⟩
    · rw [if_neg c0]
      rw [show decide (nI (tkK T p) = 0) = false from dec_ne (b := 0) (by omega) (by decide) c0, cond_false] at st
      have lt := tkX_gt (tk_lt1 c0)
      have lr : lRule T R p n = if tkY T p ≠ some 5 then .inl (flt T p) else if R.length = 12 then .inl (6, p) else lRule1 T R (lP T (3 * T.1 + 4) 2 0 (tkX T p, n, cs R)) := rfl
      rw [lr]
      by_cases y5 : tkY T p = some 5
      · rw [if_neg (fun z => z y5)]
        rw [y5] at h7
        have h7 : m.1 5 0 0 7 = nI 5 := h7
        rw [h7, jt_dt (show nI 5 = 5 from rfl), cond_true, hR.1] at st
        by_cases c12 : R.length = 12
        · rw [if_pos c12]
          obtain ⟨m', e1, e2, e3⟩ := sx_blame h (k := 6) (by decide) (by decide) (d + 30)
          have e1 : jm_sem false (d + 31) jn_X6_blame [.inr (.inr (.inl (5, 0, 0))), .inl 6] m = some (jm_j, m') := e1
          refine ⟨m', ?_, e2, PLz_q (P5x_z e3)⟩
          rw [jt_df (show ¬ nI R.length < 12 from nI_nlt (a := R.length) (b := 12) (by omega) (by omega)), cond_false, e1, jt_bv] at st
          exact st.trans (sx_l11E e2 _ (d + 30))
        · rw [if_neg c12]
          obtain ⟨m1, a1, a2, a3⟩ := sx_advF h (d + 23)
          have a1 : jm_sem false (d + 31) jn_X6_advance [.inr (.inr (.inl (5, 0, 0)))] m = some (jm_j, m1) := a1
          have p1 : xLp (tkX T p, n, cs R) m1 := ⟨xLc_5 hc (P5_x a3), by rw [(a3 9 0 0 1 (by unfold P5; omega)).1]; exact h9⟩
          have r1 : xLR R m1 := xLR_r hR (P5_r a3)
          obtain ⟨m2, b1, b2, b3⟩ := (sx_lP hT (3 * T.1 + 4)).2.2.1 0 (d + 31) (tkX T p, n, cs R) m1 (by show 3 * (T.1 - tkX T p) + 2 + 1 < 3 * T.1 + 4; omega) (by omega) (by omega) a2 p1 (by show 2 * (cs R).length ≤ tkX T p; omega) hn
          have b1 : jm_sem false (d + 31) jn_X3_readEither [.inr (.inr (.inl (9, 0, 0))), .inr (.inr (.inl (13, 1, 0))), .inl 0] m1 = some (jm_j, m2) := b1
          rw [jt_dt (show nI R.length < 12 from nI_lt (a := R.length) (b := 12) (by omega) (by decide)), cond_true, a1, jt_bv, b1, jt_bv] at st
          have f2 : fr PLq m m2 := (PLz_q (P5_z a3)).tr (PLr_q b3)
          have r2 := xLR_r r1 b3
          have bad : ∀ (f : Ft) (m' : jm_M), xE f m' → fr PLq m m' → jm_ev false (d + 31) 3 2 jc_X3_readAll 11 [v9, v13, .inl (nI R.length)] [] m = jm_bv (jm_sem false (d + 31) jn_X6_passSign [.inr (.inr (.inl (5, 0, 0))), .inl 59] m') (fun m112 => jm_ev false (d + 31) 3 2 jc_X3_readAll 11 [v9, v13, .inl (nI R.length + 1)] [] m112) → ∃ m', jm_ev false (d + 31) 3 2 jc_X3_readAll 11 [v9, v13, .inl (nI R.length)] [] m = some (.inl (nI 0), m') ∧ xE f m' ∧ fr PLq m m' := by
            intro f m' he hf hs
            rw [sx_passSignE he 59 (d + 28), jt_bv] at hs
            exact ⟨m', hs.trans (sx_l11E he _ (d + 30)), he, hf⟩
          cases hl2 : lP T (3 * T.1 + 4) 2 0 (tkX T p, n, cs R) with
          | inl f =>
            rw [hl2] at b2
            rw [sx_passKeyE b2.1 6 (d + 28), jt_bv, sx_readWhichE b2.1 (d + 29), jt_bv] at st
            exact bad f m2 b2.1 f2 st
          | inr t =>
            rw [hl2] at b2
            have lo := fun v (hv : v ≤ 6) => lRule_ok hT lt.2 hn (by omega) ho (by omega) hv hl2
            have lo0 := lo 0 (by decide)
            obtain ⟨m3, c1, c2, c3⟩ := sx_passKey b2.1 (j := 6) (by decide) (d + 22)
            have c1 : jm_sem false (d + 31) jn_X6_passKey [.inr (.inr (.inl (5, 0, 0))), .inl 6] m2 = some (jm_j, m3) := c1
            rw [c1, jt_bv] at st
            have f3 : fr PLq m m3 := f2.tr (PLz_q (P5x_z c3))
            show ∃ m', _ = some ((.inl (reL (lNx (lAll T r) (lRule2 T R t))) : jm_V), m') ∧ xLa T (lNx (lAll T r) (lRule2 T R t)) m' ∧ _
            by_cases y6 : tkY T t.1 = some 6
            · rw [if_pos y6] at c2
              rw [show lRule2 T R t = lRule3 T R t (whK T (tkX T t.1)) from if_neg (fun z => z y6)]
              have c2 : xF T (tkX T t.1) m3 := c2
              have y62 := tkY_2 y6
              have cc3 : xLc (cs R ++ t.2.2.drop (cs R).length) m3 := by
                rw [← lo0.1]
                exact xLc_5 b2.2.1 c3
              obtain ⟨m4, d1, d2, d3⟩ := sx_readWhich c2 cc3 (xLR_r r2 (P5x_r c3)) (by omega) (d + 22)
              have d1 : jm_sem false (d + 31) jn_X3_readWhich [.inr (.inr (.inl (9, 0, 0))), .inr (.inr (.inl (13, 1, 0)))] m3 = some (jm_j, m4) := d1
              rw [d1, jt_bv] at st
              have f4 : fr PLq m m4 := f3.tr (PLz_q d3)
              cases hw : whK T (tkX T t.1) with
              | none =>
                rw [hw] at d2
                exact bad _ m4 d2 f4 st
              | some v =>
                rw [hw] at d2
                obtain ⟨d2, d4, d5⟩ := d2
                have lov := lo v (whK_s hw).1
                obtain ⟨m5, e1, e2, e3⟩ := sx_passSign d2 (c := 59) (by decide) (d + 22)
                have e1 : jm_sem false (d + 31) jn_X6_passSign [.inr (.inr (.inl (5, 0, 0))), .inl 59] m4 = some (jm_j, m5) := e1
                rw [e1, jt_bv, nI_1] at st
                have f5 : fr PLq m m5 := f4.tr (PLz_q (P5x_z e3))
                by_cases z : isSgn T 59 (tkX T (tkX T t.1)) = true
                · rw [if_pos z] at e2
                  rw [show lRule3 T R t (some v) = .inr (R ++ [(t.2.2.drop (cs R).length, v)], tkX T (tkX T (tkX T t.1)), t.2.1) from if_pos z]
                  have zl := sgn_lt z
                  have g1 := tkX_ge y62.2.1
                  have n5 : m5.1 9 0 0 1 = nI t.2.1 := by
                    rw [(e3 9 0 0 1 (by unfold P5x; omega)).1, (d3 9 0 0 1 (by unfold PLz; omega)).1, (c3 9 0 0 1 (by unfold P5x; omega)).1]
                    exact b2.2.2
                  have ih := sx_law11 hT d r (tkX T (tkX T (tkX T t.1))) t.2.1 (R ++ [(t.2.2.drop (cs R).length, v)]) m5 (by omega) e2 (xLc_5 d4 e3) (xLR_r d5 (P5x_r e3)) n5 lov.2.1 (by omega) lov.2.2.2.2.1
                  rw [List.length_append, List.length_singleton] at ih
                  obtain ⟨m', g1, g2, g3⟩ := ih
                  exact ⟨m', st.trans g1, g2, f5.tr g3⟩
                · rw [if_neg z] at e2
                  rw [show lRule3 T R t (some v) = .inl (flt T (tkX T (tkX T t.1))) from if_neg z]
                  have e2 : xE (flt T (tkX T (tkX T t.1))) m5 := e2
                  exact ⟨m5, st.trans (sx_l11E e2 _ (d + 30)), e2, f5⟩
            · rw [if_neg y6] at c2
              rw [show lRule2 T R t = .inl (flt T t.1) from if_pos y6]
              have c2 : xE (flt T t.1) m3 := c2
              rw [sx_readWhichE c2 (d + 29), jt_bv] at st
              exact bad _ m3 c2 f3 st
      · rw [if_pos y5]
        obtain ⟨m', e1, e2, e3⟩ := sx_blSt h (d + 29)
        have e1 : jm_sem false (d + 31) jn_X6_blameStanding [.inr (.inr (.inl (5, 0, 0)))] m = some (jm_j, m') := e1
        refine ⟨m', ?_, e2, PLz_q (P5x_z e3)⟩
        rw [jt_df (show ¬ m.1 5 0 0 7 = 5 by rw [h7]; exact jpl_ne (j := 5) (by decide) tkY_31 y5), cond_false, e1, jt_bv] at st
        exact st.trans (sx_l11E e2 _ (d + 30))
theorem sx_lawAll {T : Tb} (hT : T.1 ≤ 300) {m : jm_M} {a : Nat} (h : xF T a m) (d : Nat) : ∃ m', jm_sem false (d + 32) jn_X3_readAll [v9, v13] m = some (.inl (reL (lAll T (T.1 + 1) [] a 0)), m') ∧ xLa T (lAll T (T.1 + 1) [] a 0) m' ∧ fr PLq m m' := by
  generalize hm1 : jm_sI (jm_sI (jm_sI (jm_sI m 13 1 0 4 0) 13 1 0 5 0) 13 1 0 6 0) 9 0 0 1 0 = m1
  have f1 : fr PLq m m1 := by
    rw [← hm1]
    exact fr_sI (fr_sI (fr_sI (fr_sI .rf (by unfold PLq; omega)) (by unfold PLq; omega)) (by unfold PLq; omega)) (by unfold PLq; omega)
  have h1 : xF T a m1 := by
    refine xF_PV (P := fun K _ _ _ => K = 13 ∨ K = 9) h ?_ (fun K i j k z => by omega)
    rw [← hm1]
    exact fr_sI (fr_sI (fr_sI (fr_sI .rf (by omega)) (by omega)) (by omega)) (by omega)
  obtain ⟨m', e1, e2, e3⟩ := sx_law11 hT d (T.1 + 1) a 0 [] m1 (by omega) h1 ⟨by rw [← hm1]; simp (disch := omega) only [jg_lit, jg_litL, jg_m1, jg_m1L, nI_add, lN_add, pk_mul, jg_sub, jg_subM, jg_addM, jg_addM', jg_negM, jt_in, jt_ix, jt_bi, jt_bl, jt_bv, jt_lt, jg_dT, jg_dF, jt_c, jt_cd, ru_I, ru_L, jg_leI, jg_ltI, jg_eqI, jg_M1, jg_M2, jg_M3, jg_M4, jg_M5, jg_M6, jg_ltT, jg_ltF, jg_leT, jg_leF, jg_eqT, jg_eqF, cond_true, cond_false, ne_eq, not_true_eq_false, not_false_eq_true, decide_true, decide_false, if_true, if_false, and_true, true_and, and_false, false_and, or_true, true_or, or_false, false_or, Nat.reduceEqDiff, reduceIte, Nat.reduceMul, Nat.reduceAdd, Nat.reduceSub, Nat.add_zero, Nat.zero_add, Nat.mul_zero, eq_self_iff_true, jg_not_lt, jg_not_le]; rfl, fun k hk => absurd hk (Nat.not_lt_zero k)⟩ ⟨by rw [← hm1]; simp (disch := omega) only [jg_lit, jg_litL, jg_m1, jg_m1L, nI_add, lN_add, pk_mul, jg_sub, jg_subM, jg_addM, jg_addM', jg_negM, jt_in, jt_ix, jt_bi, jt_bl, jt_bv, jt_lt, jg_dT, jg_dF, jt_c, jt_cd, ru_I, ru_L, jg_leI, jg_ltI, jg_eqI, jg_M1, jg_M2, jg_M3, jg_M4, jg_M5, jg_M6, jg_ltT, jg_ltF, jg_leT, jg_leF, jg_eqT, jg_eqF, cond_true, cond_false, ne_eq, not_true_eq_false, not_false_eq_true, decide_true, decide_false, if_true, if_false, and_true, true_and, and_false, false_and, or_true, true_or, or_false, false_or, Nat.reduceEqDiff, reduceIte, Nat.reduceMul, Nat.reduceAdd, Nat.reduceSub, Nat.add_zero, Nat.zero_add, Nat.mul_zero, eq_self_iff_true, jg_not_lt, jg_not_le]; rfl, by rw [← hm1]; simp (disch := omega) only [jg_lit, jg_litL, jg_m1, jg_m1L, nI_add, lN_add, pk_mul, jg_sub, jg_subM, jg_addM, jg_addM', jg_negM, jt_in, jt_ix, jt_bi, jt_bl, jt_bv, jt_lt, jg_dT, jg_dF, jt_c, jt_cd, ru_I, ru_L, jg_leI, jg_ltI, jg_eqI, jg_M1, jg_M2, jg_M3, jg_M4, jg_M5, jg_M6, jg_ltT, jg_ltF, jg_leT, jg_leF, jg_eqT, jg_eqF, cond_true, cond_false, ne_eq, not_true_eq_false, not_false_eq_true, decide_true, decide_false, if_true, if_false, and_true, true_and, and_false, false_and, or_true, true_or, or_false, false_or, Nat.reduceEqDiff, reduceIte, Nat.reduceMul, Nat.reduceAdd, Nat.reduceSub, Nat.add_zero, Nat.zero_add, Nat.mul_zero, eq_self_iff_true, jg_not_lt, jg_not_le]; rfl, fun r hr => absurd hr (Nat.not_lt_zero r)⟩ (by rw [← hm1]; simp (disch := omega) only [jg_lit, jg_litL, jg_m1, jg_m1L, nI_add, lN_add, pk_mul, jg_sub, jg_subM, jg_addM, jg_addM', jg_negM, jt_in, jt_ix, jt_bi, jt_bl, jt_bv, jt_lt, jg_dT, jg_dF, jt_c, jt_cd, ru_I, ru_L, jg_leI, jg_ltI, jg_eqI, jg_M1, jg_M2, jg_M3, jg_M4, jg_M5, jg_M6, jg_ltT, jg_ltF, jg_leT, jg_leF, jg_eqT, jg_eqF, cond_true, cond_false, ne_eq, not_true_eq_false, not_false_eq_true, decide_true, decide_false, if_true, if_false, and_true, true_and, and_false, false_and, or_true, true_or, or_false, false_or, Nat.reduceEqDiff, reduceIte, Nat.reduceMul, Nat.reduceAdd, Nat.reduceSub, Nat.add_zero, Nat.zero_add, Nat.mul_zero, eq_self_iff_true, jg_not_lt, jg_not_le]) ⟨Nat.zero_le _, Nat.zero_le _, fun r hr => absurd hr List.not_mem_nil⟩ (Nat.zero_le _) (Nat.zero_le _)
  refine ⟨m', ?_, e2, f1.tr e3⟩
  rw [e_X3_readAll, e_X2_clear, jt_bv, hm1]
  exact e1
