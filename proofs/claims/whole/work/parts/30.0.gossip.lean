/-! ===== GOSSIP ===== -/
def drw (D : Nat) : Nat := (D * 2621 + 13217) % 65536
def dayUp (n : Nat) : Nat := if 999 ≤ n then n else n + 1
def gsP (V : Vl) (D : Nat) : Nat := drw D / 8 % vlP V
def gsW (V : Vl) (D : Nat) : Nat := drw (drw D) / 8 % (vlW V).length
def gsV (V : Vl) (D : Nat) : Vl := if wL (gw (vlW V) (gsW V D)) = [] then vlDay V (dayUp (vlD V)) else vlDay (telV V (othN (vlP V) (gsP V D)) (gsP V D) (gsW V D)) (dayUp (vlD V))
def gsF : Nat → Nat → Vl → Vl
  | 0, _, V => V
  | r + 1, D, V => gsF r (drw (drw D)) (gsV V D)
def gsU : Nat → Nat → Vl → Nat
  | 0, _, _ => 0
  | r + 1, D, V => (if wL (gw (vlW V) (gsW V D)) = [] then 0 else popc (telN V (othN (vlP V) (gsP V D)) (gsW V D))) + gsU r (drw (drw D)) (gsV V D)
def gsS : Nat → Nat → Vl → Nat
  | 0, _, _ => 0
  | r + 1, D, V => (if wL (gw (vlW V) (gsW V D)) = [] then 0 else 1) + gsS r (drw (drw D)) (gsV V D)
def gsH : Nat → Nat → Vl → Nat
  | 0, _, _ => 0
  | r + 1, D, V => (if wL (gw (vlW V) (gsW V D)) = [] then 0 else vlP V - 1) + gsH r (drw (drw D)) (gsV V D)
theorem dayUp_le {n : Nat} (h : n ≤ 999) : dayUp n ≤ 999 := by unfold dayUp; split <;> omega
theorem gsV_len (V : Vl) (D : Nat) : (vlW (gsV V D)).length = (vlW V).length := by
  unfold gsV
  split
  · rfl
  · exact sayWs_len V _
theorem gsV_P (V : Vl) (D : Nat) : vlP (gsV V D) = vlP V := by
  unfold gsV
  split <;> rfl
theorem gsV_R (V : Vl) (D : Nat) : vlR (gsV V D) = vlR V ∧ vlS (gsV V D) = vlS V := by
  unfold gsV
  split <;> exact ⟨rfl, rfl⟩
theorem okV_gs {V : Vl} (ho : okV V) (hl : 0 < (vlW V).length) (D : Nat) : okV (gsV V D) := by
  unfold gsV
  have hw : gsW V D < (vlW V).length := Nat.mod_lt _ hl
  split
  · exact okV_day ho (dayUp_le ho.2.2.1)
  · rename_i hn
    exact okV_day (okV_tel ho hw hn _ _) (dayUp_le ho.2.2.1)
theorem drw_lt (D : Nat) : drw D < 65536 := Nat.mod_lt _ (by decide)
theorem sm_rem {a d : Nat} (ha : a < 2 ^ 31) (h0 : 0 < d) (hd : d < 2 ^ 31) : nI a - nI (a / d * d) = nI (a % d) := by
  have := pk_rem ha h0 hd
  rw [pk_div ha h0 hd, pk_mul] at this
  exact this
theorem drw_I {D : Nat} (h : D < 65536) : nI (D * 2621 + 13217) - nI ((D * 2621 + 13217) / 65536 * 65536) = nI (drw D) := sm_rem (by omega) (by decide) (by decide)
theorem div_I {a d : Nat} (ha : a < 2 ^ 31) (h0 : 0 < d) (hd : d < 2 ^ 31) : nI a / nI d = nI (a / d) := pk_div ha h0 hd
theorem sx_draw {i0 D n : Nat} (hD : D < 65536) (hn : 0 < n) (hn2 : n ≤ 12) {m : jm_M} (h : m.1 37 i0 0 5 = nI D) (d : Nat) : jm_sem false (d + 1) jn_X0_draw [.inr (.inr (.inl (37, i0, 0))), .inl (nI n)] m = some (.inl (nI (drw D / 8 % n)), jm_sI m 37 i0 0 5 (nI (drw D))) := by
  have hd := drw_lt D
  have d1 := drw_I hD
  have d2 : nI (drw D) / nI 8 = nI (drw D / 8) := div_I (by omega) (by decide) (by decide)
  have d3 : nI (D * 2621 + 13217) / nI 65536 = nI ((D * 2621 + 13217) / 65536) := div_I (by omega) (by decide) (by decide)
  have d4 : nI (drw D / 8) / nI n = nI (drw D / 8 / n) := div_I (by omega) hn (by omega)
  have d5 : nI (drw D / 8) - nI (drw D / 8 / n * n) = nI (drw D / 8 % n) := sm_rem (by omega) hn (by omega)
  rw [e_X0_draw]
  simp (disch := omega) only [jg_lit, jg_litL, jg_m1, jg_m1L, nI_add, lN_add, pk_mul, jg_sub, jg_subM, jg_addM, jg_addM', jg_negM, jt_in, jt_ix, jt_bi, jt_bl, jt_bv, jt_lt, jg_dT, jg_dF, jt_c, jt_cd, ru_I, ru_L, jg_leI, jg_ltI, jg_eqI, jg_M1, jg_M2, jg_M3, jg_M4, jg_M5, jg_M6, jg_ltT, jg_ltF, jg_leT, jg_leF, jg_eqT, jg_eqF, cond_true, cond_false, ne_eq, not_true_eq_false, not_false_eq_true, decide_true, decide_false, if_true, if_false, and_true, true_and, and_false, false_and, or_true, true_or, or_false, false_or, Nat.reduceEqDiff, reduceIte, Nat.reduceMul, Nat.reduceAdd, Nat.reduceSub, Nat.add_zero, Nat.zero_add, Nat.mul_zero, eq_self_iff_true, jg_not_lt, jg_not_le, h, d1, d2, d3, d4, d5]
theorem sm_draw {D n : Nat} (hD : D < 65536) (hn : 0 < n) (hn2 : n ≤ 12) {m : jm_M} (h : m.1 40 0 0 41 = nI D) (d : Nat) : jm_sem false (d + 1) jn_X12_draw [vM, .inl (nI n)] m = some (.inl (nI (drw D / 8 % n)), jm_sI m 40 0 0 41 (nI (drw D))) := by
  have hd := drw_lt D
  have d1 := drw_I hD
  have d2 : nI (drw D) / nI 8 = nI (drw D / 8) := div_I (by omega) (by decide) (by decide)
  have d3 : nI (D * 2621 + 13217) / nI 65536 = nI ((D * 2621 + 13217) / 65536) := div_I (by omega) (by decide) (by decide)
  have d4 : nI (drw D / 8) / nI n = nI (drw D / 8 / n) := div_I (by omega) hn (by omega)
  have d5 : nI (drw D / 8) - nI (drw D / 8 / n * n) = nI (drw D / 8 % n) := sm_rem (by omega) hn (by omega)
  rw [e_X12_draw]
  simp (disch := omega) only [jg_lit, jg_litL, jg_m1, jg_m1L, nI_add, lN_add, pk_mul, jg_sub, jg_subM, jg_addM, jg_addM', jg_negM, jt_in, jt_ix, jt_bi, jt_bl, jt_bv, jt_lt, jg_dT, jg_dF, jt_c, jt_cd, ru_I, ru_L, jg_leI, jg_ltI, jg_eqI, jg_M1, jg_M2, jg_M3, jg_M4, jg_M5, jg_M6, jg_ltT, jg_ltF, jg_leT, jg_leF, jg_eqT, jg_eqF, cond_true, cond_false, ne_eq, not_true_eq_false, not_false_eq_true, decide_true, decide_false, if_true, if_false, and_true, true_and, and_false, false_and, or_true, true_or, or_false, false_or, Nat.reduceEqDiff, reduceIte, Nat.reduceMul, Nat.reduceAdd, Nat.reduceSub, Nat.add_zero, Nat.zero_add, Nat.mul_zero, eq_self_iff_true, jg_not_lt, jg_not_le, h, d1, d2, d3, d4, d5]
def sumW (f : Nat → Nat) : Nat → Nat → Nat → Nat
  | 0, _, v => v
  | r + 1, k, v => sumW f r (k + 1) (v + f k)
def nLet (ws : List Wd) : Nat := sumW (fun k => (wL (gw ws k)).length) ws.length 0 0
theorem sx_letters_loop {V : Vl} {i : Nat} {m : jm_M} (h : xV V i m) (ho : okWs (vlW V)) (d : Nat) : ∀ (r k v : Nat), k + r = (vlW V).length → jm_ev false d 7 1 jc_X8_countLetters 4 [.inr (.inr (.inl (10, i, 0))), .inl (nI v), .inl (nI k)] [] m = some (.inl (nI (sumW (fun k => (wL (gw (vlW V) k)).length) r k v)), m)
  | 0, k, v, hr => by
    have h12 := ho.1
    have h4 := h.1.2.1
    rw [l_X8_countLetters_4]
    simp (disch := omega) only [jg_lit, jg_litL, jg_m1, jg_m1L, nI_add, lN_add, pk_mul, jg_sub, jg_subM, jg_addM, jg_addM', jg_negM, jt_in, jt_ix, jt_bi, jt_bl, jt_bv, jt_lt, jg_dT, jg_dF, jt_c, jt_cd, ru_I, ru_L, jg_leI, jg_ltI, jg_eqI, jg_M1, jg_M2, jg_M3, jg_M4, jg_M5, jg_M6, jg_ltT, jg_ltF, jg_leT, jg_leF, jg_eqT, jg_eqF, cond_true, cond_false, ne_eq, not_true_eq_false, not_false_eq_true, decide_true, decide_false, if_true, if_false, and_true, true_and, and_false, false_and, or_true, true_or, or_false, false_or, Nat.reduceEqDiff, reduceIte, Nat.reduceMul, Nat.reduceAdd, Nat.reduceSub, Nat.add_zero, Nat.zero_add, Nat.mul_zero, eq_self_iff_true, jg_not_lt, jg_not_le, h4]
    rfl
  | r + 1, k, v, hr => by
    have h12 := ho.1
    have h4 := h.1.2.1
    have h1 := (h.2 k (by omega)).2.1
    rw [l_X8_countLetters_4]
    unfold sumW
    simp (disch := omega) only [jg_lit, jg_litL, jg_m1, jg_m1L, nI_add, lN_add, pk_mul, jg_sub, jg_subM, jg_addM, jg_addM', jg_negM, jt_in, jt_ix, jt_bi, jt_bl, jt_bv, jt_lt, jg_dT, jg_dF, jt_c, jt_cd, ru_I, ru_L, jg_leI, jg_ltI, jg_eqI, jg_M1, jg_M2, jg_M3, jg_M4, jg_M5, jg_M6, jg_ltT, jg_ltF, jg_leT, jg_leF, jg_eqT, jg_eqF, cond_true, cond_false, ne_eq, not_true_eq_false, not_false_eq_true, decide_true, decide_false, if_true, if_false, and_true, true_and, and_false, false_and, or_true, true_or, or_false, false_or, Nat.reduceEqDiff, reduceIte, Nat.reduceMul, Nat.reduceAdd, Nat.reduceSub, Nat.add_zero, Nat.zero_add, Nat.mul_zero, eq_self_iff_true, jg_not_lt, jg_not_le, h4, Bool.and_true, h1]
    exact sx_letters_loop h ho d r (k + 1) _ (by omega)
theorem sx_passDay {V : Vl} {i : Nat} {m : jm_M} (h : xV V i m) (hD : vlD V ≤ 999) (d : Nat) : jm_sem false (d + 1) jn_X8_passDay [.inr (.inr (.inl (10, i, 0)))] m = some (jm_j, jm_sI m 10 i 0 6 (nI (dayUp (vlD V)))) := by
  have h6 := h.1.2.2.2.1
  rw [e_X8_passDay, h6]
  unfold dayUp
  have e : (if (999 : Int32) < nI (vlD V) + 1 then (999 : Int32) else nI (vlD V) + 1) = nI (if 999 ≤ vlD V then vlD V else vlD V + 1) := by
    rw [nI_1]
    by_cases c : 999 ≤ vlD V
    · rw [if_pos c, if_pos (show (999 : Int32) < nI (vlD V + 1) from nI_lt (a := 999) (by omega) (by omega)), show vlD V = 999 by omega]
      rfl
    · rw [if_neg c, if_neg (show ¬ (999 : Int32) < nI (vlD V + 1) from nI_nlt (a := 999) (by omega) (by omega))]
  rw [e]
/-- cells that gossip in the class uses -/
def PGs (i0 K i _j _k : Nat) : Prop := (K = 37 ∧ i = i0) ∨ (i = 1 ∧ (K = 10 ∨ (12 ≤ K ∧ K ≤ 19)))
theorem xV_37 {V : Vl} {i i0 k : Nat} {m : jm_M} (h : xV V i m) (x : Int32) : xV V i (jm_sI m 37 i0 0 k x) := ⟨xH_k h.1 (fun K q hK => ⟨by rw [rd_II, if_neg (by omega)], rfl⟩), fun j hj => xW_k (h.2 j hj) (fun q => by rw [rd_II, if_neg (by omega)]) (fun q => rfl)⟩
theorem oth_pop {n p : Nat} (hn : n < 5) (hp : p < n) : bcF (nI (othN n p)) = nI (n - 1) := by
  have h := oth_bit n hn p (by omega) hp
  rw [bc_pop _ (by have := oth_lt n hn p (by omega); omega), h.1]
theorem sx_gos_loop {i0 : Nat} (z2 : jm_V) {days : Nat} (hdays : days ≤ 60) (d : Nat) : ∀ (r k D u sy h : Nat) (V : Vl) (z5 z6 z7 : jm_V) (m : jm_M), k + r = days → D < 65536 → okV V → 0 < vlP V → 0 < (vlW V).length → xV V 1 m → m.1 37 i0 0 0 = nI u → m.1 37 i0 0 1 = nI sy → m.1 37 i0 0 2 = nI h → m.1 37 i0 0 5 = nI D → ∃ m', jm_ev false (d + 6) 0 0 jc_X0_run 23 [.inr (.inr (.inl (37, i0, 0))), .inr (.inr (.inl (10, 1, 0))), z2, .inl (nI days), .inl (nI k), z5, z6, z7] [] m = some (jm_j, m') ∧ m'.1 37 i0 0 0 = nI (u + gsU r D V) ∧ m'.1 37 i0 0 1 = nI (sy + gsS r D V) ∧ m'.1 37 i0 0 2 = nI (h + gsH r D V) ∧ m'.1 37 i0 0 3 = nI (nLive (vlW (gsF r D V))) ∧ m'.1 37 i0 0 4 = nI (nLet (vlW (gsF r D V))) ∧ fr (PGs i0) m m'
  | 0, k, D, u, sy, h, V, z5, z6, z7, m, hr, hD, ho, hP, hW, hx, h0, h1, h2, h5 => by
    have lv := sx_countLiving hx ho.2.2.2.1 (d + 4)
    have hx1 := xV_37 (i0 := i0) (k := 3) hx (nI (nLive (vlW V)))
    have lt := sx_letters_loop hx1 ho.2.2.2.1 (d + 5) (vlW V).length 0 0 (by omega)
    refine ⟨jm_sI (jm_sI m 37 i0 0 3 (nI (nLive (vlW V)))) 37 i0 0 4 (nI (nLet (vlW V))), ?_, ?_, ?_, ?_, ?_, ?_, fr_sI (fr_I (Or.inl ⟨rfl, rfl⟩)) (Or.inl ⟨rfl, rfl⟩)⟩
    · rw [l_X0_run_23]
      simp (disch := omega) only [jg_lit, jg_litL, jg_m1, jg_m1L, nI_add, lN_add, pk_mul, jg_sub, jg_subM, jg_addM, jg_addM', jg_negM, jt_in, jt_ix, jt_bi, jt_bl, jt_bv, jt_lt, jg_dT, jg_dF, jt_c, jt_cd, ru_I, ru_L, jg_leI, jg_ltI, jg_eqI, jg_M1, jg_M2, jg_M3, jg_M4, jg_M5, jg_M6, jg_ltT, jg_ltF, jg_leT, jg_leF, jg_eqT, jg_eqF, cond_true, cond_false, ne_eq, not_true_eq_false, not_false_eq_true, decide_true, decide_false, if_true, if_false, and_true, true_and, and_false, false_and, or_true, true_or, or_false, false_or, Nat.reduceEqDiff, reduceIte, Nat.reduceMul, Nat.reduceAdd, Nat.reduceSub, Nat.add_zero, Nat.zero_add, Nat.mul_zero, eq_self_iff_true, jg_not_lt, jg_not_le, lv, e_X8_countLetters]
      rw [lt]
      rfl
    · simp (disch := omega) only [jg_lit, jg_litL, jg_m1, jg_m1L, nI_add, lN_add, pk_mul, jg_sub, jg_subM, jg_addM, jg_addM', jg_negM, jt_in, jt_ix, jt_bi, jt_bl, jt_bv, jt_lt, jg_dT, jg_dF, jt_c, jt_cd, ru_I, ru_L, jg_leI, jg_ltI, jg_eqI, jg_M1, jg_M2, jg_M3, jg_M4, jg_M5, jg_M6, jg_ltT, jg_ltF, jg_leT, jg_leF, jg_eqT, jg_eqF, cond_true, cond_false, ne_eq, not_true_eq_false, not_false_eq_true, decide_true, decide_false, if_true, if_false, and_true, true_and, and_false, false_and, or_true, true_or, or_false, false_or, Nat.reduceEqDiff, reduceIte, Nat.reduceMul, Nat.reduceAdd, Nat.reduceSub, Nat.add_zero, Nat.zero_add, Nat.mul_zero, eq_self_iff_true, jg_not_lt, jg_not_le]; rw [h0]; rfl
    · simp (disch := omega) only [jg_lit, jg_litL, jg_m1, jg_m1L, nI_add, lN_add, pk_mul, jg_sub, jg_subM, jg_addM, jg_addM', jg_negM, jt_in, jt_ix, jt_bi, jt_bl, jt_bv, jt_lt, jg_dT, jg_dF, jt_c, jt_cd, ru_I, ru_L, jg_leI, jg_ltI, jg_eqI, jg_M1, jg_M2, jg_M3, jg_M4, jg_M5, jg_M6, jg_ltT, jg_ltF, jg_leT, jg_leF, jg_eqT, jg_eqF, cond_true, cond_false, ne_eq, not_true_eq_false, not_false_eq_true, decide_true, decide_false, if_true, if_false, and_true, true_and, and_false, false_and, or_true, true_or, or_false, false_or, Nat.reduceEqDiff, reduceIte, Nat.reduceMul, Nat.reduceAdd, Nat.reduceSub, Nat.add_zero, Nat.zero_add, Nat.mul_zero, eq_self_iff_true, jg_not_lt, jg_not_le]; rw [h1]; rfl
    · simp (disch := omega) only [jg_lit, jg_litL, jg_m1, jg_m1L, nI_add, lN_add, pk_mul, jg_sub, jg_subM, jg_addM, jg_addM', jg_negM, jt_in, jt_ix, jt_bi, jt_bl, jt_bv, jt_lt, jg_dT, jg_dF, jt_c, jt_cd, ru_I, ru_L, jg_leI, jg_ltI, jg_eqI, jg_M1, jg_M2, jg_M3, jg_M4, jg_M5, jg_M6, jg_ltT, jg_ltF, jg_leT, jg_leF, jg_eqT, jg_eqF, cond_true, cond_false, ne_eq, not_true_eq_false, not_false_eq_true, decide_true, decide_false, if_true, if_false, and_true, true_and, and_false, false_and, or_true, true_or, or_false, false_or, Nat.reduceEqDiff, reduceIte, Nat.reduceMul, Nat.reduceAdd, Nat.reduceSub, Nat.add_zero, Nat.zero_add, Nat.mul_zero, eq_self_iff_true, jg_not_lt, jg_not_le]; rw [h2]; rfl
    · simp (disch := omega) only [jg_lit, jg_litL, jg_m1, jg_m1L, nI_add, lN_add, pk_mul, jg_sub, jg_subM, jg_addM, jg_addM', jg_negM, jt_in, jt_ix, jt_bi, jt_bl, jt_bv, jt_lt, jg_dT, jg_dF, jt_c, jt_cd, ru_I, ru_L, jg_leI, jg_ltI, jg_eqI, jg_M1, jg_M2, jg_M3, jg_M4, jg_M5, jg_M6, jg_ltT, jg_ltF, jg_leT, jg_leF, jg_eqT, jg_eqF, cond_true, cond_false, ne_eq, not_true_eq_false, not_false_eq_true, decide_true, decide_false, if_true, if_false, and_true, true_and, and_false, false_and, or_true, true_or, or_false, false_or, Nat.reduceEqDiff, reduceIte, Nat.reduceMul, Nat.reduceAdd, Nat.reduceSub, Nat.add_zero, Nat.zero_add, Nat.mul_zero, eq_self_iff_true, jg_not_lt, jg_not_le]; rfl
    · simp (disch := omega) only [jg_lit, jg_litL, jg_m1, jg_m1L, nI_add, lN_add, pk_mul, jg_sub, jg_subM, jg_addM, jg_addM', jg_negM, jt_in, jt_ix, jt_bi, jt_bl, jt_bv, jt_lt, jg_dT, jg_dF, jt_c, jt_cd, ru_I, ru_L, jg_leI, jg_ltI, jg_eqI, jg_M1, jg_M2, jg_M3, jg_M4, jg_M5, jg_M6, jg_ltT, jg_ltF, jg_leT, jg_leF, jg_eqT, jg_eqF, cond_true, cond_false, ne_eq, not_true_eq_false, not_false_eq_true, decide_true, decide_false, if_true, if_false, and_true, true_and, and_false, false_and, or_true, true_or, or_false, false_or, Nat.reduceEqDiff, reduceIte, Nat.reduceMul, Nat.reduceAdd, Nat.reduceSub, Nat.add_zero, Nat.zero_add, Nat.mul_zero, eq_self_iff_true, jg_not_lt, jg_not_le]; rfl
  | r + 1, k, D, u, sy, h, V, z5, z6, z7, m, hr, hD, ho, hP, hW, hx, h0, h1, h2, h5 => by
    have hp4 := ho.2.1
    have h12 := ho.2.2.2.1.1
    have hx4 := hx.1.2.1
    have hx5 := hx.1.2.2.1
    have hpp : gsP V D < vlP V := Nat.mod_lt _ hP
    have hww : gsW V D < (vlW V).length := Nat.mod_lt _ hW
    have dr1 := sx_draw (i0 := i0) hD hP (by omega) h5 (d + 5)
    have dr2 := sx_draw (i0 := i0) (D := drw D) (m := jm_sI m 37 i0 0 5 (nI (drw D))) (drw_lt D) hW (by omega) (by simp (disch := omega) only [jg_lit, jg_litL, jg_m1, jg_m1L, nI_add, lN_add, pk_mul, jg_sub, jg_subM, jg_addM, jg_addM', jg_negM, jt_in, jt_ix, jt_bi, jt_bl, jt_bv, jt_lt, jg_dT, jg_dF, jt_c, jt_cd, ru_I, ru_L, jg_leI, jg_ltI, jg_eqI, jg_M1, jg_M2, jg_M3, jg_M4, jg_M5, jg_M6, jg_ltT, jg_ltF, jg_leT, jg_leF, jg_eqT, jg_eqF, cond_true, cond_false, ne_eq, not_true_eq_false, not_false_eq_true, decide_true, decide_false, if_true, if_false, and_true, true_and, and_false, false_and, or_true, true_or, or_false, false_or, Nat.reduceEqDiff, reduceIte, Nat.reduceMul, Nat.reduceAdd, Nat.reduceSub, Nat.add_zero, Nat.zero_add, Nat.mul_zero, eq_self_iff_true, jg_not_lt, jg_not_le]) (d + 5)
    have eP : drw D / 8 % vlP V = gsP V D := rfl
    have eW : drw (drw D) / 8 % (vlW V).length = gsW V D := rfl
    rw [eP] at dr1
    rw [eW] at dr2
    generalize hm2 : jm_sI (jm_sI m 37 i0 0 5 (nI (drw D))) 37 i0 0 5 (nI (drw (drw D))) = m2 at dr2
    have x2 : xV V 1 m2 := by rw [← hm2]; exact xV_37 (xV_37 hx _) _
    have iw := sx_isWordT x2.1 h12 hww (d + 5)
    have g0 : m2.1 37 i0 0 0 = nI u := by rw [← hm2]; simp (disch := omega) only [jg_lit, jg_litL, jg_m1, jg_m1L, nI_add, lN_add, pk_mul, jg_sub, jg_subM, jg_addM, jg_addM', jg_negM, jt_in, jt_ix, jt_bi, jt_bl, jt_bv, jt_lt, jg_dT, jg_dF, jt_c, jt_cd, ru_I, ru_L, jg_leI, jg_ltI, jg_eqI, jg_M1, jg_M2, jg_M3, jg_M4, jg_M5, jg_M6, jg_ltT, jg_ltF, jg_leT, jg_leF, jg_eqT, jg_eqF, cond_true, cond_false, ne_eq, not_true_eq_false, not_false_eq_true, decide_true, decide_false, if_true, if_false, and_true, true_and, and_false, false_and, or_true, true_or, or_false, false_or, Nat.reduceEqDiff, reduceIte, Nat.reduceMul, Nat.reduceAdd, Nat.reduceSub, Nat.add_zero, Nat.zero_add, Nat.mul_zero, eq_self_iff_true, jg_not_lt, jg_not_le]; exact h0
    have g1 : m2.1 37 i0 0 1 = nI sy := by rw [← hm2]; simp (disch := omega) only [jg_lit, jg_litL, jg_m1, jg_m1L, nI_add, lN_add, pk_mul, jg_sub, jg_subM, jg_addM, jg_addM', jg_negM, jt_in, jt_ix, jt_bi, jt_bl, jt_bv, jt_lt, jg_dT, jg_dF, jt_c, jt_cd, ru_I, ru_L, jg_leI, jg_ltI, jg_eqI, jg_M1, jg_M2, jg_M3, jg_M4, jg_M5, jg_M6, jg_ltT, jg_ltF, jg_leT, jg_leF, jg_eqT, jg_eqF, cond_true, cond_false, ne_eq, not_true_eq_false, not_false_eq_true, decide_true, decide_false, if_true, if_false, and_true, true_and, and_false, false_and, or_true, true_or, or_false, false_or, Nat.reduceEqDiff, reduceIte, Nat.reduceMul, Nat.reduceAdd, Nat.reduceSub, Nat.add_zero, Nat.zero_add, Nat.mul_zero, eq_self_iff_true, jg_not_lt, jg_not_le]; exact h1
    have g2 : m2.1 37 i0 0 2 = nI h := by rw [← hm2]; simp (disch := omega) only [jg_lit, jg_litL, jg_m1, jg_m1L, nI_add, lN_add, pk_mul, jg_sub, jg_subM, jg_addM, jg_addM', jg_negM, jt_in, jt_ix, jt_bi, jt_bl, jt_bv, jt_lt, jg_dT, jg_dF, jt_c, jt_cd, ru_I, ru_L, jg_leI, jg_ltI, jg_eqI, jg_M1, jg_M2, jg_M3, jg_M4, jg_M5, jg_M6, jg_ltT, jg_ltF, jg_leT, jg_leF, jg_eqT, jg_eqF, cond_true, cond_false, ne_eq, not_true_eq_false, not_false_eq_true, decide_true, decide_false, if_true, if_false, and_true, true_and, and_false, false_and, or_true, true_or, or_false, false_or, Nat.reduceEqDiff, reduceIte, Nat.reduceMul, Nat.reduceAdd, Nat.reduceSub, Nat.add_zero, Nat.zero_add, Nat.mul_zero, eq_self_iff_true, jg_not_lt, jg_not_le]; exact h2
    have g5 : m2.1 37 i0 0 5 = nI (drw (drw D)) := by rw [← hm2]; simp (disch := omega) only [jg_lit, jg_litL, jg_m1, jg_m1L, nI_add, lN_add, pk_mul, jg_sub, jg_subM, jg_addM, jg_addM', jg_negM, jt_in, jt_ix, jt_bi, jt_bl, jt_bv, jt_lt, jg_dT, jg_dF, jt_c, jt_cd, ru_I, ru_L, jg_leI, jg_ltI, jg_eqI, jg_M1, jg_M2, jg_M3, jg_M4, jg_M5, jg_M6, jg_ltT, jg_ltF, jg_leT, jg_leF, jg_eqT, jg_eqF, cond_true, cond_false, ne_eq, not_true_eq_false, not_false_eq_true, decide_true, decide_false, if_true, if_false, and_true, true_and, and_false, false_and, or_true, true_or, or_false, false_or, Nat.reduceEqDiff, reduceIte, Nat.reduceMul, Nat.reduceAdd, Nat.reduceSub, Nat.add_zero, Nat.zero_add, Nat.mul_zero, eq_self_iff_true, jg_not_lt, jg_not_le]
    have f2 : fr (PGs i0) m m2 := by rw [← hm2]; exact fr_sI (fr_I (Or.inl ⟨rfl, rfl⟩)) (Or.inl ⟨rfl, rfl⟩)
    have hok := ho.2.2.2.1.2.1 _ hww
    have hgo := okV_gs ho hW D
    have hPg : 0 < vlP (gsV V D) := by rw [gsV_P]; exact hP
    have hWg : 0 < (vlW (gsV V D)).length := by rw [gsV_len]; exact hW
    unfold gsU gsS gsH gsF
    by_cases hn : wL (gw (vlW V) (gsW V D)) = []
    · have ig := sx_isGoneT (x2.2 _ hww) (okW_8 hok.1) hn (d + 5)
      have pd := sx_passDay x2 ho.2.2.1 (d + 5)
      have eV : gsV V D = vlDay V (dayUp (vlD V)) := by unfold gsV; rw [if_pos hn]
      rw [eV] at hgo hPg hWg ⊢
      obtain ⟨m', e1, e2, e3, e4, e5, e6, e7⟩ := sx_gos_loop (i0 := i0) z2 hdays d r (k + 1) (drw (drw D)) u sy h _ (.inl (nI (gsP V D))) (.inl (nI (gsW V D))) z7 (jm_sI m2 10 1 0 6 (nI (dayUp (vlD V)))) (by omega) (drw_lt _) hgo hPg hWg (xV_day x2 _) (by simp (disch := omega) only [jg_lit, jg_litL, jg_m1, jg_m1L, nI_add, lN_add, pk_mul, jg_sub, jg_subM, jg_addM, jg_addM', jg_negM, jt_in, jt_ix, jt_bi, jt_bl, jt_bv, jt_lt, jg_dT, jg_dF, jt_c, jt_cd, ru_I, ru_L, jg_leI, jg_ltI, jg_eqI, jg_M1, jg_M2, jg_M3, jg_M4, jg_M5, jg_M6, jg_ltT, jg_ltF, jg_leT, jg_leF, jg_eqT, jg_eqF, cond_true, cond_false, ne_eq, not_true_eq_false, not_false_eq_true, decide_true, decide_false, if_true, if_false, and_true, true_and, and_false, false_and, or_true, true_or, or_false, false_or, Nat.reduceEqDiff, reduceIte, Nat.reduceMul, Nat.reduceAdd, Nat.reduceSub, Nat.add_zero, Nat.zero_add, Nat.mul_zero, eq_self_iff_true, jg_not_lt, jg_not_le]; exact g0) (by simp (disch := omega) only [jg_lit, jg_litL, jg_m1, jg_m1L, nI_add, lN_add, pk_mul, jg_sub, jg_subM, jg_addM, jg_addM', jg_negM, jt_in, jt_ix, jt_bi, jt_bl, jt_bv, jt_lt, jg_dT, jg_dF, jt_c, jt_cd, ru_I, ru_L, jg_leI, jg_ltI, jg_eqI, jg_M1, jg_M2, jg_M3, jg_M4, jg_M5, jg_M6, jg_ltT, jg_ltF, jg_leT, jg_leF, jg_eqT, jg_eqF, cond_true, cond_false, ne_eq, not_true_eq_false, not_false_eq_true, decide_true, decide_false, if_true, if_false, and_true, true_and, and_false, false_and, or_true, true_or, or_false, false_or, Nat.reduceEqDiff, reduceIte, Nat.reduceMul, Nat.reduceAdd, Nat.reduceSub, Nat.add_zero, Nat.zero_add, Nat.mul_zero, eq_self_iff_true, jg_not_lt, jg_not_le]; exact g1) (by simp (disch := omega) only [jg_lit, jg_litL, jg_m1, jg_m1L, nI_add, lN_add, pk_mul, jg_sub, jg_subM, jg_addM, jg_addM', jg_negM, jt_in, jt_ix, jt_bi, jt_bl, jt_bv, jt_lt, jg_dT, jg_dF, jt_c, jt_cd, ru_I, ru_L, jg_leI, jg_ltI, jg_eqI, jg_M1, jg_M2, jg_M3, jg_M4, jg_M5, jg_M6, jg_ltT, jg_ltF, jg_leT, jg_leF, jg_eqT, jg_eqF, cond_true, cond_false, ne_eq, not_true_eq_false, not_false_eq_true, decide_true, decide_false, if_true, if_false, and_true, true_and, and_false, false_and, or_true, true_or, or_false, false_or, Nat.reduceEqDiff, reduceIte, Nat.reduceMul, Nat.reduceAdd, Nat.reduceSub, Nat.add_zero, Nat.zero_add, Nat.mul_zero, eq_self_iff_true, jg_not_lt, jg_not_le]; exact g2) (by simp (disch := omega) only [jg_lit, jg_litL, jg_m1, jg_m1L, nI_add, lN_add, pk_mul, jg_sub, jg_subM, jg_addM, jg_addM', jg_negM, jt_in, jt_ix, jt_bi, jt_bl, jt_bv, jt_lt, jg_dT, jg_dF, jt_c, jt_cd, ru_I, ru_L, jg_leI, jg_ltI, jg_eqI, jg_M1, jg_M2, jg_M3, jg_M4, jg_M5, jg_M6, jg_ltT, jg_ltF, jg_leT, jg_leF, jg_eqT, jg_eqF, cond_true, cond_false, ne_eq, not_true_eq_false, not_false_eq_true, decide_true, decide_false, if_true, if_false, and_true, true_and, and_false, false_and, or_true, true_or, or_false, false_or, Nat.reduceEqDiff, reduceIte, Nat.reduceMul, Nat.reduceAdd, Nat.reduceSub, Nat.add_zero, Nat.zero_add, Nat.mul_zero, eq_self_iff_true, jg_not_lt, jg_not_le]; exact g5)
      refine ⟨m', ?_, ?_, ?_, ?_, e5, e6, (fr_sI f2 (Or.inr ⟨rfl, Or.inl rfl⟩)).tr e7⟩
      · rw [l_X0_run_23]
        simp (disch := omega) only [jg_lit, jg_litL, jg_m1, jg_m1L, nI_add, lN_add, pk_mul, jg_sub, jg_subM, jg_addM, jg_addM', jg_negM, jt_in, jt_ix, jt_bi, jt_bl, jt_bv, jt_lt, jg_dT, jg_dF, jt_c, jt_cd, ru_I, ru_L, jg_leI, jg_ltI, jg_eqI, jg_M1, jg_M2, jg_M3, jg_M4, jg_M5, jg_M6, jg_ltT, jg_ltF, jg_leT, jg_leF, jg_eqT, jg_eqF, cond_true, cond_false, ne_eq, not_true_eq_false, not_false_eq_true, decide_true, decide_false, if_true, if_false, and_true, true_and, and_false, false_and, or_true, true_or, or_false, false_or, Nat.reduceEqDiff, reduceIte, Nat.reduceMul, Nat.reduceAdd, Nat.reduceSub, Nat.add_zero, Nat.zero_add, Nat.mul_zero, eq_self_iff_true, jg_not_lt, jg_not_le, hx5, dr1, hx4, dr2, iw, Bool.and_true, ig, pd]
        exact e1
      · rw [if_pos hn, Nat.zero_add]; exact e2
      · rw [if_pos hn, Nat.zero_add]; exact e3
      · rw [if_pos hn, Nat.zero_add]; exact e4
    · have ig := sx_isGoneF (x2.2 _ hww) (okW_8 hok.1) hn (d + 5)
      have ot := sx_othersThan x2.1 ho hpp (d + 5)
      have oH := oth_lt (vlP V) (by omega) (gsP V D) (by omega)
      obtain ⟨m3, t1, t2, t3⟩ := sx_tellWord ho hww hn hpp oH x2 d
      have bc := bc_pop _ (telN_lt ho (othN (vlP V) (gsP V D)) (gsW V D))
      have bo := oth_pop (show vlP V < 5 by omega) hpp
      have k37 : ∀ q, m3.1 37 i0 0 q = m2.1 37 i0 0 q := fun q => (t3 37 i0 0 q (by unfold PWK; omega)).1
      have g0' : m3.1 37 i0 0 0 = nI u := by rw [k37]; exact g0
      have g1' : m3.1 37 i0 0 1 = nI sy := by rw [k37]; exact g1
      have g2' : m3.1 37 i0 0 2 = nI h := by rw [k37]; exact g2
      have g5' : m3.1 37 i0 0 5 = nI (drw (drw D)) := by rw [k37]; exact g5
      generalize hm4 : jm_sI (jm_sI (jm_sI m3 37 i0 0 0 (nI (u + popc (telN V (othN (vlP V) (gsP V D)) (gsW V D))))) 37 i0 0 2 (nI (h + (vlP V - 1)))) 37 i0 0 1 (nI (sy + 1)) = m4
      have x4 : xV (telV V (othN (vlP V) (gsP V D)) (gsP V D) (gsW V D)) 1 m4 := by rw [← hm4]; exact xV_37 (xV_37 (xV_37 t2 _) _) _
      have pd := sx_passDay x4 ho.2.2.1 (d + 5)
      have eD : vlD (telV V (othN (vlP V) (gsP V D)) (gsP V D) (gsW V D)) = vlD V := rfl
      rw [eD] at pd
      have eV : gsV V D = vlDay (telV V (othN (vlP V) (gsP V D)) (gsP V D) (gsW V D)) (dayUp (vlD V)) := by unfold gsV; rw [if_neg hn]
      rw [eV] at hgo hPg hWg ⊢
      obtain ⟨m', e1, e2, e3, e4, e5, e6, e7⟩ := sx_gos_loop (i0 := i0) z2 hdays d r (k + 1) (drw (drw D)) (u + popc (telN V (othN (vlP V) (gsP V D)) (gsW V D))) (sy + 1) (h + (vlP V - 1)) _ (.inl (nI (gsP V D))) (.inl (nI (gsW V D))) (.inl (nI (othN (vlP V) (gsP V D)))) (jm_sI m4 10 1 0 6 (nI (dayUp (vlD V)))) (by omega) (drw_lt _) hgo hPg hWg (xV_day x4 _) (by rw [← hm4]; simp (disch := omega) only [jg_lit, jg_litL, jg_m1, jg_m1L, nI_add, lN_add, pk_mul, jg_sub, jg_subM, jg_addM, jg_addM', jg_negM, jt_in, jt_ix, jt_bi, jt_bl, jt_bv, jt_lt, jg_dT, jg_dF, jt_c, jt_cd, ru_I, ru_L, jg_leI, jg_ltI, jg_eqI, jg_M1, jg_M2, jg_M3, jg_M4, jg_M5, jg_M6, jg_ltT, jg_ltF, jg_leT, jg_leF, jg_eqT, jg_eqF, cond_true, cond_false, ne_eq, not_true_eq_false, not_false_eq_true, decide_true, decide_false, if_true, if_false, and_true, true_and, and_false, false_and, or_true, true_or, or_false, false_or, Nat.reduceEqDiff, reduceIte, Nat.reduceMul, Nat.reduceAdd, Nat.reduceSub, Nat.add_zero, Nat.zero_add, Nat.mul_zero, eq_self_iff_true, jg_not_lt, jg_not_le]) (by rw [← hm4]; simp (disch := omega) only [jg_lit, jg_litL, jg_m1, jg_m1L, nI_add, lN_add, pk_mul, jg_sub, jg_subM, jg_addM, jg_addM', jg_negM, jt_in, jt_ix, jt_bi, jt_bl, jt_bv, jt_lt, jg_dT, jg_dF, jt_c, jt_cd, ru_I, ru_L, jg_leI, jg_ltI, jg_eqI, jg_M1, jg_M2, jg_M3, jg_M4, jg_M5, jg_M6, jg_ltT, jg_ltF, jg_leT, jg_leF, jg_eqT, jg_eqF, cond_true, cond_false, ne_eq, not_true_eq_false, not_false_eq_true, decide_true, decide_false, if_true, if_false, and_true, true_and, and_false, false_and, or_true, true_or, or_false, false_or, Nat.reduceEqDiff, reduceIte, Nat.reduceMul, Nat.reduceAdd, Nat.reduceSub, Nat.add_zero, Nat.zero_add, Nat.mul_zero, eq_self_iff_true, jg_not_lt, jg_not_le]) (by rw [← hm4]; simp (disch := omega) only [jg_lit, jg_litL, jg_m1, jg_m1L, nI_add, lN_add, pk_mul, jg_sub, jg_subM, jg_addM, jg_addM', jg_negM, jt_in, jt_ix, jt_bi, jt_bl, jt_bv, jt_lt, jg_dT, jg_dF, jt_c, jt_cd, ru_I, ru_L, jg_leI, jg_ltI, jg_eqI, jg_M1, jg_M2, jg_M3, jg_M4, jg_M5, jg_M6, jg_ltT, jg_ltF, jg_leT, jg_leF, jg_eqT, jg_eqF, cond_true, cond_false, ne_eq, not_true_eq_false, not_false_eq_true, decide_true, decide_false, if_true, if_false, and_true, true_and, and_false, false_and, or_true, true_or, or_false, false_or, Nat.reduceEqDiff, reduceIte, Nat.reduceMul, Nat.reduceAdd, Nat.reduceSub, Nat.add_zero, Nat.zero_add, Nat.mul_zero, eq_self_iff_true, jg_not_lt, jg_not_le]) (by rw [← hm4]; simp (disch := omega) only [jg_lit, jg_litL, jg_m1, jg_m1L, nI_add, lN_add, pk_mul, jg_sub, jg_subM, jg_addM, jg_addM', jg_negM, jt_in, jt_ix, jt_bi, jt_bl, jt_bv, jt_lt, jg_dT, jg_dF, jt_c, jt_cd, ru_I, ru_L, jg_leI, jg_ltI, jg_eqI, jg_M1, jg_M2, jg_M3, jg_M4, jg_M5, jg_M6, jg_ltT, jg_ltF, jg_leT, jg_leF, jg_eqT, jg_eqF, cond_true, cond_false, ne_eq, not_true_eq_false, not_false_eq_true, decide_true, decide_false, if_true, if_false, and_true, true_and, and_false, false_and, or_true, true_or, or_false, false_or, Nat.reduceEqDiff, reduceIte, Nat.reduceMul, Nat.reduceAdd, Nat.reduceSub, Nat.add_zero, Nat.zero_add, Nat.mul_zero, eq_self_iff_true, jg_not_lt, jg_not_le]; exact g5')
      refine ⟨m', ?_, ?_, ?_, ?_, e5, e6, ?_⟩
      · rw [l_X0_run_23]
        simp (disch := omega) only [jg_lit, jg_litL, jg_m1, jg_m1L, nI_add, lN_add, pk_mul, jg_sub, jg_subM, jg_addM, jg_addM', jg_negM, jt_in, jt_ix, jt_bi, jt_bl, jt_bv, jt_lt, jg_dT, jg_dF, jt_c, jt_cd, ru_I, ru_L, jg_leI, jg_ltI, jg_eqI, jg_M1, jg_M2, jg_M3, jg_M4, jg_M5, jg_M6, jg_ltT, jg_ltF, jg_leT, jg_leF, jg_eqT, jg_eqF, cond_true, cond_false, ne_eq, not_true_eq_false, not_false_eq_true, decide_true, decide_false, if_true, if_false, and_true, true_and, and_false, false_and, or_true, true_or, or_false, false_or, Nat.reduceEqDiff, reduceIte, Nat.reduceMul, Nat.reduceAdd, Nat.reduceSub, Nat.add_zero, Nat.zero_add, Nat.mul_zero, eq_self_iff_true, jg_not_lt, jg_not_le, hx5, dr1, hx4, dr2, iw, Bool.and_true, ig, ot, t1, s_bitCount, bc, bo, g0, g0', g1', g2']
        rw [hm4, pd]
        exact e1
      · rw [if_neg hn, ← Nat.add_assoc]; exact e2
      · rw [if_neg hn, ← Nat.add_assoc]; exact e3
      · rw [if_neg hn, ← Nat.add_assoc]; exact e4
      · refine ((f2.tr (t3.wk (fun K i j q z => Or.inr ⟨z.1, by have := z.2; omega⟩))).tr ?_).tr e7
        rw [← hm4]
        exact fr_sI (fr_sI (fr_sI (fr_I (Or.inl ⟨rfl, rfl⟩)) (Or.inl ⟨rfl, rfl⟩)) (Or.inl ⟨rfl, rfl⟩)) (Or.inr ⟨rfl, Or.inl rfl⟩)
theorem sx_run {i0 : Nat} {seed days : Nat} (hdays : days ≤ 60) (hseed : seed < 65536) {V : Vl} (ho : okV V) (hP : 0 < vlP V) (hW : 0 < (vlW V).length) {m : jm_M} (hx : xV V 1 m) (d : Nat) : ∃ m', jm_sem false (d + 7) jn_X0_run [.inr (.inr (.inl (37, i0, 0))), .inr (.inr (.inl (10, 1, 0))), .inl (nI seed), .inl (nI days)] m = some (jm_j, m') ∧ m'.1 37 i0 0 0 = nI (gsU days seed V) ∧ m'.1 37 i0 0 1 = nI (gsS days seed V) ∧ m'.1 37 i0 0 2 = nI (gsH days seed V) ∧ m'.1 37 i0 0 3 = nI (nLive (vlW (gsF days seed V))) ∧ m'.1 37 i0 0 4 = nI (nLet (vlW (gsF days seed V))) ∧ fr (PGs i0) m m' := by
  obtain ⟨m', e1, e2, e3, e4, e5, e6, e7⟩ := sx_gos_loop (i0 := i0) (.inl (nI seed)) hdays d days 0 seed 0 0 0 V jm_j jm_j jm_j (jm_sI (jm_sI (jm_sI (jm_sI m 37 i0 0 0 0) 37 i0 0 1 0) 37 i0 0 2 0) 37 i0 0 5 (nI seed)) (by omega) hseed ho hP hW (xV_37 (xV_37 (xV_37 (xV_37 hx _) _) _) _) (by simp (disch := omega) only [jg_lit, jg_litL, jg_m1, jg_m1L, nI_add, lN_add, pk_mul, jg_sub, jg_subM, jg_addM, jg_addM', jg_negM, jt_in, jt_ix, jt_bi, jt_bl, jt_bv, jt_lt, jg_dT, jg_dF, jt_c, jt_cd, ru_I, ru_L, jg_leI, jg_ltI, jg_eqI, jg_M1, jg_M2, jg_M3, jg_M4, jg_M5, jg_M6, jg_ltT, jg_ltF, jg_leT, jg_leF, jg_eqT, jg_eqF, cond_true, cond_false, ne_eq, not_true_eq_false, not_false_eq_true, decide_true, decide_false, if_true, if_false, and_true, true_and, and_false, false_and, or_true, true_or, or_false, false_or, Nat.reduceEqDiff, reduceIte, Nat.reduceMul, Nat.reduceAdd, Nat.reduceSub, Nat.add_zero, Nat.zero_add, Nat.mul_zero, eq_self_iff_true, jg_not_lt, jg_not_le]) (by simp (disch := omega) only [jg_lit, jg_litL, jg_m1, jg_m1L, nI_add, lN_add, pk_mul, jg_sub, jg_subM, jg_addM, jg_addM', jg_negM, jt_in, jt_ix, jt_bi, jt_bl, jt_bv, jt_lt, jg_dT, jg_dF, jt_c, jt_cd, ru_I, ru_L, jg_leI, jg_ltI, jg_eqI, jg_M1, jg_M2, jg_M3, jg_M4, jg_M5, jg_M6, jg_ltT, jg_ltF, jg_leT, jg_leF, jg_eqT, jg_eqF, cond_true, cond_false, ne_eq, not_true_eq_false, not_false_eq_true, decide_true, decide_false, if_true, if_false, and_true, true_and, and_false, false_and, or_true, true_or, or_false, false_or, Nat.reduceEqDiff, reduceIte, Nat.reduceMul, Nat.reduceAdd, Nat.reduceSub, Nat.add_zero, Nat.zero_add, Nat.mul_zero, eq_self_iff_true, jg_not_lt, jg_not_le]) (by simp (disch := omega) only [jg_lit, jg_litL, jg_m1, jg_m1L, nI_add, lN_add, pk_mul, jg_sub, jg_subM, jg_addM, jg_addM', jg_negM, jt_in, jt_ix, jt_bi, jt_bl, jt_bv, jt_lt, jg_dT, jg_dF, jt_c, jt_cd, ru_I, ru_L, jg_leI, jg_ltI, jg_eqI, jg_M1, jg_M2, jg_M3, jg_M4, jg_M5, jg_M6, jg_ltT, jg_ltF, jg_leT, jg_leF, jg_eqT, jg_eqF, cond_true, cond_false, ne_eq, not_true_eq_false, not_false_eq_true, decide_true, decide_false, if_true, if_false, and_true, true_and, and_false, false_and, or_true, true_or, or_false, false_or, Nat.reduceEqDiff, reduceIte, Nat.reduceMul, Nat.reduceAdd, Nat.reduceSub, Nat.add_zero, Nat.zero_add, Nat.mul_zero, eq_self_iff_true, jg_not_lt, jg_not_le]) (by simp (disch := omega) only [jg_lit, jg_litL, jg_m1, jg_m1L, nI_add, lN_add, pk_mul, jg_sub, jg_subM, jg_addM, jg_addM', jg_negM, jt_in, jt_ix, jt_bi, jt_bl, jt_bv, jt_lt, jg_dT, jg_dF, jt_c, jt_cd, ru_I, ru_L, jg_leI, jg_ltI, jg_eqI, jg_M1, jg_M2, jg_M3, jg_M4, jg_M5, jg_M6, jg_ltT, jg_ltF, jg_leT, jg_leF, jg_eqT, jg_eqF, cond_true, cond_false, ne_eq, not_true_eq_false, not_false_eq_true, decide_true, decide_false, if_true, if_false, and_true, true_and, and_false, false_and, or_true, true_or, or_false, false_or, Nat.reduceEqDiff, reduceIte, Nat.reduceMul, Nat.reduceAdd, Nat.reduceSub, Nat.add_zero, Nat.zero_add, Nat.mul_zero, eq_self_iff_true, jg_not_lt, jg_not_le])
  rw [Nat.zero_add] at e2 e3 e4
  refine ⟨m', ?_, e2, e3, e4, e5, e6, (fr_sI (fr_sI (fr_sI (fr_I (Or.inl ⟨rfl, rfl⟩)) (Or.inl ⟨rfl, rfl⟩)) (Or.inl ⟨rfl, rfl⟩)) (Or.inl ⟨rfl, rfl⟩)).tr e7⟩
  rw [e_X0_run]
  exact e1
