/-! ===== the CHAIN of a word ===== -/
def goD (V : Vl) (day : Nat) (w : Wd) : Option Nat := goP (vlS V) (wL w) (shB (wM w)) (wS w) (mn99 (nI day)) (mn99 (nI day - lat (wT w))) (vlR V)
def wearD (V : Vl) (day : Nat) (w : Wd) : Wd := if wL w = [] then w else wWear w (goD V day w) (nI day)
def wearN (V : Vl) (day : Nat) (w : Wd) : Nat → Wd
  | 0 => w
  | n + 1 => wearD V day (wearN V day w n)
theorem goD_lt {V : Vl} {day : Nat} {w : Wd} (hn : wL w ≠ []) {q : Nat} (h : goD V day w = some q) : q < (wL w).length := goP_lt hn _ _ _ _ _ q h
theorem okW2_wearD {V : Vl} {day : Nat} (hd : day ≤ 999) {w : Wd} (h : okW2 w) : okW2 (wearD V day w) := by
  unfold wearD
  split
  · exact h
  · rename_i hn
    exact okW2_wear h hn (fun q hq => goD_lt hn hq) hd
theorem okW2_wearN {V : Vl} {day : Nat} (hd : day ≤ 999) {w : Wd} (h : okW2 w) : ∀ n, okW2 (wearN V day w n)
  | 0 => h
  | n + 1 => okW2_wearD hd (okW2_wearN hd h n)
theorem wL_wear (w : Wd) (p : Option Nat) (day : Int32) : wL (wWear w p day) = match p with | none => wL w | some p => (wL w).eraseIdx p := by
  cases p with
  | none => rfl
  | some p =>
    unfold wWear
    dsimp only
    split
    · rename_i h; exact h.symm
    · rfl
theorem wearN_at (V : Vl) (day : Nat) (w : Wd) : ∀ n, wL (wearN V day w n) ≠ [] → wM (wearN V day w n) = wM w ∧ wS (wearN V day w n) = wS w + nI n ∧ wT (wearN V day w n) = if n = 0 then wT w else nI day
  | 0, _ => ⟨rfl, (Int32.add_zero _).symm, rfl⟩
  | n + 1, h => by
    have hs : wearN V day w (n + 1) = wearD V day (wearN V day w n) := rfl
    rw [hs] at h ⊢
    unfold wearD at h ⊢
    by_cases e : wL (wearN V day w n) = []
    · rw [if_pos e] at h; exact absurd e h
    · rw [if_neg e] at h ⊢
      obtain ⟨h1, h2, h3⟩ := wearN_at V day w n e
      have h4 : wS (wearN V day w n) + 1 = wS w + nI (n + 1) := by rw [h2, Int32.add_assoc, nI_1]
      rw [if_neg (by omega)]
      cases hp : goD V day (wearN V day w n) with
      | none => exact ⟨h1, h4, rfl⟩
      | some p =>
        rw [hp] at h
        unfold wWear at h ⊢
        dsimp only at h ⊢
        split
        · rename_i z; rw [if_pos z] at h; exact absurd rfl h
        · exact ⟨h1, h4, rfl⟩
/-! ===== in the class ===== -/
theorem sx_tryWord {V : Vl} {i : Nat} {m : jm_M} (h : xV V i m) (hl : (vlW V).length ≤ 12) {k : Nat} (hk : k < (vlW V).length) (d : Nat) : ∃ m', jm_sem false (d + 2) jn_X8_tryWord [.inr (.inr (.inl (10, i, 0))), .inl (nI k)] m = some (jm_j, m') ∧ xW (gw (vlW V) k) i 12 m' ∧ fr (PT i) m m' := by
  obtain ⟨m1, c1, c2, c3⟩ := sx_copyW (i := i) (j := 12) (h.2 k hk) d
  refine ⟨m1, ?_, c2, fr_jcT c3⟩
  rw [e_X8_tryWord]
  simp (disch := omega) only [jg_lit, jg_litL, jg_m1, jg_m1L, nI_add, lN_add, pk_mul, jg_sub, jg_subM, jg_addM, jg_addM', jg_negM, jt_in, jt_ix, jt_bi, jt_bl, jt_bv, jt_lt, jg_dT, jg_dF, jt_c, jt_cd, ru_I, ru_L, jg_leI, jg_ltI, jg_eqI, jg_M1, jg_M2, jg_M3, jg_M4, jg_M5, jg_M6, jg_ltT, jg_ltF, jg_leT, jg_leF, jg_eqT, jg_eqF, cond_true, cond_false, ne_eq, not_true_eq_false, not_false_eq_true, decide_true, decide_false, if_true, if_false, and_true, true_and, and_false, false_and, or_true, true_or, or_false, false_or, Nat.reduceEqDiff, reduceIte, Nat.reduceMul, Nat.reduceAdd, Nat.reduceSub, Nat.add_zero, Nat.zero_add, Nat.mul_zero, eq_self_iff_true, jg_not_lt, jg_not_le, Bool.and_true, c1]
theorem sx_placeLostD {V : Vl} {i : Nat} {m : jm_M} (h : xH V i m) (ho : okV V) {w : Wd} {j : Nat} (hx : xW w i j m) (hw : okW2 w) (hn : wL w ≠ []) (day d : Nat) : jm_sem false (d + 4) jn_X2_placeLost [.inr (.inr (.inl (13, i, 0))), .inr (.inr (.inl (12, i, j))), .inl (nI day), .inr (.inr (.inl (19, i, 0)))] m = some (.inl (jpl (goD V day w)), m) :=
  sx_placeLost hx hw.1.1 hw.2.1 (okW_8 hw.1) hn hw.1.2.2.2.1 ho.2.2.2.2.2.1 h.2.2.2.2.2.1 ho.2.2.2.2.2.2 h.2.2.2.2.1 (nI day) d
theorem sx_wearTried {V : Vl} {i : Nat} {m : jm_M} (h : xH V i m) (ho : okV V) {w : Wd} (hx : xW w i 12 m) (hw : okW2 w) (day d : Nat) : ∃ m', jm_sem false (d + 5) jn_X8_wearTried [.inr (.inr (.inl (10, i, 0))), .inl (nI day)] m = some (jm_j, m') ∧ xW (wearD V day w) i 12 m' ∧ fr (PT i) m m' := by
  unfold wearD
  by_cases hn : wL w = []
  · rw [if_pos hn]
    have g := sx_isGoneT hx (okW_8 hw.1) hn (d + 3)
    refine ⟨m, ?_, hx, .rf⟩
    rw [e_X8_wearTried]
    simp (disch := omega) only [jg_lit, jg_litL, jg_m1, jg_m1L, nI_add, lN_add, pk_mul, jg_sub, jg_subM, jg_addM, jg_addM', jg_negM, jt_in, jt_ix, jt_bi, jt_bl, jt_bv, jt_lt, jg_dT, jg_dF, jt_c, jt_cd, ru_I, ru_L, jg_leI, jg_ltI, jg_eqI, jg_M1, jg_M2, jg_M3, jg_M4, jg_M5, jg_M6, jg_ltT, jg_ltF, jg_leT, jg_leF, jg_eqT, jg_eqF, cond_true, cond_false, ne_eq, not_true_eq_false, not_false_eq_true, decide_true, decide_false, if_true, if_false, and_true, true_and, and_false, false_and, or_true, true_or, or_false, false_or, Nat.reduceEqDiff, reduceIte, Nat.reduceMul, Nat.reduceAdd, Nat.reduceSub, Nat.add_zero, Nat.zero_add, Nat.mul_zero, eq_self_iff_true, jg_not_lt, jg_not_le, g]
  · rw [if_neg hn]
    have g := sx_isGoneF hx (okW_8 hw.1) hn (d + 3)
    have p := sx_placeLostD h ho hx hw hn day d
    obtain ⟨m1, e1, x1, f1⟩ := sx_wear hx hw.1.1 (okW_8 hw.1) hn (p := goD V day w) (fun q hq => goD_lt hn hq) (nI day) (d + 1)
    refine ⟨m1, ?_, x1, fr_jcT f1⟩
    rw [e_X8_wearTried]
    simp (disch := omega) only [jg_lit, jg_litL, jg_m1, jg_m1L, nI_add, lN_add, pk_mul, jg_sub, jg_subM, jg_addM, jg_addM', jg_negM, jt_in, jt_ix, jt_bi, jt_bl, jt_bv, jt_lt, jg_dT, jg_dF, jt_c, jt_cd, ru_I, ru_L, jg_leI, jg_ltI, jg_eqI, jg_M1, jg_M2, jg_M3, jg_M4, jg_M5, jg_M6, jg_ltT, jg_ltF, jg_leT, jg_leF, jg_eqT, jg_eqF, cond_true, cond_false, ne_eq, not_true_eq_false, not_false_eq_true, decide_true, decide_false, if_true, if_false, and_true, true_and, and_false, false_and, or_true, true_or, or_false, false_or, Nat.reduceEqDiff, reduceIte, Nat.reduceMul, Nat.reduceAdd, Nat.reduceSub, Nat.add_zero, Nat.zero_add, Nat.mul_zero, eq_self_iff_true, jg_not_lt, jg_not_le, g, p, e1]
def lifeF (V : Vl) (day : Nat) (w : Wd) : Nat → Nat → Nat
  | 0, k => k
  | r + 1, k => if wL (wearN V day w k) = [] then k else lifeF V day w r (k + 1)
def lifeW (V : Vl) (day : Nat) (w : Wd) : Nat := lifeF V day w 41 0
theorem lifeF_le (V : Vl) (day : Nat) (w : Wd) : ∀ r k, k ≤ lifeF V day w r k ∧ lifeF V day w r k ≤ k + r
  | 0, k => ⟨Nat.le_refl _, Nat.le_refl _⟩
  | r + 1, k => by
    unfold lifeF
    split
    · exact ⟨Nat.le_refl _, by omega⟩
    · have := lifeF_le V day w r (k + 1)
      exact ⟨by omega, by omega⟩
theorem lifeW_le (V : Vl) (day : Nat) (w : Wd) : lifeW V day w ≤ 41 := by
  have := (lifeF_le V day w 41 0).2
  unfold lifeW
  omega
theorem sx_life_loop {V : Vl} {i : Nat} (ho : okV V) {w : Wd} (hw : okW2 w) (d : Nat) : ∀ (r k : Nat) (m : jm_M), k + r = 41 → xH V i m → xW (wearN V (vlD V) w k) i 12 m → ∃ m', jm_ev false (d + 5) 7 1 jc_X8_lifeOfTried 2 [.inr (.inr (.inl (10, i, 0))), .inl (nI k)] [] m = some (.inl (nI (lifeF V (vlD V) w r k)), m') ∧ fr (PT i) m m'
  | 0, k, m, hr, h, hx => by
    refine ⟨m, ?_, .rf⟩
    rw [l_X8_lifeOfTried_2]
    simp (disch := omega) only [jg_lit, jg_litL, jg_m1, jg_m1L, nI_add, lN_add, pk_mul, jg_sub, jg_subM, jg_addM, jg_addM', jg_negM, jt_in, jt_ix, jt_bi, jt_bl, jt_bv, jt_lt, jg_dT, jg_dF, jt_c, jt_cd, ru_I, ru_L, jg_leI, jg_ltI, jg_eqI, jg_M1, jg_M2, jg_M3, jg_M4, jg_M5, jg_M6, jg_ltT, jg_ltF, jg_leT, jg_leF, jg_eqT, jg_eqF, cond_true, cond_false, ne_eq, not_true_eq_false, not_false_eq_true, decide_true, decide_false, if_true, if_false, and_true, true_and, and_false, false_and, or_true, true_or, or_false, false_or, Nat.reduceEqDiff, reduceIte, Nat.reduceMul, Nat.reduceAdd, Nat.reduceSub, Nat.add_zero, Nat.zero_add, Nat.mul_zero, eq_self_iff_true, jg_not_lt, jg_not_le]
    rfl
  | r + 1, k, m, hr, h, hx => by
    have hwk := okW2_wearN (V := V) ho.2.2.1 hw k
    have h6 := h.2.2.2.1
    unfold lifeF
    by_cases hn : wL (wearN V (vlD V) w k) = []
    · have g := sx_isGoneT hx (okW_8 hwk.1) hn (d + 4)
      rw [if_pos hn]
      refine ⟨m, ?_, .rf⟩
      rw [l_X8_lifeOfTried_2]
      simp (disch := omega) only [jg_lit, jg_litL, jg_m1, jg_m1L, nI_add, lN_add, pk_mul, jg_sub, jg_subM, jg_addM, jg_addM', jg_negM, jt_in, jt_ix, jt_bi, jt_bl, jt_bv, jt_lt, jg_dT, jg_dF, jt_c, jt_cd, ru_I, ru_L, jg_leI, jg_ltI, jg_eqI, jg_M1, jg_M2, jg_M3, jg_M4, jg_M5, jg_M6, jg_ltT, jg_ltF, jg_leT, jg_leF, jg_eqT, jg_eqF, cond_true, cond_false, ne_eq, not_true_eq_false, not_false_eq_true, decide_true, decide_false, if_true, if_false, and_true, true_and, and_false, false_and, or_true, true_or, or_false, false_or, Nat.reduceEqDiff, reduceIte, Nat.reduceMul, Nat.reduceAdd, Nat.reduceSub, Nat.add_zero, Nat.zero_add, Nat.mul_zero, eq_self_iff_true, jg_not_lt, jg_not_le, g]
    · have g := sx_isGoneF hx (okW_8 hwk.1) hn (d + 4)
      rw [if_neg hn]
      obtain ⟨m1, e1, x1, f1⟩ := sx_wearTried h ho hx hwk (vlD V) d
      obtain ⟨m2, e2, f2⟩ := sx_life_loop ho hw d r (k + 1) m1 (by omega) (xH_T h f1) x1
      refine ⟨m2, ?_, f1.tr f2⟩
      rw [l_X8_lifeOfTried_2]
      simp (disch := omega) only [jg_lit, jg_litL, jg_m1, jg_m1L, nI_add, lN_add, pk_mul, jg_sub, jg_subM, jg_addM, jg_addM', jg_negM, jt_in, jt_ix, jt_bi, jt_bl, jt_bv, jt_lt, jg_dT, jg_dF, jt_c, jt_cd, ru_I, ru_L, jg_leI, jg_ltI, jg_eqI, jg_M1, jg_M2, jg_M3, jg_M4, jg_M5, jg_M6, jg_ltT, jg_ltF, jg_leT, jg_leF, jg_eqT, jg_eqF, cond_true, cond_false, ne_eq, not_true_eq_false, not_false_eq_true, decide_true, decide_false, if_true, if_false, and_true, true_and, and_false, false_and, or_true, true_or, or_false, false_or, Nat.reduceEqDiff, reduceIte, Nat.reduceMul, Nat.reduceAdd, Nat.reduceSub, Nat.add_zero, Nat.zero_add, Nat.mul_zero, eq_self_iff_true, jg_not_lt, jg_not_le, g, h6, e1]
      exact e2
theorem sx_lifeOfTried {V : Vl} {i : Nat} (ho : okV V) {w : Wd} (hw : okW2 w) {m : jm_M} (h : xH V i m) (hx : xW w i 12 m) (d : Nat) : ∃ m', jm_sem false (d + 6) jn_X8_lifeOfTried [.inr (.inr (.inl (10, i, 0)))] m = some (.inl (nI (lifeW V (vlD V) w)), m') ∧ fr (PT i) m m' := by
  rw [e_X8_lifeOfTried]
  exact sx_life_loop ho hw d 41 0 m (by omega) h hx
/-! ===== in the reference ===== -/
def PCh (K k : Nat) : Prop := (K = 40 ∧ k = 26) ∨ K = 49 ∨ K = 50 ∨ K = 51
theorem jk_PMh {m m' : jm_M} (h : jk PM_h m m') : jk PCh m m' := h.weak (fun K k z => z.elim Or.inl (fun z => Or.inr (Or.inl z)))
theorem jk_P50 {m m' : jm_M} (h : jk P50 m m') : jk PCh m m' := h.weak (fun K k z => Or.inr (Or.inr (Or.inl z)))
theorem PCh_41 {m m' : jm_M} (h : jk PCh m m') (k : Nat) : m'.1 41 0 0 k = m.1 41 0 0 k := (h 41 k (fun z => by unfold PCh at z; omega) 0 0).1
theorem mH_50 {ls : List Nat} {m m' : jm_M} (h : mH ls m) (hj : jk P50 m m') : mH ls m' := ⟨h.1, by rw [jk50_41 hj (by decide)]; exact h.2.1, fun q hq => by rw [jk50_41 hj (by decide)]; exact h.2.2 q hq⟩
theorem mH_51 {ls : List Nat} {m : jm_M} (h : mH ls m) (k : Nat) (x : Int64) : mH ls (jm_sL m 51 0 0 k x) := h
theorem said_n (x : Int32) (n : Nat) : x + nI (n + 1) - nI 1 = x + nI n := by
  rw [Int32.sub_eq_add_neg, Int32.add_assoc, ← Int32.sub_eq_add_neg, jg_sub (by omega)]
  rfl
theorem day_day (n : Nat) (h : n < 2 ^ 31) : nI n - lat (nI n) = 0 := by
  unfold lat
  rw [if_neg (nI_pos h), Int32.sub_self]
/-- one step along the chain -/
theorem sm_chain_1 {V : Vl} (ho : okV V) {w : Wd} (hw : okW2 w) {day : Nat} (hd : day ≤ 999) {n : Nat} (hn : n < 40) (hne : wL (wearN V day w n) ≠ []) {m : jm_M} (hH : mH (wL (wearN V day w n)) m) (hS : mS (vlS V) m) (hL : mL (vlR V) m) (d : Nat) : ∃ m1 m2, jm_sem false (d + 5) jn_X12_goes [vM, .inl (bI (shB (wM w))), .inl (wS w + nI n), .inl (nI day), .inl (if n = 0 then nI day - lat (wT w) else nI 0)] m = some (.inl (jpl (goD V day (wearN V day w n))), m1) ∧ (∀ e, jm_sem false (e + 1) jn_X12_drops [vM, .inl (jpl (goD V day (wearN V day w n)))] m1 = some (jm_j, m2)) ∧ mH (wL (wearN V day w (n + 1))) m2 ∧ jk PCh m m2 ∧ ∀ k, m2.2 51 0 0 k = m.2 51 0 0 k := by
  obtain ⟨h1, h2, h3⟩ := wearN_at V day w n hne
  have hwn := okW2_wearN (V := V) hd hw n
  have hi : (if n = 0 then nI day - lat (wT w) else nI 0) = nI day - lat (wT (wearN V day w n)) := by
    rw [h3]
    by_cases e : n = 0
    · rw [if_pos e, if_pos e]
    · rw [if_neg e, if_neg e, day_day day (by omega)]; rfl
  obtain ⟨m1, g1, g2⟩ := sm_goes hwn.1.1 hwn.2.1 hne ho.2.2.2.2.2.1 ho.2.2.2.2.2.2 (shB (wM (wearN V day w n))) (wS (wearN V day w n)) (nI day) (nI day - lat (wT (wearN V day w n))) d hH hS hL
  rw [← hi, h1, h2] at g1
  have hgo : goP (vlS V) (wL (wearN V day w n)) (shB (wM w)) (wS w + nI n) (mn99 (nI day)) (mn99 (if n = 0 then nI day - lat (wT w) else nI 0)) (vlR V) = goD V day (wearN V day w n) := by
    unfold goD
    rw [hi, h1, h2]
  rw [hgo] at g1
  have hH1 := mH_50 hH g2
  have hwl : wL (wearN V day w (n + 1)) = match goD V day (wearN V day w n) with | none => wL (wearN V day w n) | some p => (wL (wearN V day w n)).eraseIdx p := by
    show wL (wearD V day (wearN V day w n)) = _
    unfold wearD
    rw [if_neg hne, wL_wear]
  rw [hwl]
  cases hg : goD V day (wearN V day w n) with
  | none =>
    rw [hg] at g1
    exact ⟨m1, m1, g1, fun e => sm_dropsN m1 e, hH1, jk_P50 g2, fun k => (g2 51 k (show ¬ 51 = 50 by decide) 0 0).2⟩
  | some p =>
    rw [hg] at g1
    have hp := goD_lt hne hg
    obtain ⟨m2, d1, d2, d3⟩ := sm_drops hH1 hp 0
    refine ⟨m1, m2, g1, fun e => ?_, d2, (jk_P50 g2).tr (jk_PMh d3), fun k => ((d3 51 k (fun z => by unfold PM_h at z; omega) 0 0).2).trans (g2 51 k (show ¬ 51 = 50 by decide) 0 0).2⟩
    exact jm_sem_deep (by omega) d1
/-- what the row of the chain holds -/
def mCh (f : Nat → List Nat) (n : Nat) (μ : jm_M) : Prop := ∀ k, k < n → μ.2 51 0 0 k = lN (enc (f k))
theorem sm_chains_loop {V : Vl} (ho : okV V) {w : Wd} (hw : okW2 w) {day : Nat} (hd : day ≤ 999) (d : Nat) : ∀ (r n : Nat) (m : jm_M), n + r = 40 → mH (wL (wearN V day w n)) m → mS (vlS V) m → mL (vlR V) m → mCh (fun k => wL (wearN V day w k)) (n + 1) m → ∃ m', jm_ev false (d + 5) 11 0 jc_X12_chains 13 [vM, .inl (bI (shB (wM w))), .inl (wS w), .inl (nI day), .inl (nI day - lat (wT w)), .inl (nI (n + 1))] [] m = some (jm_j, m') ∧ mCh (fun k => wL (wearN V day w k)) 41 m' ∧ jk PCh m m'
  | 0, n, m, hr, hH, hS, hL, hC => by
    have : n = 40 := by omega
    subst this
    refine ⟨m, ?_, hC, .rf⟩
    rw [l_X12_chains_13]
    simp (disch := omega) only [jg_lit, jg_litL, jg_m1, jg_m1L, nI_add, lN_add, pk_mul, jg_sub, jg_subM, jg_addM, jg_addM', jg_negM, jt_in, jt_ix, jt_bi, jt_bl, jt_bv, jt_lt, jg_dT, jg_dF, jt_c, jt_cd, ru_I, ru_L, jg_leI, jg_ltI, jg_eqI, jg_M1, jg_M2, jg_M3, jg_M4, jg_M5, jg_M6, jg_ltT, jg_ltF, jg_leT, jg_leF, jg_eqT, jg_eqF, cond_true, cond_false, ne_eq, not_true_eq_false, not_false_eq_true, decide_true, decide_false, if_true, if_false, and_true, true_and, and_false, false_and, or_true, true_or, or_false, false_or, Nat.reduceEqDiff, reduceIte, Nat.reduceMul, Nat.reduceAdd, Nat.reduceSub, Nat.add_zero, Nat.zero_add, Nat.mul_zero, eq_self_iff_true, jg_not_lt, jg_not_le]
  | r + 1, n, m, hr, hH, hS, hL, hC => by
    have h8 := hH.1
    have h26 := hH.2.1
    have hwn := okW2_wearN (V := V) hd hw (n + 1)
    by_cases hne : wL (wearN V day w n) = []
    · have hnext : wL (wearN V day w (n + 1)) = [] := by
        show wL (wearD V day (wearN V day w n)) = _
        unfold wearD
        rw [if_pos hne]
        exact hne
      have hH' : mH (wL (wearN V day w (n + 1))) m := by rw [hnext, ← hne]; exact hH
      have nh := sm_numberHere hwn.1.1 hH' (d + 4)
      obtain ⟨m', e1, e2, e3⟩ := sm_chains_loop ho hw hd d r (n + 1) (jm_sL m 51 0 0 (n + 1) (lN (enc (wL (wearN V day w (n + 1)))))) (by omega) hH' hS hL (fun k hk => by
        rw [rd_LL]
        by_cases e : k = n + 1
        · rw [if_pos ⟨rfl, rfl, rfl, e⟩, e]
        · rw [if_neg (fun z => e z.2.2.2)]; exact hC k (by omega))
      refine ⟨m', ?_, e2, (jk_L (Or.inr (Or.inr (Or.inr rfl)))).tr e3⟩
      rw [hne] at h26
      rw [l_X12_chains_13]
      simp (disch := omega) only [jg_lit, jg_litL, jg_m1, jg_m1L, nI_add, lN_add, pk_mul, jg_sub, jg_subM, jg_addM, jg_addM', jg_negM, jt_in, jt_ix, jt_bi, jt_bl, jt_bv, jt_lt, jg_dT, jg_dF, jt_c, jt_cd, ru_I, ru_L, jg_leI, jg_ltI, jg_eqI, jg_M1, jg_M2, jg_M3, jg_M4, jg_M5, jg_M6, jg_ltT, jg_ltF, jg_leT, jg_leF, jg_eqT, jg_eqF, cond_true, cond_false, ne_eq, not_true_eq_false, not_false_eq_true, decide_true, decide_false, if_true, if_false, and_true, true_and, and_false, false_and, or_true, true_or, or_false, false_or, Nat.reduceEqDiff, reduceIte, Nat.reduceMul, Nat.reduceAdd, Nat.reduceSub, Nat.add_zero, Nat.zero_add, Nat.mul_zero, eq_self_iff_true, jg_not_lt, jg_not_le, h26, List.length_nil, nh]
      exact e1
    · obtain ⟨m1, m2, g1, g2, g3, g4, g5⟩ := sm_chain_1 ho hw hd (show n < 40 by omega) hne hH hS hL d
      have hl : 0 < (wL (wearN V day w n)).length := List.length_pos_iff.mpr hne
      have nh := sm_numberHere hwn.1.1 g3 (d + 4)
      have k41 := PCh_41 g4
      have hk51 : ∀ k, k < n + 1 → m2.2 51 0 0 k = m.2 51 0 0 k := fun k hk => g5 k
      obtain ⟨m', e1, e2, e3⟩ := sm_chains_loop ho hw hd d r (n + 1) (jm_sL m2 51 0 0 (n + 1) (lN (enc (wL (wearN V day w (n + 1)))))) (by omega) g3 (fun c h1 h2 => by rw [show (jm_sL m2 51 0 0 (n + 1) (lN (enc (wL (wearN V day w (n + 1)))))).1 = m2.1 from rfl, k41]; exact hS c h1 h2) (mL_k hL k41) (fun k hk => by
        rw [rd_LL]
        by_cases e : k = n + 1
        · rw [if_pos ⟨rfl, rfl, rfl, e⟩, e]
        · rw [if_neg (fun z => e z.2.2.2), hk51 k (by omega)]; exact hC k (by omega))
      refine ⟨m', ?_, e2, (g4.tr (jk_L (Or.inr (Or.inr (Or.inr rfl))))).tr e3⟩
      rw [l_X12_chains_13]
      have sn := said_n (wS w) n
      have g2' := g2 (d + 4)
      by_cases e : n = 0
      · subst e
        rw [if_pos rfl] at g1
        simp (disch := omega) only [jg_lit, jg_litL, jg_m1, jg_m1L, nI_add, lN_add, pk_mul, jg_sub, jg_subM, jg_addM, jg_addM', jg_negM, jt_in, jt_ix, jt_bi, jt_bl, jt_bv, jt_lt, jg_dT, jg_dF, jt_c, jt_cd, ru_I, ru_L, jg_leI, jg_ltI, jg_eqI, jg_M1, jg_M2, jg_M3, jg_M4, jg_M5, jg_M6, jg_ltT, jg_ltF, jg_leT, jg_leF, jg_eqT, jg_eqF, cond_true, cond_false, ne_eq, not_true_eq_false, not_false_eq_true, decide_true, decide_false, if_true, if_false, and_true, true_and, and_false, false_and, or_true, true_or, or_false, false_or, Nat.reduceEqDiff, reduceIte, Nat.reduceMul, Nat.reduceAdd, Nat.reduceSub, Nat.add_zero, Nat.zero_add, Nat.mul_zero, eq_self_iff_true, jg_not_lt, jg_not_le, h26, g1, g2', nh, sn]
        exact e1
      · rw [if_neg e] at g1
        simp (disch := omega) only [jg_lit, jg_litL, jg_m1, jg_m1L, nI_add, lN_add, pk_mul, jg_sub, jg_subM, jg_addM, jg_addM', jg_negM, jt_in, jt_ix, jt_bi, jt_bl, jt_bv, jt_lt, jg_dT, jg_dF, jt_c, jt_cd, ru_I, ru_L, jg_leI, jg_ltI, jg_eqI, jg_M1, jg_M2, jg_M3, jg_M4, jg_M5, jg_M6, jg_ltT, jg_ltF, jg_leT, jg_leF, jg_eqT, jg_eqF, cond_true, cond_false, ne_eq, not_true_eq_false, not_false_eq_true, decide_true, decide_false, if_true, if_false, and_true, true_and, and_false, false_and, or_true, true_or, or_false, false_or, Nat.reduceEqDiff, reduceIte, Nat.reduceMul, Nat.reduceAdd, Nat.reduceSub, Nat.add_zero, Nat.zero_add, Nat.mul_zero, eq_self_iff_true, jg_not_lt, jg_not_le, h26, g1, g2', nh, sn]
        exact e1
theorem sm_chains {V : Vl} (ho : okV V) {w : Wd} (hw : okW2 w) {day : Nat} (hd : day ≤ 999) {m : jm_M} (hH : mH (wL w) m) (hS : mS (vlS V) m) (hL : mL (vlR V) m) (d : Nat) : ∃ m', jm_sem false (d + 6) jn_X12_chains [vM, .inl (bI (shB (wM w))), .inl (wS w), .inl (nI day), .inl (nI day - lat (wT w))] m = some (jm_j, m') ∧ mCh (fun k => wL (wearN V day w k)) 41 m' ∧ jk PCh m m' := by
  obtain ⟨m', e1, e2, e3⟩ := sm_chains_loop ho hw hd d 40 0 (jm_sL m 51 0 0 0 (lN (enc (wL w)))) (by omega) hH hS hL (fun k hk => by
    rw [rd_LL, if_pos ⟨rfl, rfl, rfl, by omega⟩, show k = 0 by omega]
    rfl)
  refine ⟨m', ?_, e2, (jk_L (Or.inr (Or.inr (Or.inr rfl)))).tr e3⟩
  have nh := sm_numberHere hw.1.1 hH (d + 4)
  rw [e_X12_chains]
  simp (disch := omega) only [jg_lit, jg_litL, jg_m1, jg_m1L, nI_add, lN_add, pk_mul, jg_sub, jg_subM, jg_addM, jg_addM', jg_negM, jt_in, jt_ix, jt_bi, jt_bl, jt_bv, jt_lt, jg_dT, jg_dF, jt_c, jt_cd, ru_I, ru_L, jg_leI, jg_ltI, jg_eqI, jg_M1, jg_M2, jg_M3, jg_M4, jg_M5, jg_M6, jg_ltT, jg_ltF, jg_leT, jg_leF, jg_eqT, jg_eqF, cond_true, cond_false, ne_eq, not_true_eq_false, not_false_eq_true, decide_true, decide_false, if_true, if_false, and_true, true_and, and_false, false_and, or_true, true_or, or_false, false_or, Nat.reduceEqDiff, reduceIte, Nat.reduceMul, Nat.reduceAdd, Nat.reduceSub, Nat.add_zero, Nat.zero_add, Nat.mul_zero, eq_self_iff_true, jg_not_lt, jg_not_le, nh]
  exact e1
theorem sm_chainsWord {V : Vl} (ho : okV V) {m : jm_M} (h : mV V 0 m) (hS : mS (vlS V) m) (hL : mL (vlR V) m) {k : Nat} (hk : k < (vlW V).length) (d : Nat) : ∃ m', jm_sem false (d + 7) jn_X12_chainsWord [vM, .inl (nI k)] m = some (jm_j, m') ∧ mCh (fun n => wL (wearN V (vlD V) (gw (vlW V) k) n)) 41 m' ∧ jk PCh m m' := by
  have h12 := ho.2.2.2.1.1
  have hok := ho.2.2.2.1.2.1 k hk
  have hw := h.2.2.2.2 k hk
  have hX8 := hok.1.2.1
  generalize hb : 0 + 10 + 40 * k = b at hw
  have hb1 : b + 40 ≤ 8600 := by omega
  obtain ⟨m1, l1, l2, l3⟩ := sm_loads hw.1 (by omega) (d + 5)
  have k1 := PMh_41 l3
  have w1 : mW (gw (vlW V) k) b m1 := mW_cp hw (by omega) (fun q _ => k1 _)
  have hL1 := mL_k hL k1
  have hS1 : mS (vlS V) m1 := fun c h1 h2 => by rw [k1]; exact hS c h1 h2
  have hd1 : m1.1 41 0 0 4 = nI (vlD V) := by rw [k1]; exact h.2.2.2.1
  have im := sm_isMany hok.1.2.2.2.1 (d + 5) m1
  have io := sm_idleOf (s := 0) (by omega) hb1 w1 hd1 hok.2.2.2.2 (d + 5)
  obtain ⟨m2, c1, c2, c3⟩ := sm_chains ho hok ho.2.2.1 l2 hS1 hL1 d
  refine ⟨m2, ?_, c2, (jk_PMh l3).tr c3⟩
  have ro := sm_rowOf (d + 5) 0 k m
  rw [hb] at ro
  have a9 := w1.2.1
  have a10 := w1.2.2.1
  rw [e_X12_chainsWord]
  simp (disch := omega) only [jg_lit, jg_litL, jg_m1, jg_m1L, nI_add, lN_add, pk_mul, jg_sub, jg_subM, jg_addM, jg_addM', jg_negM, jt_in, jt_ix, jt_bi, jt_bl, jt_bv, jt_lt, jg_dT, jg_dF, jt_c, jt_cd, ru_I, ru_L, jg_leI, jg_ltI, jg_eqI, jg_M1, jg_M2, jg_M3, jg_M4, jg_M5, jg_M6, jg_ltT, jg_ltF, jg_leT, jg_leF, jg_eqT, jg_eqF, cond_true, cond_false, ne_eq, not_true_eq_false, not_false_eq_true, decide_true, decide_false, if_true, if_false, and_true, true_and, and_false, false_and, or_true, true_or, or_false, false_or, Nat.reduceEqDiff, reduceIte, Nat.reduceMul, Nat.reduceAdd, Nat.reduceSub, Nat.add_zero, Nat.zero_add, Nat.mul_zero, eq_self_iff_true, jg_not_lt, jg_not_le, ro, l1, a9, a10, hd1, im, io, c1]
theorem enc_z {ls : List Nat} (h : okL ls) (h8 : ls.length ≤ 8) : (lg_cmp (lN (enc ls)) (lN 0) = nI 0) = (ls = []) := by
  have a40 := enc_40 h h8
  have := (cmp_pos (show enc ls < 2 ^ 62 by omega)).2
  rw [enc_0 h] at this
  exact propext this
theorem sm_life_loop {V : Vl} {w : Wd} {day : Nat} (hw : ∀ n, okW2 (wearN V day w n)) {m : jm_M} (hC : mCh (fun n => wL (wearN V day w n)) 41 m) (d : Nat) : ∀ (r k : Nat), k + r = 41 → 1 ≤ k → jm_ev false d 11 1 jc_X12_lifeHere 2 [vM, .inl (nI k)] [] m = some (.inl (if lifeF V day w r k ≤ 40 then nI (lifeF V day w r k) else -1), m)
  | 0, k, hr, h1 => by
    rw [l_X12_lifeHere_2]
    unfold lifeF
    simp (disch := omega) only [jg_lit, jg_litL, jg_m1, jg_m1L, nI_add, lN_add, pk_mul, jg_sub, jg_subM, jg_addM, jg_addM', jg_negM, jt_in, jt_ix, jt_bi, jt_bl, jt_bv, jt_lt, jg_dT, jg_dF, jt_c, jt_cd, ru_I, ru_L, jg_leI, jg_ltI, jg_eqI, jg_M1, jg_M2, jg_M3, jg_M4, jg_M5, jg_M6, jg_ltT, jg_ltF, jg_leT, jg_leF, jg_eqT, jg_eqF, cond_true, cond_false, ne_eq, not_true_eq_false, not_false_eq_true, decide_true, decide_false, if_true, if_false, and_true, true_and, and_false, false_and, or_true, true_or, or_false, false_or, Nat.reduceEqDiff, reduceIte, Nat.reduceMul, Nat.reduceAdd, Nat.reduceSub, Nat.add_zero, Nat.zero_add, Nat.mul_zero, eq_self_iff_true, jg_not_lt, jg_not_le]
  | r + 1, k, hr, h1 => by
    have hc := hC k (by omega)
    have ez := enc_z (hw k).1.1 (okW_8 (hw k).1)
    rw [l_X12_lifeHere_2]
    unfold lifeF
    by_cases e : wL (wearN V day w k) = []
    · rw [if_pos e]
      have ez' := ez.trans (eq_true e)
      simp (disch := omega) only [jg_lit, jg_litL, jg_m1, jg_m1L, nI_add, lN_add, pk_mul, jg_sub, jg_subM, jg_addM, jg_addM', jg_negM, jt_in, jt_ix, jt_bi, jt_bl, jt_bv, jt_lt, jg_dT, jg_dF, jt_c, jt_cd, ru_I, ru_L, jg_leI, jg_ltI, jg_eqI, jg_M1, jg_M2, jg_M3, jg_M4, jg_M5, jg_M6, jg_ltT, jg_ltF, jg_leT, jg_leF, jg_eqT, jg_eqF, cond_true, cond_false, ne_eq, not_true_eq_false, not_false_eq_true, decide_true, decide_false, if_true, if_false, and_true, true_and, and_false, false_and, or_true, true_or, or_false, false_or, Nat.reduceEqDiff, reduceIte, Nat.reduceMul, Nat.reduceAdd, Nat.reduceSub, Nat.add_zero, Nat.zero_add, Nat.mul_zero, eq_self_iff_true, jg_not_lt, jg_not_le, hc, ez']
    · rw [if_neg e]
      have ez' := ez.trans (eq_false e)
      simp (disch := omega) only [jg_lit, jg_litL, jg_m1, jg_m1L, nI_add, lN_add, pk_mul, jg_sub, jg_subM, jg_addM, jg_addM', jg_negM, jt_in, jt_ix, jt_bi, jt_bl, jt_bv, jt_lt, jg_dT, jg_dF, jt_c, jt_cd, ru_I, ru_L, jg_leI, jg_ltI, jg_eqI, jg_M1, jg_M2, jg_M3, jg_M4, jg_M5, jg_M6, jg_ltT, jg_ltF, jg_leT, jg_leF, jg_eqT, jg_eqF, cond_true, cond_false, ne_eq, not_true_eq_false, not_false_eq_true, decide_true, decide_false, if_true, if_false, and_true, true_and, and_false, false_and, or_true, true_or, or_false, false_or, Nat.reduceEqDiff, reduceIte, Nat.reduceMul, Nat.reduceAdd, Nat.reduceSub, Nat.add_zero, Nat.zero_add, Nat.mul_zero, eq_self_iff_true, jg_not_lt, jg_not_le, hc, ez']
      exact sm_life_loop hw hC d r (k + 1) (by omega) (by omega)
theorem sm_lifeHere {V : Vl} {w : Wd} {day : Nat} (hw : ∀ n, okW2 (wearN V day w n)) (hn : wL w ≠ []) {m : jm_M} (hC : mCh (fun n => wL (wearN V day w n)) 41 m) (d : Nat) : jm_sem false (d + 1) jn_X12_lifeHere [vM] m = some (.inl (if lifeW V day w ≤ 40 then nI (lifeW V day w) else -1), m) := by
  rw [e_X12_lifeHere]
  have := sm_life_loop hw hC d 40 1 (by omega) (by omega)
  have e : lifeW V day w = lifeF V day w 40 1 := by
    unfold lifeW
    show (if wL (wearN V day w 0) = [] then 0 else lifeF V day w 40 1) = _
    rw [if_neg (show ¬ wL (wearN V day w 0) = [] from hn)]
  rw [e]
  exact this
