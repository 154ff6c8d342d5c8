/-! ===== WINTER ===== -/
def wC0 (w : Wd) : Wd := (wL w, wM w, wS w, wT w, false, wX w, wF w)
def canB (w : Wd) : Prop := wL w ≠ [] ∧ wX w ≠ [] ∧ wC w = false
theorem okW2_C0 {w : Wd} (h : okW2 w) : okW2 (wC0 w) := h
theorem okW2_back {w : Wd} (h : okW2 w) (hn : wL w ≠ []) : okW2 (wBack w) := by
  unfold wBack
  cases hx : wX w with
  | nil => exact h
  | cons q t =>
    obtain ⟨⟨h1, h2, h3, h4, h5, h6, h7⟩, h8, h9, h10, h11⟩ := h
    have hq := h3 0 q (by rw [hx]; rfl)
    have hl : (wX w).length = t.length + 1 := by rw [hx]; rfl
    have hq26 := h9 q (by rw [hx]; exact List.mem_cons_self)
    have hlen : ((wL w).take q.2 ++ [q.1] ++ (wL w).drop q.2).length = (wL w).length + 1 := by
      simp only [List.length_append, List.length_take, List.length_drop, List.length_cons, List.length_nil]
      omega
    have hmem : ∀ c ∈ (wL w).take q.2 ++ [q.1] ++ (wL w).drop q.2, c ∈ wL w ∨ c = q.1 := fun c hc => by
      simp only [List.mem_append, List.mem_singleton] at hc
      rcases hc with (hc | hc) | hc
      · exact Or.inl (List.mem_of_mem_take hc)
      · exact Or.inr hc
      · exact Or.inl (List.mem_of_mem_drop hc)
    refine ⟨⟨fun c hc => ?_, ?_, fun n q' hq' => ?_, h4, h5, h6, fun e => ?_⟩, fun c hc => ?_, fun q' hq' => h9 q' (by rw [hx]; exact List.mem_cons_of_mem _ hq'), h10, h11⟩
    · rcases hmem c hc with z | z
      · exact h1 c z
      · rw [z]; exact ⟨hq.1, hq.2.1⟩
    · show ((wL w).take q.2 ++ [q.1] ++ (wL w).drop q.2).length + t.length ≤ 8
      omega
    · have hq' : t[n]? = some q' := hq'
      have := h3 (n + 1) q' (by rw [hx]; simpa using hq')
      refine ⟨this.1, this.2.1, ?_⟩
      show q'.2 ≤ ((wL w).take q.2 ++ [q.1] ++ (wL w).drop q.2).length + n
      omega
    · have e : (wL w).take q.2 ++ [q.1] ++ (wL w).drop q.2 = [] := e
      rw [e] at hlen
      simp at hlen
    · rcases hmem c hc with z | z
      · exact h8 c z
      · rw [z]; exact hq26
/-- the first j words were not said since -/
def clr (ws : List Wd) (j : Nat) : List Wd := (ws.take j).map wC0 ++ ws.drop j
theorem clr_len (ws : List Wd) (j : Nat) : (clr ws j).length = ws.length := by
  unfold clr
  rw [List.length_append, List.length_map, List.length_take, List.length_drop]
  omega
theorem clr_gw (ws : List Wd) (j : Nat) {q : Nat} (hq : q < ws.length) : gw (clr ws j) q = if q < j then wC0 (gw ws q) else gw ws q := by
  unfold gw clr
  simp only [List.getD]
  by_cases c : q < j
  · rw [if_pos c, List.getElem?_append_left (by rw [List.length_map, List.length_take]; omega), List.getElem?_map, List.getElem?_take, if_pos c, List.getElem?_eq_getElem hq]
    rfl
  · rw [if_neg c, List.getElem?_append_right (by rw [List.length_map, List.length_take]; omega), List.length_map, List.length_take, List.getElem?_drop]
    congr 2
    omega
theorem clr_L (ws : List Wd) (j q : Nat) : wL (gw (clr ws j) q) = wL (gw ws q) := by
  by_cases hq : q < ws.length
  · rw [clr_gw ws j hq]
    split <;> rfl
  · rw [gw_out (by rw [clr_len]; omega), gw_out (by omega)]
theorem alk_cong {ws ws' : List Wd} {ls : List Nat} {but : Option Nat} (h : ∀ q, wL (gw ws q) = wL (gw ws' q)) : ∀ (r k : Nat), alk ws ls but r k = alk ws' ls but r k
  | 0, _ => rfl
  | r + 1, k => by
    unfold alk
    rw [h k, alk_cong h r (k + 1)]
theorem okWs_clr {ws : List Wd} (h : okWs ws) (j : Nat) : okWs (clr ws j) := by
  refine ⟨by rw [clr_len]; exact h.1, fun q hq => ?_, fun a b ha hb hab hn => ?_⟩
  · rw [clr_len] at hq
    rw [clr_gw ws j hq]
    split
    · exact okW2_C0 (h.2.1 q hq)
    · exact h.2.1 q hq
  · rw [clr_len] at ha hb
    rw [clr_L] at hn ⊢
    rw [clr_L]
    exact h.2.2 a b ha hb hab hn
/-- does word j get a letter back? -/
noncomputable def winB (ws : List Wd) (j : Nat) : Bool := jm_dec (canB (gw ws j) ∧ alk ws (wL (wBack (gw ws j))) (some j) ws.length 0 = none)
noncomputable def winF : Nat → Nat → List Wd → Nat → List Wd × Nat
  | 0, _, ws, v => (ws, v)
  | r + 1, j, ws, v => if winB ws j = true then winF r (j + 1) (ws.set j (wBack (gw ws j))) (v ||| 2 ^ j) else winF r (j + 1) ws v
theorem okWs_win {ws : List Wd} (h : okWs ws) {j : Nat} (hj : j < ws.length) (hw : winB ws j = true) : okWs (ws.set j (wBack (gw ws j))) := by
  have hc : canB (gw ws j) ∧ alk ws (wL (wBack (gw ws j))) (some j) ws.length 0 = none := by
    unfold winB at hw
    exact @of_decide_eq_true _ (Classical.propDecidable _) hw
  refine okWs_set h hj (okW2_back (h.2.1 j hj) hc.1.1) (fun q hq hqj hqn => ?_)
  exact alk_none _ _ hc.2 q (Nat.zero_le _) (by omega) (fun z => hqj (Option.some.inj z)) hqn
theorem winF_ok : ∀ (r j : Nat) (ws : List Wd) (v : Nat), okWs ws → j + r = ws.length → okWs (winF r j ws v).1 ∧ (winF r j ws v).1.length = ws.length
  | 0, _, ws, v, h, _ => ⟨h, rfl⟩
  | r + 1, j, ws, v, h, hr => by
    unfold winF
    by_cases c : winB ws j = true
    · rw [if_pos c]
      have := winF_ok r (j + 1) (ws.set j (wBack (gw ws j))) (v ||| 2 ^ j) (okWs_win h (by omega) c) (by rw [List.length_set]; omega)
      rw [List.length_set] at this
      exact this
    · rw [if_neg c]
      exact winF_ok r (j + 1) ws v h (by omega)
theorem winF_lt : ∀ (r j : Nat) (ws : List Wd) (v : Nat), j + r ≤ 12 → v < 4096 → (winF r j ws v).2 < 4096
  | 0, _, _, v, _, hv => hv
  | r + 1, j, ws, v, hr, hv => by
    unfold winF
    have h2 : 2 ^ j < 4096 := Nat.lt_of_lt_of_le (Nat.pow_lt_pow_right (by decide) (show j < 12 by omega)) (by decide)
    split
    · exact winF_lt r (j + 1) _ _ (by omega) (Nat.or_lt_two_pow (n := 12) hv h2)
    · exact winF_lt r (j + 1) ws v (by omega) hv
theorem xV_mk {V : Vl} {i : Nat} {ws : List Wd} {m : jm_M} (h : xH V i m) (hl : ws.length = (vlW V).length) (hw : ∀ q, q < ws.length → xW (gw ws q) i q m) : xV (vlSet V ws) i m := ⟨⟨h.1, by show _ = nI ws.length; rw [hl]; exact h.2.1, h.2.2.1, h.2.2.2.1, h.2.2.2.2.1, h.2.2.2.2.2.1, fun s w hs hw => h.2.2.2.2.2.2 s w hs (by have : w < ws.length := hw; rw [← hl]; exact this)⟩, hw⟩
theorem xW_C0 {w : Wd} {i j : Nat} {m : jm_M} (h : xW w i j m) : xW (wC0 w) i j (jm_sI m 12 i j 5 0) := by
  obtain ⟨h0, h1, h2, h3, h4, h5, h6, h7, h8, h9⟩ := h
  unfold xW wC0
  simp only [ru_I, ru_L]
  simp [jb, h0, h1, h2, h3, h4, h6, h7, h8, h9]
theorem sx_win_loop {V : Vl} {i : Nat} (ho : okV V) (d : Nat) : ∀ (r j : Nat) (ws : List Wd) (v : Nat) (z3 : jm_V) (m : jm_M), j + r = ws.length → ws.length = (vlW V).length → okWs ws → xV (vlSet V (clr ws j)) i m → ∃ m', jm_ev false (d + 4) 7 1 jc_X8_giveBack 4 [.inr (.inr (.inl (10, i, 0))), .inl (nI v), .inl (nI j), z3] [] m = some (.inl (nI (winF r j ws v).2), m') ∧ xV (vlSet V (clr (winF r j ws v).1 ws.length)) i m' ∧ fr (PW i) m m'
  | 0, j, ws, v, z3, m, hr, hl, hw, h => by
    have h12 := hw.1
    have h4 : m.1 10 i 0 4 = nI (clr ws j).length := h.1.2.1
    rw [clr_len] at h4
    have : j = ws.length := by omega
    subst this
    refine ⟨m, ?_, h, .rf⟩
    rw [l_X8_giveBack_4]
    simp (disch := omega) only [jg_lit, jg_litL, jg_m1, jg_m1L, nI_add, lN_add, pk_mul, jg_sub, jg_subM, jg_addM, jg_addM', jg_negM, jt_in, jt_ix, jt_bi, jt_bl, jt_bv, jt_lt, jg_dT, jg_dF, jt_c, jt_cd, ru_I, ru_L, jg_leI, jg_ltI, jg_eqI, jg_M1, jg_M2, jg_M3, jg_M4, jg_M5, jg_M6, jg_ltT, jg_ltF, jg_leT, jg_leF, jg_eqT, jg_eqF, cond_true, cond_false, ne_eq, not_true_eq_false, not_false_eq_true, decide_true, decide_false, if_true, if_false, and_true, true_and, and_false, false_and, or_true, true_or, or_false, false_or, Nat.reduceEqDiff, reduceIte, Nat.reduceMul, Nat.reduceAdd, Nat.reduceSub, Nat.add_zero, Nat.zero_add, Nat.mul_zero, eq_self_iff_true, jg_not_lt, jg_not_le, h4]
    rfl
  | r + 1, j, ws, v, z3, m, hr, hl, hw, h => by
    have h12 := hw.1
    have h4 : m.1 10 i 0 4 = nI (clr ws j).length := h.1.2.1
    rw [clr_len] at h4
    have hj : j < ws.length := by omega
    have hok := hw.2.1 j hj
    have hx : xW (gw ws j) i j m := by
      have := h.2 j (by show j < (clr ws j).length; rw [clr_len]; exact hj)
      have e : gw (vlW (vlSet V (clr ws j))) j = gw ws j := by
        show gw (clr ws j) j = _
        rw [clr_gw ws j hj, if_neg (Nat.lt_irrefl _)]
      rw [e] at this
      exact this
    have cr := sx_canRegain hx hok.1 (d + 3)
    have hH : xH V i m := by
      obtain ⟨a1, a2, a3, a4, a5, a6, a7⟩ := h.1
      refine ⟨a1, ?_, a3, a4, a5, a6, fun s w hs hw => a7 s w hs (by show w < (clr ws j).length; rw [clr_len, hl]; exact hw)⟩
      rw [h4, hl]
    have rest : ∀ (w : Wd) (m1 : jm_M) (v' : Nat), okWs (ws.set j w) → xW w i j m1 → jc 12 i j m m1 → ∃ m', jm_ev false (d + 4) 7 1 jc_X8_giveBack 4 [.inr (.inr (.inl (10, i, 0))), .inl (nI v'), .inl (nI (j + 1)), .inr (.inr (.inl (12, i, j)))] [] (jm_sI m1 12 i j 5 0) = some (.inl (nI (winF r (j + 1) (ws.set j w) v').2), m') ∧ xV (vlSet V (clr (winF r (j + 1) (ws.set j w) v').1 ws.length)) i m' ∧ fr (PW i) m m' := by
      intro w m1 v' hw' hx1 hf1
      have jc2 : jc 12 i j m (jm_sI m1 12 i j 5 0) := hf1.tr jc_I
      have f2 := fr_jcW (show j < 12 by omega) jc2
      obtain ⟨m', e1, e2, e3⟩ := sx_win_loop ho d r (j + 1) (ws.set j w) v' (.inr (.inr (.inl (12, i, j)))) (jm_sI m1 12 i j 5 0) (by rw [List.length_set]; omega) (by rw [List.length_set]; exact hl) hw' (xV_mk (xH_W hH f2) (by rw [clr_len, List.length_set]; exact hl) (fun q hq => by
        rw [clr_len, List.length_set] at hq
        rw [clr_gw _ _ (by rw [List.length_set]; exact hq), gw_set _ hj]
        by_cases e : q = j
        · rw [if_pos (by omega), if_pos e, e]
          exact xW_C0 hx1
        · have hq1 := h.2 q (by show q < (clr ws j).length; rw [clr_len]; exact hq)
          have e9 : gw (vlW (vlSet V (clr ws j))) q = if q < j then wC0 (gw ws q) else gw ws q := clr_gw ws j hq
          rw [e9] at hq1
          rw [if_neg e]
          have : (q < j + 1) = (q < j) := by rw [eq_iff_iff]; omega
          simp only [this]
          exact xW_jc hq1 jc2 (Or.inr e)))
      rw [List.length_set] at e2
      exact ⟨m', e1, e2, f2.tr e3⟩
    have hset : ws.set j (gw ws j) = ws := by
      apply List.ext_getElem?
      intro q
      by_cases e : q = j
      · subst e
        rw [List.getElem?_set_self hj]
        unfold gw
        simp [List.getD, List.getElem?_eq_getElem hj]
      · rw [List.getElem?_set_ne (fun z => e z.symm)]
    rw [l_X8_giveBack_4]
    unfold winF
    by_cases hcan : canB (gw ws j)
    · rw [if_pos (show wL (gw ws j) ≠ [] ∧ wX (gw ws j) ≠ [] ∧ wC (gw ws j) = false from hcan)] at cr
      have rg := sx_regained hx hok.1 hcan.1 hcan.2.1 (d + 1)
      have hbk := okW2_back hok hcan.1
      have al := sx_alikeTo h (okWs_clr hw j) hbk.1.1 (okW_8 hbk.1) (but := some j) (fun q hq => by have := Option.some.inj hq; omega) (d + 2)
      have al2 : alk (vlW (vlSet V (clr ws j))) (wL (wBack (gw ws j))) (some j) (vlW (vlSet V (clr ws j))).length 0 = alk ws (wL (wBack (gw ws j))) (some j) ws.length 0 := by
        show alk (clr ws j) _ _ (clr ws j).length 0 = _
        rw [clr_len]
        exact alk_cong (clr_L ws j) _ _
      rw [al2, show jpl (some j) = nI j from rfl] at al
      cases ha : alk ws (wL (wBack (gw ws j))) (some j) ws.length 0 with
      | none =>
        have hB : winB ws j = true := by unfold winB; exact jt_dt ⟨hcan, ha⟩
        rw [if_pos hB]
        rw [ha, show jpl none = jM from rfl] at al
        obtain ⟨m1, b1, b2, b3⟩ := sx_regain hx hok.1 hcan.1 hcan.2.1 d
        obtain ⟨m', e1, e2, e3⟩ := rest (wBack (gw ws j)) m1 (v ||| 2 ^ j) (okWs_win hw hj hB) b2 b3
        refine ⟨m', ?_, e2, e3⟩
        simp (disch := omega) only [jg_lit, jg_litL, jg_m1, jg_m1L, nI_add, lN_add, pk_mul, jg_sub, jg_subM, jg_addM, jg_addM', jg_negM, jt_in, jt_ix, jt_bi, jt_bl, jt_bv, jt_lt, jg_dT, jg_dF, jt_c, jt_cd, ru_I, ru_L, jg_leI, jg_ltI, jg_eqI, jg_M1, jg_M2, jg_M3, jg_M4, jg_M5, jg_M6, jg_ltT, jg_ltF, jg_leT, jg_leF, jg_eqT, jg_eqF, cond_true, cond_false, ne_eq, not_true_eq_false, not_false_eq_true, decide_true, decide_false, if_true, if_false, and_true, true_and, and_false, false_and, or_true, true_or, or_false, false_or, Nat.reduceEqDiff, reduceIte, Nat.reduceMul, Nat.reduceAdd, Nat.reduceSub, Nat.add_zero, Nat.zero_add, Nat.mul_zero, eq_self_iff_true, jg_not_lt, jg_not_le, h4, Bool.and_true, cr, rg, al, b1, shl_n, fb_orI]
        exact e1
      | some o =>
        have ho1 := (alk_some _ _ ha).2.1
        have hB : ¬ winB ws j = true := by unfold winB; rw [jt_df (fun z => by rw [ha] at z; cases z.2)]; exact Bool.false_ne_true
        rw [if_neg hB]
        rw [ha, show jpl (some o) = nI o from rfl] at al
        obtain ⟨m', e1, e2, e3⟩ := rest (gw ws j) m v (by rw [hset]; exact hw) hx jc.rf
        rw [hset] at e1 e2
        refine ⟨m', ?_, e2, e3⟩
        simp (disch := omega) only [jg_lit, jg_litL, jg_m1, jg_m1L, nI_add, lN_add, pk_mul, jg_sub, jg_subM, jg_addM, jg_addM', jg_negM, jt_in, jt_ix, jt_bi, jt_bl, jt_bv, jt_lt, jg_dT, jg_dF, jt_c, jt_cd, ru_I, ru_L, jg_leI, jg_ltI, jg_eqI, jg_M1, jg_M2, jg_M3, jg_M4, jg_M5, jg_M6, jg_ltT, jg_ltF, jg_leT, jg_leF, jg_eqT, jg_eqF, cond_true, cond_false, ne_eq, not_true_eq_false, not_false_eq_true, decide_true, decide_false, if_true, if_false, and_true, true_and, and_false, false_and, or_true, true_or, or_false, false_or, Nat.reduceEqDiff, reduceIte, Nat.reduceMul, Nat.reduceAdd, Nat.reduceSub, Nat.add_zero, Nat.zero_add, Nat.mul_zero, eq_self_iff_true, jg_not_lt, jg_not_le, h4, Bool.and_true, cr, rg, al]
        exact e1
    · rw [if_neg (show ¬ (wL (gw ws j) ≠ [] ∧ wX (gw ws j) ≠ [] ∧ wC (gw ws j) = false) from hcan)] at cr
      have hB : ¬ winB ws j = true := by unfold winB; rw [jt_df (fun z => hcan z.1)]; exact Bool.false_ne_true
      rw [if_neg hB]
      obtain ⟨m', e1, e2, e3⟩ := rest (gw ws j) m v (by rw [hset]; exact hw) hx jc.rf
      rw [hset] at e1 e2
      refine ⟨m', ?_, e2, e3⟩
      simp (disch := omega) only [jg_lit, jg_litL, jg_m1, jg_m1L, nI_add, lN_add, pk_mul, jg_sub, jg_subM, jg_addM, jg_addM', jg_negM, jt_in, jt_ix, jt_bi, jt_bl, jt_bv, jt_lt, jg_dT, jg_dF, jt_c, jt_cd, ru_I, ru_L, jg_leI, jg_ltI, jg_eqI, jg_M1, jg_M2, jg_M3, jg_M4, jg_M5, jg_M6, jg_ltT, jg_ltF, jg_leT, jg_leF, jg_eqT, jg_eqF, cond_true, cond_false, ne_eq, not_true_eq_false, not_false_eq_true, decide_true, decide_false, if_true, if_false, and_true, true_and, and_false, false_and, or_true, true_or, or_false, false_or, Nat.reduceEqDiff, reduceIte, Nat.reduceMul, Nat.reduceAdd, Nat.reduceSub, Nat.add_zero, Nat.zero_add, Nat.mul_zero, eq_self_iff_true, jg_not_lt, jg_not_le, h4, Bool.and_true, cr]
      exact e1
theorem clr_0 (ws : List Wd) : clr ws 0 = ws := rfl
theorem vlSet_self (V : Vl) : vlSet V (vlW V) = V := rfl
/-- the words behind a winter -/
noncomputable def winWs (V : Vl) : List Wd := clr (winF (vlW V).length 0 (vlW V) 0).1 (vlW V).length
noncomputable def winN (V : Vl) : Nat := (winF (vlW V).length 0 (vlW V) 0).2
theorem sx_giveBack {V : Vl} {i : Nat} (ho : okV V) {m : jm_M} (h : xV V i m) (d : Nat) : ∃ m', jm_sem false (d + 5) jn_X8_giveBack [.inr (.inr (.inl (10, i, 0)))] m = some (.inl (nI (winN V)), m') ∧ xV (vlSet V (winWs V)) i m' ∧ fr (PW i) m m' := by
  rw [e_X8_giveBack]
  exact sx_win_loop ho d (vlW V).length 0 (vlW V) 0 jm_j m (by omega) rfl ho.2.2.2.1 h
theorem winWs_len {V : Vl} (ho : okV V) : (winWs V).length = (vlW V).length := by
  unfold winWs
  rw [clr_len, (winF_ok _ _ _ _ ho.2.2.2.1 (by omega)).2]
theorem okV_win {V : Vl} (ho : okV V) : okV (vlSet V (winWs V)) := okV_set ho (okWs_clr (winF_ok _ _ _ _ ho.2.2.2.1 (by omega)).1 _) (winWs_len ho)
theorem winN_lt {V : Vl} (ho : okV V) : winN V < 4096 := winF_lt _ _ _ _ (by have := ho.2.2.2.1.1; omega) (by decide)
