/-! ===== cut: the new word ===== -/
def frN (ws : List Wd) : Nat → Nat → Nat
  | 0, k => k
  | r + 1, k => if wL (gw ws k) = [] then k else frN ws r (k + 1)
def freeN (ws : List Wd) : Nat := frN ws ws.length 0
theorem frN_le (ws : List Wd) : ∀ r k, k ≤ frN ws r k ∧ frN ws r k ≤ k + r
  | 0, k => ⟨Nat.le_refl _, Nat.le_refl _⟩
  | r + 1, k => by
    unfold frN
    split
    · omega
    · have := frN_le ws r (k + 1)
      omega
theorem frN_nil (ws : List Wd) : ∀ r k, frN ws r k < k + r → wL (gw ws (frN ws r k)) = []
  | 0, k, h => by have := frN_le ws 0 k; omega
  | r + 1, k, h => by
    unfold frN at h ⊢
    split
    · rename_i e; exact e
    · rename_i e
      rw [if_neg e] at h
      exact frN_nil ws r (k + 1) (by omega)
theorem frN_live (ws : List Wd) : ∀ r k q, k ≤ q → q < frN ws r k → wL (gw ws q) ≠ []
  | 0, k, q, h1, h2 => by unfold frN at h2; omega
  | r + 1, k, q, h1, h2 => by
    unfold frN at h2
    split at h2
    · omega
    · rename_i e
      by_cases c : q = k
      · rw [c]; exact e
      · exact frN_live ws r (k + 1) q (by omega) h2
theorem freeN_le (ws : List Wd) : freeN ws ≤ ws.length := by have := (frN_le ws ws.length 0).2; unfold freeN; omega
theorem freeN_nil (ws : List Wd) : wL (gw ws (freeN ws)) = [] := by
  by_cases c : freeN ws < ws.length
  · exact frN_nil ws ws.length 0 (by unfold freeN at c; omega)
  · rw [gw_out (by omega)]; rfl
theorem ctW_all {p : Nat → Bool} : ∀ (r k v : Nat), (∀ q, k ≤ q → q < k + r → p q = true) → ctW p r k v = v + r
  | 0, k, v, _ => rfl
  | r + 1, k, v, h => by
    unfold ctW
    rw [h k (Nat.le_refl _) (by omega), if_pos rfl, ctW_all r (k + 1) (v + 1) (fun q h1 h2 => h q (by omega) (by omega))]
    omega
theorem freeN_lt {ws : List Wd} (h12 : ws.length ≤ 12) (hn : nLive ws ≠ 12) : freeN ws < 12 := by
  have h1 := freeN_le ws
  by_cases c : freeN ws = 12
  · exact absurd (by
      unfold nLive
      rw [ctW_all ws.length 0 0 (fun q _ hq => liveB_T (frN_live ws ws.length 0 q (Nat.zero_le _) (by unfold freeN at c; omega)))]
      omega) hn
  · omega
def putW (ws : List Wd) (n : Nat) (w : Wd) : List Wd := if n < ws.length then ws.set n w else ws ++ [w]
theorem putW_len {ws : List Wd} {n : Nat} (h : n ≤ ws.length) (w : Wd) : (putW ws n w).length = max ws.length (n + 1) := by
  unfold putW
  split
  · rw [List.length_set]; omega
  · rw [List.length_append, List.length_singleton]; omega
theorem putW_gw {ws : List Wd} {n : Nat} (h : n ≤ ws.length) (w : Wd) (j : Nat) : gw (putW ws n w) j = if j = n then w else gw ws j := by
  unfold putW
  split
  · rename_i c; exact gw_set w c j
  · have e : n = ws.length := by omega
    unfold gw
    simp only [List.getD]
    by_cases c : j = n
    · rw [if_pos c, c, e, List.getElem?_append_right (Nat.le_refl _), Nat.sub_self]; rfl
    · rw [if_neg c]
      by_cases c2 : j < ws.length
      · rw [List.getElem?_append_left c2]
      · rw [List.getElem?_eq_none (by rw [List.length_append, List.length_singleton]; omega), List.getElem?_eq_none (by omega)]
def cutV (V : Vl) (n : Nat) (ls : List Nat) (g : Nat) : Vl := (vlM V, vlP V, vlD V, putW (vlW V) n (wNew ls (2 ^ g)), fun s w => if w = n then ls else vlK V s w, vlS V, vlR V)
theorem okV_cut {V : Vl} (ho : okV V) {n g : Nat} (hn : n ≤ (vlW V).length) (hn12 : n < 12) {ls : List Nat} (h1 : okL ls) (h2 : ls.length ≤ 8) (h3 : ls ≠ []) (h4 : ∀ c ∈ ls, c ≤ 26) (hg : g < 12) (ha : alk (vlW V) ls none (vlW V).length 0 = none) : okV (cutV V n ls g) := by
  have hl := putW_len hn (wNew ls (2 ^ g))
  have hp : 2 ^ g < 4096 := Nat.pow_lt_pow_right (a := 2) (by decide) hg
  have hno : ∀ q, q < (vlW V).length → wL (gw (vlW V) q) ≠ ls := fun q hq z => alk_none _ _ ha q (Nat.zero_le _) (by omega) (fun e => nomatch e) (by rw [z]; exact h3) z
  have h12 := ho.2.2.2.1.1
  refine ⟨ho.1, ho.2.1, ho.2.2.1, ⟨?_, fun j hj => ?_, fun p q hp' hq' hpq hpn => ?_⟩, fun s w hs hw => ?_, ho.2.2.2.2.2⟩
  · show (putW (vlW V) n (wNew ls (2 ^ g))).length ≤ 12
    rw [hl]; omega
  · show okW2 (gw (putW (vlW V) n (wNew ls (2 ^ g))) j)
    have hj : j < (putW (vlW V) n (wNew ls (2 ^ g))).length := hj
    rw [putW_gw hn]
    split
    · exact okW2_new h1 h2 h4 hp h3
    · exact ho.2.2.2.1.2.1 j (by omega)
  · have hp' : p < (putW (vlW V) n (wNew ls (2 ^ g))).length := hp'
    have hq' : q < (putW (vlW V) n (wNew ls (2 ^ g))).length := hq'
    have hpn : wL (gw (putW (vlW V) n (wNew ls (2 ^ g))) p) ≠ [] := hpn
    show wL (gw (putW (vlW V) n (wNew ls (2 ^ g))) p) ≠ wL (gw (putW (vlW V) n (wNew ls (2 ^ g))) q)
    rw [putW_gw hn] at hpn ⊢
    rw [putW_gw hn]
    by_cases e1 : p = n
    · rw [if_pos e1, if_neg (by omega)]
      exact fun z => hno q (by omega) z.symm
    · rw [if_neg e1] at hpn ⊢
      by_cases e2 : q = n
      · rw [if_pos e2]
        exact hno p (by omega)
      · rw [if_neg e2]
        exact ho.2.2.2.1.2.2 p q (by omega) (by omega) hpq hpn
  · have hw : w < (putW (vlW V) n (wNew ls (2 ^ g))).length := hw
    show okK (if w = n then ls else vlK V s w)
    split
    · exact ⟨h1, h2⟩
    · exact ho.2.2.2.2.1 s w hs (by omega)
def sayIf (V : Vl) (b : Nat) : Vl := if wL (gw (vlW V) b) = [] then V else vlSet V (sayWs V b)
theorem sayIf_len (V : Vl) (b : Nat) : (vlW (sayIf V b)).length = (vlW V).length := by
  unfold sayIf
  split
  · rfl
  · exact sayWs_len V b
theorem okV_sayIf {V : Vl} (ho : okV V) {b : Nat} (hb : b < (vlW V).length) : okV (sayIf V b) := by
  unfold sayIf
  split
  · exact ho
  · rename_i e; exact okV_say ho hb e
/-! ===== the class ===== -/
theorem sx_free_loop {V : Vl} {m : jm_M} (h : xV V 0 m) (ho : okWs (vlW V)) (d : Nat) : ∀ (r k : Nat), k + r = (vlW V).length → jm_ev false (d + 1) 7 1 jc_X8_freeNumber 2 [.inr (.inr (.inl (10, 0, 0))), .inl (nI k)] [] m = some (.inl (nI (frN (vlW V) r k)), m)
  | 0, k, hr => by
    have h12 := ho.1
    have h4 := h.1.2.1
    have e : k = (vlW V).length := by omega
    subst e
    rw [l_X8_freeNumber_2]
    simp (disch := omega) only [jg_lit, jg_litL, jg_m1, jg_m1L, nI_add, lN_add, pk_mul, jg_sub, jg_subM, jg_addM, jg_addM', jg_negM, jt_in, jt_ix, jt_bi, jt_bl, jt_bv, jt_lt, jg_dT, jg_dF, jt_c, jt_cd, ru_I, ru_L, jg_leI, jg_ltI, jg_eqI, jg_M1, jg_M2, jg_M3, jg_M4, jg_M5, jg_M6, jg_ltT, jg_ltF, jg_leT, jg_leF, jg_eqT, jg_eqF, cond_true, cond_false, ne_eq, not_true_eq_false, not_false_eq_true, decide_true, decide_false, if_true, if_false, and_true, true_and, and_false, false_and, or_true, true_or, or_false, false_or, Nat.reduceEqDiff, reduceIte, Nat.reduceMul, Nat.reduceAdd, Nat.reduceSub, Nat.add_zero, Nat.zero_add, Nat.mul_zero, eq_self_iff_true, jg_not_lt, jg_not_le, h4]
    rfl
  | r + 1, k, hr => by
    have h12 := ho.1
    have h4 := h.1.2.1
    have hk : k < (vlW V).length := by omega
    have k8 := okW_8 (ho.2.1 k hk).1
    rw [l_X8_freeNumber_2]
    unfold frN
    by_cases c : wL (gw (vlW V) k) = []
    · have g := sx_isGoneT (h.2 k hk) k8 c d
      rw [if_pos c]
      simp (disch := omega) only [jg_lit, jg_litL, jg_m1, jg_m1L, nI_add, lN_add, pk_mul, jg_sub, jg_subM, jg_addM, jg_addM', jg_negM, jt_in, jt_ix, jt_bi, jt_bl, jt_bv, jt_lt, jg_dT, jg_dF, jt_c, jt_cd, ru_I, ru_L, jg_leI, jg_ltI, jg_eqI, jg_M1, jg_M2, jg_M3, jg_M4, jg_M5, jg_M6, jg_ltT, jg_ltF, jg_leT, jg_leF, jg_eqT, jg_eqF, cond_true, cond_false, ne_eq, not_true_eq_false, not_false_eq_true, decide_true, decide_false, if_true, if_false, and_true, true_and, and_false, false_and, or_true, true_or, or_false, false_or, Nat.reduceEqDiff, reduceIte, Nat.reduceMul, Nat.reduceAdd, Nat.reduceSub, Nat.add_zero, Nat.zero_add, Nat.mul_zero, eq_self_iff_true, jg_not_lt, jg_not_le, h4, g, Bool.and_true]
    · have g := sx_isGoneF (h.2 k hk) k8 c d
      rw [if_neg c]
      simp (disch := omega) only [jg_lit, jg_litL, jg_m1, jg_m1L, nI_add, lN_add, pk_mul, jg_sub, jg_subM, jg_addM, jg_addM', jg_negM, jt_in, jt_ix, jt_bi, jt_bl, jt_bv, jt_lt, jg_dT, jg_dF, jt_c, jt_cd, ru_I, ru_L, jg_leI, jg_ltI, jg_eqI, jg_M1, jg_M2, jg_M3, jg_M4, jg_M5, jg_M6, jg_ltT, jg_ltF, jg_leT, jg_leF, jg_eqT, jg_eqF, cond_true, cond_false, ne_eq, not_true_eq_false, not_false_eq_true, decide_true, decide_false, if_true, if_false, and_true, true_and, and_false, false_and, or_true, true_or, or_false, false_or, Nat.reduceEqDiff, reduceIte, Nat.reduceMul, Nat.reduceAdd, Nat.reduceSub, Nat.add_zero, Nat.zero_add, Nat.mul_zero, eq_self_iff_true, jg_not_lt, jg_not_le, h4, g, Bool.and_true]
      exact sx_free_loop h ho d r (k + 1) (by omega)
def P18 (n K i _j k : Nat) : Prop := K = 18 ∧ i = 0 ∧ k % 12 = n
theorem sx_teach_loop {n L P : Nat} (hn : n < L) (hL : L ≤ 12) (hP : P ≤ 4) (ls : List Nat) (d : Nat) : ∀ (r s : Nat) (m : jm_M), s + r = P → m.1 10 0 0 5 = nI P → m.1 10 0 0 4 = nI L → m.2 12 0 n 0 = lN (enc ls) → (∀ q, q < s → m.2 18 0 0 (q * 12 + n) = lN (enc ls)) → ∃ m', jm_ev false (d + 2) 7 0 jc_X8_teachWord 2 [.inr (.inr (.inl (10, 0, 0))), .inl (nI n), .inl (nI s)] [] m = some (jm_j, m') ∧ (∀ q, q < P → m'.2 18 0 0 (q * 12 + n) = lN (enc ls)) ∧ fr (P18 n) m m'
  | 0, s, m, hr, h5, h4, hw, hq => by
    refine ⟨m, ?_, fun q hq' => hq q (by omega), .rf⟩
    rw [l_X8_teachWord_2]
    simp (disch := omega) only [jg_lit, jg_litL, jg_m1, jg_m1L, nI_add, lN_add, pk_mul, jg_sub, jg_subM, jg_addM, jg_addM', jg_negM, jt_in, jt_ix, jt_bi, jt_bl, jt_bv, jt_lt, jg_dT, jg_dF, jt_c, jt_cd, ru_I, ru_L, jg_leI, jg_ltI, jg_eqI, jg_M1, jg_M2, jg_M3, jg_M4, jg_M5, jg_M6, jg_ltT, jg_ltF, jg_leT, jg_leF, jg_eqT, jg_eqF, cond_true, cond_false, ne_eq, not_true_eq_false, not_false_eq_true, decide_true, decide_false, if_true, if_false, and_true, true_and, and_false, false_and, or_true, true_or, or_false, false_or, Nat.reduceEqDiff, reduceIte, Nat.reduceMul, Nat.reduceAdd, Nat.reduceSub, Nat.add_zero, Nat.zero_add, Nat.mul_zero, eq_self_iff_true, jg_not_lt, jg_not_le, h5]
  | r + 1, s, m, hr, h5, h4, hw, hq => by
    have a : jm_sem false (d + 1) jn_X8_isSpeaker [.inr (.inr (.inl (10, 0, 0))), .inl (nI s)] m = some (.inl (nI 1), m) := by
      rw [e_X8_isSpeaker]
      simp (disch := omega) only [jg_lit, jg_litL, jg_m1, jg_m1L, nI_add, lN_add, pk_mul, jg_sub, jg_subM, jg_addM, jg_addM', jg_negM, jt_in, jt_ix, jt_bi, jt_bl, jt_bv, jt_lt, jg_dT, jg_dF, jt_c, jt_cd, ru_I, ru_L, jg_leI, jg_ltI, jg_eqI, jg_M1, jg_M2, jg_M3, jg_M4, jg_M5, jg_M6, jg_ltT, jg_ltF, jg_leT, jg_leF, jg_eqT, jg_eqF, cond_true, cond_false, ne_eq, not_true_eq_false, not_false_eq_true, decide_true, decide_false, if_true, if_false, and_true, true_and, and_false, false_and, or_true, true_or, or_false, false_or, Nat.reduceEqDiff, reduceIte, Nat.reduceMul, Nat.reduceAdd, Nat.reduceSub, Nat.add_zero, Nat.zero_add, Nat.mul_zero, eq_self_iff_true, jg_not_lt, jg_not_le, h5]
    have b : jm_sem false (d + 1) jn_X8_isWord [.inr (.inr (.inl (10, 0, 0))), .inl (nI n)] m = some (.inl (nI 1), m) := by
      rw [e_X8_isWord]
      simp (disch := omega) only [jg_lit, jg_litL, jg_m1, jg_m1L, nI_add, lN_add, pk_mul, jg_sub, jg_subM, jg_addM, jg_addM', jg_negM, jt_in, jt_ix, jt_bi, jt_bl, jt_bv, jt_lt, jg_dT, jg_dF, jt_c, jt_cd, ru_I, ru_L, jg_leI, jg_ltI, jg_eqI, jg_M1, jg_M2, jg_M3, jg_M4, jg_M5, jg_M6, jg_ltT, jg_ltF, jg_leT, jg_leF, jg_eqT, jg_eqF, cond_true, cond_false, ne_eq, not_true_eq_false, not_false_eq_true, decide_true, decide_false, if_true, if_false, and_true, true_and, and_false, false_and, or_true, true_or, or_false, false_or, Nat.reduceEqDiff, reduceIte, Nat.reduceMul, Nat.reduceAdd, Nat.reduceSub, Nat.add_zero, Nat.zero_add, Nat.mul_zero, eq_self_iff_true, jg_not_lt, jg_not_le, h4]
    have c : jm_sem false (d + 2) jn_X8_learn [.inr (.inr (.inl (10, 0, 0))), .inl (nI s), .inl (nI n), .inr (.inl (lN (enc ls)))] m = some (jm_j, jm_sL m 18 0 0 (s * 12 + n) (lN (enc ls))) := by
      rw [e_X8_learn]
      simp (disch := omega) only [jg_lit, jg_litL, jg_m1, jg_m1L, nI_add, lN_add, pk_mul, jg_sub, jg_subM, jg_addM, jg_addM', jg_negM, jt_in, jt_ix, jt_bi, jt_bl, jt_bv, jt_lt, jg_dT, jg_dF, jt_c, jt_cd, ru_I, ru_L, jg_leI, jg_ltI, jg_eqI, jg_M1, jg_M2, jg_M3, jg_M4, jg_M5, jg_M6, jg_ltT, jg_ltF, jg_leT, jg_leF, jg_eqT, jg_eqF, cond_true, cond_false, ne_eq, not_true_eq_false, not_false_eq_true, decide_true, decide_false, if_true, if_false, and_true, true_and, and_false, false_and, or_true, true_or, or_false, false_or, Nat.reduceEqDiff, reduceIte, Nat.reduceMul, Nat.reduceAdd, Nat.reduceSub, Nat.add_zero, Nat.zero_add, Nat.mul_zero, eq_self_iff_true, jg_not_lt, jg_not_le, a, b]
    obtain ⟨m', e1, e2, e3⟩ := sx_teach_loop hn hL hP ls d r (s + 1) (jm_sL m 18 0 0 (s * 12 + n) (lN (enc ls))) (by omega) h5 h4 (by rw [rd_LL, if_neg (by omega)]; exact hw) (fun q hq' => by
      rw [rd_LL]
      by_cases e : q = s
      · rw [if_pos ⟨rfl, rfl, rfl, by rw [e]⟩]
      · rw [if_neg (by omega)]; exact hq q (by omega))
    refine ⟨m', ?_, e2, (fr_L (show P18 n 18 0 0 (s * 12 + n) from ⟨rfl, rfl, by omega⟩)).tr e3⟩
    rw [← e1, l_X8_teachWord_2]
    simp (disch := omega) only [jg_lit, jg_litL, jg_m1, jg_m1L, nI_add, lN_add, pk_mul, jg_sub, jg_subM, jg_addM, jg_addM', jg_negM, jt_in, jt_ix, jt_bi, jt_bl, jt_bv, jt_lt, jg_dT, jg_dF, jt_c, jt_cd, ru_I, ru_L, jg_leI, jg_ltI, jg_eqI, jg_M1, jg_M2, jg_M3, jg_M4, jg_M5, jg_M6, jg_ltT, jg_ltF, jg_leT, jg_leF, jg_eqT, jg_eqF, cond_true, cond_false, ne_eq, not_true_eq_false, not_false_eq_true, decide_true, decide_false, if_true, if_false, and_true, true_and, and_false, false_and, or_true, true_or, or_false, false_or, Nat.reduceEqDiff, reduceIte, Nat.reduceMul, Nat.reduceAdd, Nat.reduceSub, Nat.add_zero, Nat.zero_add, Nat.mul_zero, eq_self_iff_true, jg_not_lt, jg_not_le, h5, hw, c, Bool.and_true]
theorem sx_sayIf {V : Vl} {m : jm_M} (h : xV V 0 m) (ho : okV V) {b : Nat} (hb : b < (vlW V).length) (d : Nat) : (wL (gw (vlW V) b) = [] ∧ sayIf V b = V ∧ jm_sem false (d + 5) jn_X10_isGone [.inr (.inr (.inl (12, 0, b)))] m = some (.inl (nI 1), m)) ∨ (wL (gw (vlW V) b) ≠ [] ∧ jm_sem false (d + 5) jn_X10_isGone [.inr (.inr (.inl (12, 0, b)))] m = some (.inl (nI 0), m) ∧ ∃ x m', jm_sem false (d + 5) jn_X8_sayWord [.inr (.inr (.inl (10, 0, 0))), .inl (nI b)] m = some (.inl x, m') ∧ xV (sayIf V b) 0 m' ∧ fr (PW 0) m m') := by
  by_cases c : wL (gw (vlW V) b) = []
  · exact Or.inl ⟨c, if_pos c, sx_isGoneT (h.2 b hb) (okW_8 (ho.2.2.2.1.2.1 b hb).1) c (d + 4)⟩
  · obtain ⟨m', e1, e2, e3⟩ := sx_sayWord h ho hb c d
    refine Or.inr ⟨c, sx_isGoneF (h.2 b hb) (okW_8 (ho.2.2.2.1.2.1 b hb).1) c (d + 4), _, m', e1, ?_, e3⟩
    rw [show sayIf V b = vlSet V (sayWs V b) from if_neg c]
    exact e2
theorem sx_cutWord {V : Vl} {m : jm_M} (h : xV V 0 m) (ho : okV V) {a b i j g : Nat} (ha : a < (vlW V).length) (hb : b < (vlW V).length) (hga : wL (gw (vlW V) a) ≠ []) (hi : 1 ≤ i) (hc : cutB (vlW V) a i b j = true) (hg : g < 12) (hn : nLive (vlW V) ≠ 12) (d : Nat) : ∃ m', jm_sem false (d + 6) jn_X8_cutWord [.inr (.inr (.inl (10, 0, 0))), .inl (nI a), .inl (nI i), .inl (nI b), .inl (nI j), .inl (nI g)] m = some (.inl (nI (freeN (vlW V))), m') ∧ xV (sayIf (sayIf (cutV V (freeN (vlW V)) (cutW (vlW V) a i b j) g) a) b) 0 m' ∧ fr (PV 0) m m' := by
  obtain ⟨q1, q2, q3, q4⟩ := cutB_T hc
  have h12 := ho.2.2.2.1.1
  have hP := ho.2.1
  obtain ⟨c1, c2, c3, c4⟩ := cutW_ok ho.2.2.2.1 ha hb q1 q2 q3 hi
  have f := sx_cutForm h ho.2.2.2.1 ha hb q1 q2 (d + 3)
  have fn : jm_sem false (d + 5) jn_X8_freeNumber [.inr (.inr (.inl (10, 0, 0)))] m = some (.inl (nI (freeN (vlW V))), m) := by
    rw [e_X8_freeNumber]
    exact sx_free_loop h ho.2.2.2.1 (d + 3) (vlW V).length 0 (by omega)
  have n12 := freeN_lt h12 hn
  have nle := freeN_le (vlW V)
  have okV' := okV_cut ho nle n12 c1 (by omega) c3 c4 hg q4
  have nn := freeN_nil (vlW V)
  generalize freeN (vlW V) = n at *
  generalize hls : cutW (vlW V) a i b j = ls at *
  obtain ⟨m1, e1, e2, e3⟩ := sx_begin (d + 3) 0 n ls (2 ^ g) m
  rw [c2] at e1
  have h4 : m1.1 10 0 0 4 = nI (vlW V).length := by rw [(e3 10 0 0 (by omega)).1]; exact h.1.2.1
  have mx : (if (vlW V).length < n + 1 then nI (n + 1) else nI (vlW V).length) = nI (max (vlW V).length (n + 1)) := by
    by_cases c : (vlW V).length < n + 1
    · rw [if_pos c, Nat.max_eq_right (by omega)]
    · rw [if_neg c, Nat.max_eq_left (by omega)]
  obtain ⟨m2, t1, t2, t3⟩ := sx_teach_loop (n := n) (L := max (vlW V).length (n + 1)) (P := vlP V) (by omega) (by omega) hP ls (d + 2) (vlP V) 0 (jm_sI m1 10 0 0 4 (nI (max (vlW V).length (n + 1)))) (by omega) (by rw [rd_II, if_neg (by omega), (e3 10 0 0 (by omega)).1]; exact h.1.2.2.1) (by rw [rd_II, if_pos ⟨rfl, rfl, rfl, rfl⟩]) e2.1 (fun q hq => by omega)
  have t1' : jm_sem false (d + 5) jn_X8_teachWord [.inr (.inr (.inl (10, 0, 0))), .inl (nI n)] (jm_sI m1 10 0 0 4 (nI (max (vlW V).length (n + 1)))) = some (jm_j, m2) := by
    rw [e_X8_teachWord]
    exact t1
  have hl := putW_len nle (wNew ls (2 ^ g))
  have far : ∀ K i' j' k, ¬ (K = 12 ∧ i' = 0 ∧ j' = n) → ¬ (K = 10 ∧ i' = 0 ∧ k = 4) → ¬ P18 n K i' j' k → m2.1 K i' j' k = m.1 K i' j' k ∧ m2.2 K i' j' k = m.2 K i' j' k := fun K i' j' k z1 z2 z3 => by
    have u1 := t3 K i' j' k z3
    have u2 := e3 K i' j' z1
    refine ⟨u1.1.trans ?_, u1.2.trans ?_⟩
    · rw [rd_II, if_neg (fun z => z2 ⟨z.1, z.2.1, z.2.2.2⟩), u2.1]
    · show m1.2 K i' j' k = _
      rw [u2.2]
  have hx2 : xV (cutV V n ls g) 0 m2 := by
    have k10 := fun k (hk : k ≠ 4) => (far 10 0 0 k (by omega) (by omega) (by unfold P18; omega)).1
    have k13 := fun K k (hK : 13 ≤ K ∧ K ≤ 17 ∨ K = 19) => (far K 0 0 k (by omega) (by omega) (by unfold P18; omega)).1
    refine ⟨⟨by rw [k10 3 (by omega)]; exact h.1.1, ?_, by rw [k10 5 (by omega)]; exact h.1.2.2.1, by rw [k10 6 (by omega)]; exact h.1.2.2.2.1, ?_, fun c z1 z2 => by rw [k13 19 c (by omega)]; exact h.1.2.2.2.2.2.1 c z1 z2, fun s w hs hw => ?_⟩, fun q hq => ?_⟩
    · rw [(t3 10 0 0 4 (by unfold P18; omega)).1, rd_II, if_pos ⟨rfl, rfl, rfl, rfl⟩]
      show _ = nI (putW (vlW V) n (wNew ls (2 ^ g))).length
      rw [hl]
    · have hL := h.1.2.2.2.2.1
      have e13 := fun k => k13 13 k (by omega)
      have e14 := fun k => k13 14 k (by omega)
      have e15 := fun k => k13 15 k (by omega)
      have e16 := fun k => k13 16 k (by omega)
      have e17 := fun k => k13 17 k (by omega)
      show xL (vlR V) 0 m2
      unfold xL xC at hL ⊢
      simp only [e13, e14, e15, e16, e17]
      exact hL
    · have hw : w < (putW (vlW V) n (wNew ls (2 ^ g))).length := hw
      have hs : s < vlP V := hs
      show m2.2 18 0 0 (s * 12 + w) = lN (enc (if w = n then ls else vlK V s w))
      by_cases c : w = n
      · rw [if_pos c, c]; exact t2 s hs
      · rw [if_neg c, (far 18 0 0 (s * 12 + w) (by omega) (by omega) (by unfold P18; omega)).2]
        exact h.1.2.2.2.2.2.2 s w hs (by omega)
    · have hq : q < (putW (vlW V) n (wNew ls (2 ^ g))).length := hq
      show xW (gw (putW (vlW V) n (wNew ls (2 ^ g))) q) 0 q m2
      rw [putW_gw nle]
      by_cases c : q = n
      · rw [if_pos c, c]
        exact xW_k e2 (fun k => by rw [(t3 12 0 n k (by unfold P18; omega)).1, rd_II, if_neg (by omega)]) (fun k => by rw [(t3 12 0 n k (by unfold P18; omega)).2])
      · rw [if_neg c]
        exact xW_k (h.2 q (by omega)) (fun k => (far 12 0 q k (by omega) (by omega) (by unfold P18; omega)).1) (fun k => (far 12 0 q k (by omega) (by omega) (by unfold P18; omega)).2)
  have f2 : fr (PV 0) m m2 := fun K i' j' k hnp => far K i' j' k (fun z => hnp ⟨z.2.1, by omega⟩) (fun z => hnp ⟨z.2.1, by omega⟩) (fun z => hnp ⟨z.2.1, by have := z.1; omega⟩)
  have lV' : (vlW (cutV V n ls g)).length = max (vlW V).length (n + 1) := hl
  have hna : a ≠ n := fun z => hga (by rw [z]; exact nn)
  have hgl : wL (gw (vlW (cutV V n ls g)) a) ≠ [] := by
    show wL (gw (putW (vlW V) n (wNew ls (2 ^ g))) a) ≠ []
    rw [putW_gw nle, if_neg hna]; exact hga
  have frW : ∀ {x y : jm_M}, fr (PW 0) x y → fr (PV 0) x y := fun z => z.wk (fun K i' j' k z => ⟨z.2.1, by have := z.1; omega⟩)
  rcases sx_sayIf hx2 okV' (b := a) (by omega) d with ⟨u, -, -⟩ | ⟨-, g1, x1, m3, g2, g3, g4⟩
  · exact absurd u hgl
  · have okV'' := okV_sayIf okV' (b := a) (by omega)
    have lV2 := sayIf_len (cutV V n ls g) a
    rcases sx_sayIf g3 okV'' (b := b) (by omega) d with ⟨-, u2, u3⟩ | ⟨-, u1, x2, m4, u2, u3, u4⟩
    · refine ⟨m3, ?_, by rw [u2]; exact g3, f2.tr (frW g4)⟩
      rw [e_X8_cutWord]
      simp (disch := omega) only [jg_lit, jg_litL, jg_m1, jg_m1L, nI_add, lN_add, pk_mul, jg_sub, jg_subM, jg_addM, jg_addM', jg_negM, jt_in, jt_ix, jt_bi, jt_bl, jt_bv, jt_lt, jg_dT, jg_dF, jt_c, jt_cd, ru_I, ru_L, jg_leI, jg_ltI, jg_eqI, jg_M1, jg_M2, jg_M3, jg_M4, jg_M5, jg_M6, jg_ltT, jg_ltF, jg_leT, jg_leF, jg_eqT, jg_eqF, cond_true, cond_false, ne_eq, not_true_eq_false, not_false_eq_true, decide_true, decide_false, if_true, if_false, and_true, true_and, and_false, false_and, or_true, true_or, or_false, false_or, Nat.reduceEqDiff, reduceIte, Nat.reduceMul, Nat.reduceAdd, Nat.reduceSub, Nat.add_zero, Nat.zero_add, Nat.mul_zero, eq_self_iff_true, jg_not_lt, jg_not_le, fn, f, e1, h4, mx, t1', g1, g2, u3, shl_n, Bool.and_true]
    · refine ⟨m4, ?_, u3, (f2.tr (frW g4)).tr (frW u4)⟩
      rw [e_X8_cutWord]
      simp (disch := omega) only [jg_lit, jg_litL, jg_m1, jg_m1L, nI_add, lN_add, pk_mul, jg_sub, jg_subM, jg_addM, jg_addM', jg_negM, jt_in, jt_ix, jt_bi, jt_bl, jt_bv, jt_lt, jg_dT, jg_dF, jt_c, jt_cd, ru_I, ru_L, jg_leI, jg_ltI, jg_eqI, jg_M1, jg_M2, jg_M3, jg_M4, jg_M5, jg_M6, jg_ltT, jg_ltF, jg_leT, jg_leF, jg_eqT, jg_eqF, cond_true, cond_false, ne_eq, not_true_eq_false, not_false_eq_true, decide_true, decide_false, if_true, if_false, and_true, true_and, and_false, false_and, or_true, true_or, or_false, false_or, Nat.reduceEqDiff, reduceIte, Nat.reduceMul, Nat.reduceAdd, Nat.reduceSub, Nat.add_zero, Nat.zero_add, Nat.mul_zero, eq_self_iff_true, jg_not_lt, jg_not_le, fn, f, e1, h4, mx, t1', g1, g2, u1, u2, shl_n, Bool.and_true]
