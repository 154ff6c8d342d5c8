/-! ===== tell ===== -/
def vlKn (V : Vl) (K : Nat → Nat → List Nat) : Vl := (vlM V, vlP V, vlD V, vlW V, K, vlS V, vlR V)
theorem xV_K {V : Vl} {i : Nat} {m : jm_M} {K : Nat → Nat → List Nat} (h : xV V i m) (hK : ∀ s w, s < vlP V → w < (vlW V).length → K s w = vlK V s w) : xV (vlKn V K) i m := by
  obtain ⟨⟨h1, h2, h3, h4, h5, h6, h7⟩, h8⟩ := h
  exact ⟨⟨h1, h2, h3, h4, h5, h6, fun s w hs hw => by show _ = lN (enc (K s w)); rw [hK s w hs hw]; exact h7 s w hs hw⟩, h8⟩
theorem mN_K {V : Vl} {l : Nat} {m : jm_M} {K : Nat → Nat → List Nat} (h : mN V l m) (hK : ∀ s w, s < vlP V → w < (vlW V).length → K s w = vlK V s w) : mN (vlKn V K) l m := fun s w hs hw => by
  show _ = lN (enc (K s w))
  rw [hK s w hs hw]
  exact h s w hs hw
theorem xV_KK {V : Vl} {i : Nat} {m : jm_M} {K K' : Nat → Nat → List Nat} (h : xV (vlKn V K) i m) (hK : ∀ s w, s < vlP V → w < (vlW V).length → K' s w = K s w) : xV (vlKn V K') i m := xV_K (V := vlKn V K) h hK
theorem mN_KK {V : Vl} {l : Nat} {m : jm_M} {K K' : Nat → Nat → List Nat} (h : mN (vlKn V K) l m) (hK : ∀ s w, s < vlP V → w < (vlW V).length → K' s w = K s w) : mN (vlKn V K') l m := mN_K (V := vlKn V K) h hK
theorem okV_K {V : Vl} (h : okV V) {K : Nat → Nat → List Nat} (hK : ∀ s w, s < vlP V → w < (vlW V).length → okK (K s w)) : okV (vlKn V K) := ⟨h.1, h.2.1, h.2.2.1, h.2.2.2.1, hK, h.2.2.2.2.2⟩
def kUp (K : Nat → Nat → List Nat) (s w : Nat) (ls : List Nat) : Nat → Nat → List Nat := fun s' w' => if s' = s ∧ w' = w then ls else K s' w'
theorem sx_learn {V : Vl} {i : Nat} {m : jm_M} (h : xV V i m) (ho : okV V) {s w : Nat} (hs : s < vlP V) (hw : w < (vlW V).length) (ls : List Nat) (d : Nat) : ∃ m', jm_sem false (d + 2) jn_X8_learn [.inr (.inr (.inl (10, i, 0))), .inl (nI s), .inl (nI w), .inr (.inl (lN (enc ls)))] m = some (jm_j, m') ∧ xV (vlKn V (kUp (vlK V) s w ls)) i m' ∧ jc 18 i 0 m m' := by
  have h12 := ho.2.2.2.1.1
  have hp := ho.2.1
  have a := sx_isSpeakerT h.1 hp hs d
  have b := sx_isWordT h.1 h12 hw d
  refine ⟨jm_sL m 18 i 0 (s * 12 + w) (lN (enc ls)), ?_, ?_, jc_L⟩
  · rw [e_X8_learn]
    simp (disch := omega) only [jg_lit, jg_litL, jg_m1, jg_m1L, nI_add, lN_add, pk_mul, jg_sub, jg_subM, jg_addM, jg_addM', jg_negM, jt_in, jt_ix, jt_bi, jt_bl, jt_bv, jt_lt, jg_dT, jg_dF, jt_c, jt_cd, ru_I, ru_L, jg_leI, jg_ltI, jg_eqI, jg_M1, jg_M2, jg_M3, jg_M4, jg_M5, jg_M6, jg_ltT, jg_ltF, jg_leT, jg_leF, jg_eqT, jg_eqF, cond_true, cond_false, ne_eq, not_true_eq_false, not_false_eq_true, decide_true, decide_false, if_true, if_false, and_true, true_and, and_false, false_and, or_true, true_or, or_false, false_or, Nat.reduceEqDiff, reduceIte, Nat.reduceMul, Nat.reduceAdd, Nat.reduceSub, Nat.add_zero, Nat.zero_add, Nat.mul_zero, eq_self_iff_true, jg_not_lt, jg_not_le, a, b]
  · obtain ⟨⟨h1, h2, h3, h4, h5, h6, h7⟩, h8⟩ := h
    refine ⟨⟨h1, h2, h3, h4, h5, h6, fun s' w' hs' hw' => ?_⟩, fun j hj => xW_k (h8 j hj) (fun k => rfl) (fun k => by rw [rd_LL, if_neg (by omega)])⟩
    have hw' : w' < (vlW V).length := hw'
    rw [rd_LL]
    show _ = lN (enc (kUp (vlK V) s w ls s' w'))
    unfold kUp
    by_cases e : s' = s ∧ w' = w
    · rw [if_pos ⟨rfl, rfl, rfl, by rw [e.1, e.2]⟩, if_pos e]
    · rw [if_neg (fun z => by omega), if_neg e]
      exact h7 s' w' hs' hw'
/-- who heard knows the word by this form -/
def hK (K : Nat → Nat → List Nat) (H w : Nat) (ls : List Nat) (k : Nat) : Nat → Nat → List Nat := fun s' w' => if w' = w ∧ s' < k ∧ H.testBit s' = true then ls else K s' w'
def tK (K : Nat → Nat → List Nat) (H p w : Nat) (ls : List Nat) : Nat → Nat → List Nat := fun s' w' => if w' = w ∧ (H.testBit s' = true ∨ s' = p) then ls else K s' w'
def undB (V : Vl) (H w : Nat) (s : Nat) : Bool := H.testBit s && decide (nearB (vlK V s w) (wL (gw (vlW V) w)) = 1)
theorem okK_L {w : Wd} (h : okW2 w) : okK (wL w) := ⟨h.1.1, okW_8 h.1⟩
theorem okV_hK {V : Vl} (ho : okV V) {w : Nat} (hw : w < (vlW V).length) (H k : Nat) : okV (vlKn V (hK (vlK V) H w (wL (gw (vlW V) w)) k)) := okV_K ho (fun s w' hs hw' => by
  unfold hK
  split
  · exact okK_L (ho.2.2.2.1.2.1 w hw)
  · exact ho.2.2.2.2.1 s w' hs hw')
theorem okV_tK {V : Vl} (ho : okV V) {w : Nat} (hw : w < (vlW V).length) (H p : Nat) : okV (vlKn V (tK (vlK V) H p w (wL (gw (vlW V) w)))) := okV_K ho (fun s w' hs hw' => by
  unfold tK
  split
  · exact okK_L (ho.2.2.2.1.2.1 w hw)
  · exact ho.2.2.2.2.1 s w' hs hw')
/-- cells of words and of what is known -/
def PWK (i K i' j _k : Nat) : Prop := i' = i ∧ ((K = 12 ∧ j < 12) ∨ K = 18)
theorem vlKn_W (V : Vl) (K : Nat → Nat → List Nat) : vlW (vlKn V K) = vlW V := rfl
theorem sx_tell_loop {V : Vl} {i : Nat} (ho : okV V) {w p H : Nat} (hw : w < (vlW V).length) (hn : wL (gw (vlW V) w) ≠ []) (hp : p < vlP V) (hH : H < 16) (d : Nat) : ∀ (r k v : Nat) (m : jm_M), k + r = vlP V → xV (vlKn V (hK (vlK V) H w (wL (gw (vlW V) w)) k)) i m → ∃ m', jm_ev false (d + 5) 7 1 jc_X8_tellWord 6 [.inr (.inr (.inl (10, i, 0))), .inl (nI p), .inl (nI w), .inl (nI H), .inl (nI v), .inl (nI k)] [] m = some (.inl (nI (bsW (undB V H w) r k v)), m') ∧ xV (vlSet (vlKn V (tK (vlK V) H p w (wL (gw (vlW V) w)))) (sayWs V w)) i m' ∧ fr (PWK i) m m'
  | 0, k, v, m, hr, h => by
    have h12 := ho.2.2.2.1.1
    have hp4 := ho.2.1
    have h5 : m.1 10 i 0 5 = nI (vlP V) := h.1.2.2.1
    have f := (h.2 w hw).1
    have f' : m.2 12 i w 0 = lN (enc (wL (gw (vlW V) w))) := f
    obtain ⟨m1, l1, l2, l3⟩ := sx_learn h (okV_hK ho hw H k) hp hw (wL (gw (vlW V) w)) (d + 3)
    have hv : xV (vlKn V (tK (vlK V) H p w (wL (gw (vlW V) w)))) i m1 := by
      have l2' : xV (vlKn V (kUp (hK (vlK V) H w (wL (gw (vlW V) w)) k) p w (wL (gw (vlW V) w)))) i m1 := l2
      refine xV_KK l2' (fun s' w' hs' hw' => ?_)
      show tK (vlK V) H p w (wL (gw (vlW V) w)) s' w' = kUp (hK (vlK V) H w (wL (gw (vlW V) w)) k) p w (wL (gw (vlW V) w)) s' w'
      unfold tK kUp hK
      by_cases e1 : w' = w
      · by_cases e2 : s' = p
        · rw [if_pos ⟨e1, Or.inr e2⟩, if_pos ⟨e2, e1⟩]
        · rw [if_neg (show ¬ (s' = p ∧ w' = w) from fun z => e2 z.1)]
          by_cases e3 : H.testBit s' = true
          · rw [if_pos ⟨e1, Or.inl e3⟩, if_pos ⟨e1, by omega, e3⟩]
          · rw [if_neg (fun z => z.2.elim e3 e2), if_neg (fun z => e3 z.2.2)]
      · rw [if_neg (fun z => e1 z.1), if_neg (fun z => e1 z.2), if_neg (fun z => e1 z.1)]
    obtain ⟨m2, s1, s2, s3⟩ := sx_sayWord hv (okV_tK ho hw H p) hw hn d
    refine ⟨m2, ?_, s2, (fr_jc l3 (fun _ => ⟨rfl, Or.inr rfl⟩)).tr (s3.wk (fun K i' j q z => ⟨z.2.1, Or.inl ⟨z.1, z.2.2⟩⟩))⟩
    rw [l_X8_tellWord_6]
    simp (disch := omega) only [jg_lit, jg_litL, jg_m1, jg_m1L, nI_add, lN_add, pk_mul, jg_sub, jg_subM, jg_addM, jg_addM', jg_negM, jt_in, jt_ix, jt_bi, jt_bl, jt_bv, jt_lt, jg_dT, jg_dF, jt_c, jt_cd, ru_I, ru_L, jg_leI, jg_ltI, jg_eqI, jg_M1, jg_M2, jg_M3, jg_M4, jg_M5, jg_M6, jg_ltT, jg_ltF, jg_leT, jg_leF, jg_eqT, jg_eqF, cond_true, cond_false, ne_eq, not_true_eq_false, not_false_eq_true, decide_true, decide_false, if_true, if_false, and_true, true_and, and_false, false_and, or_true, true_or, or_false, false_or, Nat.reduceEqDiff, reduceIte, Nat.reduceMul, Nat.reduceAdd, Nat.reduceSub, Nat.add_zero, Nat.zero_add, Nat.mul_zero, eq_self_iff_true, jg_not_lt, jg_not_le, h5, Bool.and_true, f', l1, s1]
    rfl
  | r + 1, k, v, m, hr, h => by
    have h12 := ho.2.2.2.1.1
    have hp4 := ho.2.1
    have hk : k < vlP V := by omega
    have h5 : m.1 10 i 0 5 = nI (vlP V) := h.1.2.2.1
    have f' : m.2 12 i w 0 = lN (enc (wL (gw (vlW V) w))) := (h.2 w hw).1
    have bt := bit_In (v := H) (c := k) (by omega) (by omega)
    rw [l_X8_tellWord_6]
    unfold bsW undB
    cases c : H.testBit k with
    | false =>
      rw [c] at bt
      obtain ⟨m', e1, e2, e3⟩ := sx_tell_loop (i := i) ho hw hn hp hH d r (k + 1) v m (by omega) (by
        refine xV_KK h (fun s' w' hs' hw' => ?_)
        show hK (vlK V) H w (wL (gw (vlW V) w)) (k + 1) s' w' = hK (vlK V) H w (wL (gw (vlW V) w)) k s' w'
        unfold hK
        by_cases e : s' = k
        · rw [if_neg (fun z => by have := z.2.2; rw [e, c] at this; cases this), if_neg (fun z => by have := z.2.2; rw [e, c] at this; cases this)]
        · have : (s' < k + 1) = (s' < k) := by rw [eq_iff_iff]; omega
          simp only [this])
      refine ⟨m', ?_, e2, e3⟩
      rw [Bool.false_and, if_neg Bool.false_ne_true]
      simp (disch := omega) only [jg_lit, jg_litL, jg_m1, jg_m1L, nI_add, lN_add, pk_mul, jg_sub, jg_subM, jg_addM, jg_addM', jg_negM, jt_in, jt_ix, jt_bi, jt_bl, jt_bv, jt_lt, jg_dT, jg_dF, jt_c, jt_cd, ru_I, ru_L, jg_leI, jg_ltI, jg_eqI, jg_M1, jg_M2, jg_M3, jg_M4, jg_M5, jg_M6, jg_ltT, jg_ltF, jg_leT, jg_leF, jg_eqT, jg_eqF, cond_true, cond_false, ne_eq, not_true_eq_false, not_false_eq_true, decide_true, decide_false, if_true, if_false, and_true, true_and, and_false, false_and, or_true, true_or, or_false, false_or, Nat.reduceEqDiff, reduceIte, Nat.reduceMul, Nat.reduceAdd, Nat.reduceSub, Nat.add_zero, Nat.zero_add, Nat.mul_zero, eq_self_iff_true, jg_not_lt, jg_not_le, h5, bt, bI_F]
      exact e1
    | true =>
      rw [c] at bt
      have un := sx_understands h (okV_hK ho hw H k) hk hw (d + 2)
      have hk0 : vlK (vlKn V (hK (vlK V) H w (wL (gw (vlW V) w)) k)) k w = vlK V k w := by
        show hK (vlK V) H w (wL (gw (vlW V) w)) k k w = _
        unfold hK
        rw [if_neg (fun z => absurd z.2.1 (Nat.lt_irrefl _))]
      rw [hk0, vlKn_W] at un
      obtain ⟨m1, l1, l2, l3⟩ := sx_learn h (okV_hK ho hw H k) hk hw (wL (gw (vlW V) w)) (d + 3)
      have hv : xV (vlKn V (hK (vlK V) H w (wL (gw (vlW V) w)) (k + 1))) i m1 := by
        have l2' : xV (vlKn V (kUp (hK (vlK V) H w (wL (gw (vlW V) w)) k) k w (wL (gw (vlW V) w)))) i m1 := l2
        refine xV_KK l2' (fun s' w' hs' hw' => ?_)
        show hK (vlK V) H w (wL (gw (vlW V) w)) (k + 1) s' w' = kUp (hK (vlK V) H w (wL (gw (vlW V) w)) k) k w (wL (gw (vlW V) w)) s' w'
        unfold kUp hK
        by_cases e : s' = k
        · by_cases e1 : w' = w
          · rw [if_pos ⟨e1, by omega, by rw [e]; exact c⟩, if_pos ⟨e, e1⟩]
          · rw [if_neg (fun z => e1 z.1), if_neg (fun z => e1 z.2), if_neg (fun z => e1 z.1)]
        · rw [if_neg (show ¬ (s' = k ∧ w' = w) from fun z => e z.1)]
          have : (s' < k + 1) = (s' < k) := by rw [eq_iff_iff]; omega
          simp only [this]
      rcases nearB_01 (vlK V k w) (wL (gw (vlW V) w)) with e | e
      · obtain ⟨m', e1, e2, e3⟩ := sx_tell_loop (i := i) ho hw hn hp hH d r (k + 1) v m1 (by omega) hv
        refine ⟨m', ?_, e2, (fr_jc l3 (fun _ => ⟨rfl, Or.inr rfl⟩)).tr e3⟩
        rw [e] at un ⊢
        rw [show (true && decide (nI 0 = 1)) = false from by decide, if_neg Bool.false_ne_true]
        simp (disch := omega) only [jg_lit, jg_litL, jg_m1, jg_m1L, nI_add, lN_add, pk_mul, jg_sub, jg_subM, jg_addM, jg_addM', jg_negM, jt_in, jt_ix, jt_bi, jt_bl, jt_bv, jt_lt, jg_dT, jg_dF, jt_c, jt_cd, ru_I, ru_L, jg_leI, jg_ltI, jg_eqI, jg_M1, jg_M2, jg_M3, jg_M4, jg_M5, jg_M6, jg_ltT, jg_ltF, jg_leT, jg_leF, jg_eqT, jg_eqF, cond_true, cond_false, ne_eq, not_true_eq_false, not_false_eq_true, decide_true, decide_false, if_true, if_false, and_true, true_and, and_false, false_and, or_true, true_or, or_false, false_or, Nat.reduceEqDiff, reduceIte, Nat.reduceMul, Nat.reduceAdd, Nat.reduceSub, Nat.add_zero, Nat.zero_add, Nat.mul_zero, eq_self_iff_true, jg_not_lt, jg_not_le, h5, bt, bI_T, un, Bool.and_true, f', l1, or0]
        exact e1
      · obtain ⟨m', e1, e2, e3⟩ := sx_tell_loop (i := i) ho hw hn hp hH d r (k + 1) (v ||| 2 ^ k) m1 (by omega) hv
        refine ⟨m', ?_, e2, (fr_jc l3 (fun _ => ⟨rfl, Or.inr rfl⟩)).tr e3⟩
        rw [e] at un ⊢
        rw [show (true && decide (nI 1 = 1)) = true from by decide, if_pos rfl]
        simp (disch := omega) only [jg_lit, jg_litL, jg_m1, jg_m1L, nI_add, lN_add, pk_mul, jg_sub, jg_subM, jg_addM, jg_addM', jg_negM, jt_in, jt_ix, jt_bi, jt_bl, jt_bv, jt_lt, jg_dT, jg_dF, jt_c, jt_cd, ru_I, ru_L, jg_leI, jg_ltI, jg_eqI, jg_M1, jg_M2, jg_M3, jg_M4, jg_M5, jg_M6, jg_ltT, jg_ltF, jg_leT, jg_leF, jg_eqT, jg_eqF, cond_true, cond_false, ne_eq, not_true_eq_false, not_false_eq_true, decide_true, decide_false, if_true, if_false, and_true, true_and, and_false, false_and, or_true, true_or, or_false, false_or, Nat.reduceEqDiff, reduceIte, Nat.reduceMul, Nat.reduceAdd, Nat.reduceSub, Nat.add_zero, Nat.zero_add, Nat.mul_zero, eq_self_iff_true, jg_not_lt, jg_not_le, h5, bt, bI_T, un, Bool.and_true, f', l1, shl_n, fb_orI]
        exact e1
/-- who understands, and the village behind it -/
def telN (V : Vl) (H w : Nat) : Nat := bsW (undB V H w) (vlP V) 0 0
def telV (V : Vl) (H p w : Nat) : Vl := vlSet (vlKn V (tK (vlK V) H p w (wL (gw (vlW V) w)))) (sayWs V w)
theorem okV_tel {V : Vl} (ho : okV V) {w : Nat} (hw : w < (vlW V).length) (hn : wL (gw (vlW V) w) ≠ []) (H p : Nat) : okV (telV V H p w) := okV_say (okV_tK ho hw H p) hw hn
theorem telN_lt {V : Vl} (ho : okV V) (H w : Nat) : telN V H w < 4096 := bsW_lt _ (by have := ho.2.1; omega)
theorem sx_tellWord {V : Vl} {i : Nat} (ho : okV V) {w p H : Nat} (hw : w < (vlW V).length) (hn : wL (gw (vlW V) w) ≠ []) (hp : p < vlP V) (hH : H < 16) {m : jm_M} (h : xV V i m) (d : Nat) : ∃ m', jm_sem false (d + 6) jn_X8_tellWord [.inr (.inr (.inl (10, i, 0))), .inl (nI p), .inl (nI w), .inl (nI H)] m = some (.inl (nI (telN V H w)), m') ∧ xV (telV V H p w) i m' ∧ fr (PWK i) m m' := by
  rw [e_X8_tellWord]
  refine sx_tell_loop ho hw hn hp hH d (vlP V) 0 0 m (by omega) (xV_K h (fun s' w' _ _ => ?_))
  unfold hK
  rw [if_neg (fun z => absurd z.2.1 (Nat.not_lt_zero _))]
/-! ===== in the reference ===== -/
def PTl (s l _w K _i _j k : Nat) : Prop := PS s K 0 0 k ∨ (K = 42 ∧ l ≤ k ∧ k < l + 48) ∨ (K = 40 ∧ k = 28)
/-- who heard, or says it -/
def hK2 (K : Nat → Nat → List Nat) (H p w : Nat) (ls : List Nat) (k : Nat) : Nat → Nat → List Nat := fun s' w' => if w' = w ∧ s' < k ∧ (H.testBit s' = true ∨ s' = p) then ls else K s' w'
theorem sm_tell_loop {V : Vl} {s l : Nat} (hs : s = 0 ∨ 770 ≤ s) (hs2 : s + 490 ≤ 8600) (hl : l + 48 ≤ 720) (ho : okV V) {w p H : Nat} (hw : w < (vlW V).length) (hn : wL (gw (vlW V) w) ≠ []) (hp : p < vlP V) (hH : H < 16) (d : Nat) : ∀ (r k v : Nat) (z10 : jm_V) (m : jm_M), k + r = vlP V → mV V s m → mS (vlS V) m → mL (vlR V) m → mN (vlKn V (hK2 (vlK V) H p w (wL (gw (vlW V) w)) k)) l m → ∃ m', jm_ev false (d + 6) 11 1 jc_X12_tells 15 [vM, .inl (nI s), .inl (nI l), .inl (nI p), .inl (nI w), .inl (nI H), .inr (.inl (lN (enc (wL (gw (vlW V) w))))), jm_j, .inl (nI v), .inl (nI k), z10] [] m = some (.inl (nI (bsW (undB V H w) r k v)), m') ∧ mV (vlSet V (sayWs V w)) s m' ∧ mN (vlKn V (tK (vlK V) H p w (wL (gw (vlW V) w)))) l m' ∧ fr (PTl s l w) m m'
  | 0, k, v, z10, m, hr, h, hS, hL, hN => by
    have h12 := ho.2.2.2.1.1
    have hp4 := ho.2.1
    have h2 : m.1 41 0 0 (s + 2) = nI (vlP V) := h.2.2.1
    obtain ⟨m1, e1, v1, f1⟩ := sm_says h hs2 ho hS hL hw hn d
    have hV := okV_say ho hw hn
    refine ⟨jm_sI m1 40 0 0 28 (nI (sayN V w)), ?_, mV_k v1 hV.2.2.2.1 (fun q => by rw [rd_II, if_neg (by omega)]), fun s' w' hs' hw' => ?_, fr_sI (f1.wk (fun K i j q z => Or.inl z)) (Or.inr (Or.inr ⟨rfl, rfl⟩))⟩
    · rw [l_X12_tells_15]
      simp (disch := omega) only [jg_lit, jg_litL, jg_m1, jg_m1L, nI_add, lN_add, pk_mul, jg_sub, jg_subM, jg_addM, jg_addM', jg_negM, jt_in, jt_ix, jt_bi, jt_bl, jt_bv, jt_lt, jg_dT, jg_dF, jt_c, jt_cd, ru_I, ru_L, jg_leI, jg_ltI, jg_eqI, jg_M1, jg_M2, jg_M3, jg_M4, jg_M5, jg_M6, jg_ltT, jg_ltF, jg_leT, jg_leF, jg_eqT, jg_eqF, cond_true, cond_false, ne_eq, not_true_eq_false, not_false_eq_true, decide_true, decide_false, if_true, if_false, and_true, true_and, and_false, false_and, or_true, true_or, or_false, false_or, Nat.reduceEqDiff, reduceIte, Nat.reduceMul, Nat.reduceAdd, Nat.reduceSub, Nat.add_zero, Nat.zero_add, Nat.mul_zero, eq_self_iff_true, jg_not_lt, jg_not_le, h2, e1]
      rfl
    · have hs' : s' < vlP V := hs'
      have hw' : w' < (vlW V).length := hw'
      have := hN s' w' hs' hw'
      show m1.2 42 0 0 (l + 12 * s' + w') = lN (enc (tK (vlK V) H p w (wL (gw (vlW V) w)) s' w'))
      rw [(f1 42 0 0 _ (by unfold PS; omega)).2, this]
      show lN (enc (hK2 (vlK V) H p w (wL (gw (vlW V) w)) k s' w')) = _
      unfold hK2 tK
      have e : (w' = w ∧ s' < k ∧ (H.testBit s' = true ∨ s' = p)) = (w' = w ∧ (H.testBit s' = true ∨ s' = p)) := by
        rw [eq_iff_iff]
        exact ⟨fun z => ⟨z.1, z.2.2⟩, fun z => ⟨z.1, by omega, z.2⟩⟩
      simp only [e]
  | r + 1, k, v, z10, m, hr, h, hS, hL, hN => by
    have h12 := ho.2.2.2.1.1
    have hp4 := ho.2.1
    have hk : k < vlP V := by omega
    have h2 : m.1 41 0 0 (s + 2) = nI (vlP V) := h.2.2.1
    have bt := bit_In (v := H) (c := k) (by omega) (by omega)
    have cell := hN k w hk hw
    have hk0 : vlK (vlKn V (hK2 (vlK V) H p w (wL (gw (vlW V) w)) k)) k w = vlK V k w := by
      show hK2 (vlK V) H p w (wL (gw (vlW V) w)) k k w = _
      unfold hK2
      rw [if_neg (fun z => absurd z.2.1 (Nat.lt_irrefl _))]
    rw [hk0] at cell
    have okk := ho.2.2.2.2.1 k w hk hw
    have okw := ho.2.2.2.1.2.1 w hw
    have an := sm_areNear okk.1 okw.1.1 okk.2 (okW_8 okw.1) (d + 5) m
    have upd : mN (vlKn V (hK2 (vlK V) H p w (wL (gw (vlW V) w)) (k + 1))) l (jm_sL m 42 0 0 (l + 12 * k + w) (lN (enc (wL (gw (vlW V) w))))) ∨ ¬ (H.testBit k = true ∨ k = p) := by
      by_cases c : H.testBit k = true ∨ k = p
      · refine Or.inl (fun s' w' hs' hw' => ?_)
        have hw' : w' < (vlW V).length := hw'
        rw [rd_LL]
        show _ = lN (enc (hK2 (vlK V) H p w (wL (gw (vlW V) w)) (k + 1) s' w'))
        unfold hK2
        by_cases e : s' = k ∧ w' = w
        · rw [if_pos ⟨rfl, rfl, rfl, by rw [e.1, e.2]⟩, if_pos ⟨e.2, by omega, by rw [e.1]; exact c⟩]
        · rw [if_neg (fun z => by omega)]
          have := hN s' w' hs' hw'
          rw [this]
          show lN (enc (hK2 (vlK V) H p w (wL (gw (vlW V) w)) k s' w')) = _
          unfold hK2
          by_cases e1 : s' = k
          · rw [if_neg (fun z => by omega), if_neg (fun z => e ⟨e1, z.1⟩)]
          · have : (s' < k + 1) = (s' < k) := by rw [eq_iff_iff]; omega
            simp only [this]
      · exact Or.inr c
    have keep : ¬ (H.testBit k = true ∨ k = p) → mN (vlKn V (hK2 (vlK V) H p w (wL (gw (vlW V) w)) (k + 1))) l m := fun c => by
      refine mN_KK hN (fun s' w' hs' hw' => ?_)
      show hK2 (vlK V) H p w (wL (gw (vlW V) w)) (k + 1) s' w' = hK2 (vlK V) H p w (wL (gw (vlW V) w)) k s' w'
      unfold hK2
      by_cases e : s' = k
      · rw [if_neg (fun z => c (by rw [← e]; exact z.2.2)), if_neg (fun z => by omega)]
      · have : (s' < k + 1) = (s' < k) := by rw [eq_iff_iff]; omega
        simp only [this]
    have fL : fr (PTl s l w) m (jm_sL m 42 0 0 (l + 12 * k + w) (lN (enc (wL (gw (vlW V) w))))) := fr_L (Or.inr (Or.inl ⟨rfl, by omega, by omega⟩))
    rw [l_X12_tells_15]
    unfold bsW undB
    cases c : H.testBit k with
    | false =>
      rw [c] at bt
      rw [Bool.false_and, if_neg Bool.false_ne_true]
      by_cases cp : k = p
      · have u := upd.resolve_right (fun z => z (Or.inr cp))
        obtain ⟨m', e1, e2, e3, e4⟩ := sm_tell_loop hs hs2 hl ho hw hn hp hH d r (k + 1) v (.inl (nI (l + 12 * k + w))) (jm_sL m 42 0 0 (l + 12 * k + w) (lN (enc (wL (gw (vlW V) w))))) (by omega) (mV_k h ho.2.2.2.1 (fun q => rfl)) hS (mL_k hL (fun q => rfl)) u
        refine ⟨m', ?_, e2, e3, fL.tr e4⟩
        simp (disch := omega) only [jg_lit, jg_litL, jg_m1, jg_m1L, nI_add, lN_add, pk_mul, jg_sub, jg_subM, jg_addM, jg_addM', jg_negM, jt_in, jt_ix, jt_bi, jt_bl, jt_bv, jt_lt, jg_dT, jg_dF, jt_c, jt_cd, ru_I, ru_L, jg_leI, jg_ltI, jg_eqI, jg_M1, jg_M2, jg_M3, jg_M4, jg_M5, jg_M6, jg_ltT, jg_ltF, jg_leT, jg_leF, jg_eqT, jg_eqF, cond_true, cond_false, ne_eq, not_true_eq_false, not_false_eq_true, decide_true, decide_false, if_true, if_false, and_true, true_and, and_false, false_and, or_true, true_or, or_false, false_or, Nat.reduceEqDiff, reduceIte, Nat.reduceMul, Nat.reduceAdd, Nat.reduceSub, Nat.add_zero, Nat.zero_add, Nat.mul_zero, eq_self_iff_true, jg_not_lt, jg_not_le, h2, bt, bI_F]
        exact e1
      · have u := keep (fun z => z.elim (fun z => by rw [c] at z; cases z) cp)
        obtain ⟨m', e1, e2, e3, e4⟩ := sm_tell_loop hs hs2 hl ho hw hn hp hH d r (k + 1) v (.inl (nI (l + 12 * k + w))) m (by omega) h hS hL u
        refine ⟨m', ?_, e2, e3, e4⟩
        simp (disch := omega) only [jg_lit, jg_litL, jg_m1, jg_m1L, nI_add, lN_add, pk_mul, jg_sub, jg_subM, jg_addM, jg_addM', jg_negM, jt_in, jt_ix, jt_bi, jt_bl, jt_bv, jt_lt, jg_dT, jg_dF, jt_c, jt_cd, ru_I, ru_L, jg_leI, jg_ltI, jg_eqI, jg_M1, jg_M2, jg_M3, jg_M4, jg_M5, jg_M6, jg_ltT, jg_ltF, jg_leT, jg_leF, jg_eqT, jg_eqF, cond_true, cond_false, ne_eq, not_true_eq_false, not_false_eq_true, decide_true, decide_false, if_true, if_false, and_true, true_and, and_false, false_and, or_true, true_or, or_false, false_or, Nat.reduceEqDiff, reduceIte, Nat.reduceMul, Nat.reduceAdd, Nat.reduceSub, Nat.add_zero, Nat.zero_add, Nat.mul_zero, eq_self_iff_true, jg_not_lt, jg_not_le, h2, bt, bI_F]
        exact e1
    | true =>
      rw [c] at bt
      have u := upd.resolve_right (fun z => z (Or.inl c))
      rcases nearB_01 (vlK V k w) (wL (gw (vlW V) w)) with e | e
      · obtain ⟨m', e1, e2, e3, e4⟩ := sm_tell_loop hs hs2 hl ho hw hn hp hH d r (k + 1) v (.inl (nI (l + 12 * k + w))) (jm_sL m 42 0 0 (l + 12 * k + w) (lN (enc (wL (gw (vlW V) w))))) (by omega) (mV_k h ho.2.2.2.1 (fun q => rfl)) hS (mL_k hL (fun q => rfl)) u
        refine ⟨m', ?_, e2, e3, fL.tr e4⟩
        rw [e] at an ⊢
        rw [show (true && decide (nI 0 = 1)) = false from by decide, if_neg Bool.false_ne_true]
        simp (disch := omega) only [jg_lit, jg_litL, jg_m1, jg_m1L, nI_add, lN_add, pk_mul, jg_sub, jg_subM, jg_addM, jg_addM', jg_negM, jt_in, jt_ix, jt_bi, jt_bl, jt_bv, jt_lt, jg_dT, jg_dF, jt_c, jt_cd, ru_I, ru_L, jg_leI, jg_ltI, jg_eqI, jg_M1, jg_M2, jg_M3, jg_M4, jg_M5, jg_M6, jg_ltT, jg_ltF, jg_leT, jg_leF, jg_eqT, jg_eqF, cond_true, cond_false, ne_eq, not_true_eq_false, not_false_eq_true, decide_true, decide_false, if_true, if_false, and_true, true_and, and_false, false_and, or_true, true_or, or_false, false_or, Nat.reduceEqDiff, reduceIte, Nat.reduceMul, Nat.reduceAdd, Nat.reduceSub, Nat.add_zero, Nat.zero_add, Nat.mul_zero, eq_self_iff_true, jg_not_lt, jg_not_le, h2, bt, bI_T, cell, an]
        exact e1
      · obtain ⟨m', e1, e2, e3, e4⟩ := sm_tell_loop hs hs2 hl ho hw hn hp hH d r (k + 1) (v ||| 2 ^ k) (.inl (nI (l + 12 * k + w))) (jm_sL m 42 0 0 (l + 12 * k + w) (lN (enc (wL (gw (vlW V) w))))) (by omega) (mV_k h ho.2.2.2.1 (fun q => rfl)) hS (mL_k hL (fun q => rfl)) u
        refine ⟨m', ?_, e2, e3, fL.tr e4⟩
        rw [e] at an ⊢
        rw [show (true && decide (nI 1 = 1)) = true from by decide, if_pos rfl]
        simp (disch := omega) only [jg_lit, jg_litL, jg_m1, jg_m1L, nI_add, lN_add, pk_mul, jg_sub, jg_subM, jg_addM, jg_addM', jg_negM, jt_in, jt_ix, jt_bi, jt_bl, jt_bv, jt_lt, jg_dT, jg_dF, jt_c, jt_cd, ru_I, ru_L, jg_leI, jg_ltI, jg_eqI, jg_M1, jg_M2, jg_M3, jg_M4, jg_M5, jg_M6, jg_ltT, jg_ltF, jg_leT, jg_leF, jg_eqT, jg_eqF, cond_true, cond_false, ne_eq, not_true_eq_false, not_false_eq_true, decide_true, decide_false, if_true, if_false, and_true, true_and, and_false, false_and, or_true, true_or, or_false, false_or, Nat.reduceEqDiff, reduceIte, Nat.reduceMul, Nat.reduceAdd, Nat.reduceSub, Nat.add_zero, Nat.zero_add, Nat.mul_zero, eq_self_iff_true, jg_not_lt, jg_not_le, h2, bt, bI_T, cell, an, shl_n, fb_orI]
        exact e1
theorem sm_tells {V : Vl} {s l : Nat} (hs : s = 0 ∨ 770 ≤ s) (hs2 : s + 490 ≤ 8600) (hl : l + 48 ≤ 720) (ho : okV V) {w p H : Nat} (hw : w < (vlW V).length) (hn : wL (gw (vlW V) w) ≠ []) (hp : p < vlP V) (hH : H < 16) {m : jm_M} (h : mV V s m) (hS : mS (vlS V) m) (hL : mL (vlR V) m) (hN : mN V l m) (d : Nat) : ∃ m', jm_sem false (d + 7) jn_X12_tells [vM, .inl (nI s), .inl (nI l), .inl (nI p), .inl (nI w), .inl (nI H)] m = some (.inl (nI (telN V H w)), m') ∧ mV (telV V H p w) s m' ∧ mN (telV V H p w) l m' ∧ fr (PTl s l w) m m' := by
  have h12 := ho.2.2.2.1.1
  have okw := ho.2.2.2.1.2.1 w hw
  obtain ⟨m1, f1, f2, f3⟩ := sm_formOf (s := s) (w := w) okw.1.1 (h.2.2.2.2 w hw).1 (by omega) (d + 4)
  have k1 := PMh_41 f3
  have v1 := mV_k h ho.2.2.2.1 k1
  have L1 := mL_k hL k1
  have S1 : mS (vlS V) m1 := fun c h1 h2 => by rw [k1]; exact hS c h1 h2
  have N1 : mN (vlKn V (hK2 (vlK V) H p w (wL (gw (vlW V) w)) 0)) l m1 := by
    refine mN_K (V := V) (fun s' w' hs' hw' => by rw [(f3 42 _ (by unfold PM_h; omega) 0 0).2]; exact hN s' w' hs' hw') (fun s' w' _ _ => ?_)
    unfold hK2
    rw [if_neg (fun z => absurd z.2.1 (Nat.not_lt_zero _))]
  obtain ⟨m2, e1, e2, e3, e4⟩ := sm_tell_loop hs hs2 hl ho hw hn hp hH d (vlP V) 0 0 jm_j m1 (by omega) v1 S1 L1 N1
  refine ⟨m2, ?_, e2, fun s' w' hs' hw' => ?_, (fr_jk f3 (fun K i j k z => Or.inl (z.elim (fun z => Or.inr (Or.inl z)) (fun z => Or.inr (Or.inr (Or.inl z)))))).tr e4⟩
  · rw [e_X12_tells]
    simp (disch := omega) only [jg_lit, jg_litL, jg_m1, jg_m1L, nI_add, lN_add, pk_mul, jg_sub, jg_subM, jg_addM, jg_addM', jg_negM, jt_in, jt_ix, jt_bi, jt_bl, jt_bv, jt_lt, jg_dT, jg_dF, jt_c, jt_cd, ru_I, ru_L, jg_leI, jg_ltI, jg_eqI, jg_M1, jg_M2, jg_M3, jg_M4, jg_M5, jg_M6, jg_ltT, jg_ltF, jg_leT, jg_leF, jg_eqT, jg_eqF, cond_true, cond_false, ne_eq, not_true_eq_false, not_false_eq_true, decide_true, decide_false, if_true, if_false, and_true, true_and, and_false, false_and, or_true, true_or, or_false, false_or, Nat.reduceEqDiff, reduceIte, Nat.reduceMul, Nat.reduceAdd, Nat.reduceSub, Nat.add_zero, Nat.zero_add, Nat.mul_zero, eq_self_iff_true, jg_not_lt, jg_not_le, f1]
    exact e1
  · have hw' : w' < (sayWs V w).length := hw'
    rw [sayWs_len] at hw'
    exact e3 s' w' hs' hw'
