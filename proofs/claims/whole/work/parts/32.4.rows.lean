/-! ===== ways, how far (class) ===== -/
theorem drop_c {gs t : List Nat} {p g : Nat} (h : gs.drop p = g :: t) : p < gs.length ∧ gs.getD p 0 = g ∧ gs.drop (p + 1) = t ∧ gs.length = p + 1 + t.length := by
  have hl : (gs.drop p).length = t.length + 1 := by rw [h]; rfl
  rw [List.length_drop] at hl
  have hp : p < gs.length := by omega
  have e := List.drop_eq_getElem_cons hp
  rw [h] at e
  have e1 := List.cons.inj e
  refine ⟨hp, ?_, e1.2.symm, by omega⟩
  simp only [List.getD, List.getElem?_eq_getElem hp, Option.getD_some]
  exact e1.1.symm
theorem xRow_fr {gs : List Nat} {P : Nat → Nat → Nat → Nat → Prop} {m m' : jm_M} (h : xRow gs m) (f : fr P m m') (h1 : ¬ P 22 0 0 10) (h2 : ∀ k, ¬ P 24 0 0 k) : xRow gs m' := ⟨by rw [(f 22 0 0 10 h1).1]; exact h.1, fun q hq => by rw [(f 24 0 0 q (h2 q)).1]; exact h.2 q hq⟩
theorem xRow_p {gs : List Nat} {p : Nat} {m m' : jm_M} (h : xRow gs m) (f : fr (PSp p) m m') : xRow gs m' := xRow_fr h f (fun z => by unfold PSp at z; omega) (fun k z => by unfold PSp at z; omega)
theorem fr29_p {p : Nat} {m m' : jm_M} (f : fr (fun K _ _ _ => K = 29) m m') : fr (PSp p) m m' := f.wk (fun K i j k z => by unfold PSp; omega)
def okG (gs : List Nat) : Prop := gs.length ≤ 5 ∧ ∀ k, k < gs.length → gs.getD k 0 < 12
theorem sx_rows_loop {gs t : List Nat} {p g D : Nat} (hg : okG gs) (hd : gs.drop p = g :: t) (H : ∀ (W : Vl) (m : jm_M), okV W → xV W 0 m → cP W m → xRow gs m → ∃ m', jm_sem false (D + 5) jn_X5_rowsFrom [.inr (.inr (.inl (22, 0, 0))), .inr (.inr (.inl (10, 0, 0))), .inl (nI (p + 1))] m = some (.inl (nI (rowsN t W)), m') ∧ xV W 0 m' ∧ cP W m' ∧ fr (PSp (p + 1)) m m') {V : Vl} (ho : okV V) : ∀ (r k v : Nat) (m : jm_M), k + r = 12 → xV V 0 m → cP V m → xRow gs m → ∃ m', jm_ev false (D + 5) 4 1 jc_X5_rowsFrom 46 [.inr (.inr (.inl (22, 0, 0))), .inr (.inr (.inl (10, 0, 0))), .inl (nI p), .inl (nI (wWith (vlW V) g)), .inl (nI v), .inl (nI k)] [] m = some (.inl (nI (v + rowsK (rowsN t) V g r k)), m') ∧ xV V 0 m' ∧ cP V m' ∧ fr (PSp p) m m'
  | 0, k, v, m, hr, h, hc, hw => by
    have h12 := ho.2.2.2.1.1
    have h4 := h.1.2.1
    refine ⟨m, ?_, h, hc, .rf⟩
    rw [l_X5_rowsFrom_46]
    unfold rowsK
    simp (disch := omega) only [jg_lit, jg_litL, jg_m1, jg_m1L, nI_add, lN_add, pk_mul, jg_sub, jg_subM, jg_addM, jg_addM', jg_negM, jt_in, jt_ix, jt_bi, jt_bl, jt_bv, jt_lt, jg_dT, jg_dF, jt_c, jt_cd, ru_I, ru_L, jg_leI, jg_ltI, jg_eqI, jg_M1, jg_M2, jg_M3, jg_M4, jg_M5, jg_M6, jg_ltT, jg_ltF, jg_leT, jg_leF, jg_eqT, jg_eqF, cond_true, cond_false, ne_eq, not_true_eq_false, not_false_eq_true, decide_true, decide_false, if_true, if_false, and_true, true_and, and_false, false_and, or_true, true_or, or_false, false_or, Nat.reduceEqDiff, reduceIte, Nat.reduceMul, Nat.reduceAdd, Nat.reduceSub, Nat.add_zero, Nat.zero_add, Nat.mul_zero, eq_self_iff_true, jg_not_lt, jg_not_le, h4]
  | r + 1, k, v, m, hr, h, hc, hw => by
    have h12 := ho.2.2.2.1.1
    have h4 := h.1.2.1
    have h5 := hg.1
    obtain ⟨hp, -, -, hl⟩ := drop_c hd
    by_cases ck : (vlW V).length ≤ k
    · refine ⟨m, ?_, h, hc, .rf⟩
      rw [l_X5_rowsFrom_46, rowsK_out (r + 1) k ck]
      simp (disch := omega) only [jg_lit, jg_litL, jg_m1, jg_m1L, nI_add, lN_add, pk_mul, jg_sub, jg_subM, jg_addM, jg_addM', jg_negM, jt_in, jt_ix, jt_bi, jt_bl, jt_bv, jt_lt, jg_dT, jg_dF, jt_c, jt_cd, ru_I, ru_L, jg_leI, jg_ltI, jg_eqI, jg_M1, jg_M2, jg_M3, jg_M4, jg_M5, jg_M6, jg_ltT, jg_ltF, jg_leT, jg_leF, jg_eqT, jg_eqF, cond_true, cond_false, ne_eq, not_true_eq_false, not_false_eq_true, decide_true, decide_false, if_true, if_false, and_true, true_and, and_false, false_and, or_true, true_or, or_false, false_or, Nat.reduceEqDiff, reduceIte, Nat.reduceMul, Nat.reduceAdd, Nat.reduceSub, Nat.add_zero, Nat.zero_add, Nat.mul_zero, eq_self_iff_true, jg_not_lt, jg_not_le, h4]
    · have hk : k < (vlW V).length := by omega
      have hw4 := wWith_lt h12 g
      have hbt := bit_In (v := wWith (vlW V) g) (c := k) (by omega) (by omega)
      rw [wWith_bit] at hbt
      unfold rowsK
      cases c : hasB (vlW V) g k with
      | false =>
        rw [c, bI_F] at hbt
        obtain ⟨m', e1, e2, e3, e4⟩ := sx_rows_loop hg hd H ho r (k + 1) v m (by omega) h hc hw
        refine ⟨m', ?_, e2, e3, e4⟩
        rw [l_X5_rowsFrom_46]
        simp (disch := omega) only [jg_lit, jg_litL, jg_m1, jg_m1L, nI_add, lN_add, pk_mul, jg_sub, jg_subM, jg_addM, jg_addM', jg_negM, jt_in, jt_ix, jt_bi, jt_bl, jt_bv, jt_lt, jg_dT, jg_dF, jt_c, jt_cd, ru_I, ru_L, jg_leI, jg_ltI, jg_eqI, jg_M1, jg_M2, jg_M3, jg_M4, jg_M5, jg_M6, jg_ltT, jg_ltF, jg_leT, jg_leF, jg_eqT, jg_eqF, cond_true, cond_false, ne_eq, not_true_eq_false, not_false_eq_true, decide_true, decide_false, if_true, if_false, and_true, true_and, and_false, false_and, or_true, true_or, or_false, false_or, Nat.reduceEqDiff, reduceIte, Nat.reduceMul, Nat.reduceAdd, Nat.reduceSub, Nat.add_zero, Nat.zero_add, Nat.mul_zero, eq_self_iff_true, jg_not_lt, jg_not_le, h4, hbt, Bool.false_eq_true]
        exact e1
      | true =>
        rw [c, bI_T] at hbt
        have hn := hasB_live (ho.2.2.2.1.2.1 k hk) c
        obtain ⟨m1, a1, a2, a3, a4⟩ := sx_place5 h ho hc hk hn D
        obtain ⟨m2, b1, b2, b3, b4, b5⟩ := sx_step a2 ho a3 (p := p) (by omega) hk hn (D + 1)
        have r2 := xRow_p (xRow_p hw (fr29_p (p := p) a4)) b5
        obtain ⟨m3, i1, i2, i3, i4⟩ := H (sayV V k) m2 (okV_say ho hk hn) b2 b3 r2
        obtain ⟨m4, d1, d2, d3, d4⟩ := sx_stepBack i2 ho (sv_fr b4 i4) i3 (show p < 5 by omega) hk (D + 3)
        have f4 : fr (PSp p) m m4 := (((fr29_p a4).tr b5).tr (PSp_up (by omega) i4)).tr d4
        obtain ⟨m', e1, e2, e3, e4⟩ := sx_rows_loop hg hd H ho r (k + 1) (v + rowsN t (sayV V k)) m4 (by omega) d2 d3 (xRow_p hw f4)
        refine ⟨m', ?_, e2, e3, f4.tr e4⟩
        rw [l_X5_rowsFrom_46]
        simp (disch := omega) only [jg_lit, jg_litL, jg_m1, jg_m1L, nI_add, lN_add, pk_mul, jg_sub, jg_subM, jg_addM, jg_addM', jg_negM, jt_in, jt_ix, jt_bi, jt_bl, jt_bv, jt_lt, jg_dT, jg_dF, jt_c, jt_cd, ru_I, ru_L, jg_leI, jg_ltI, jg_eqI, jg_M1, jg_M2, jg_M3, jg_M4, jg_M5, jg_M6, jg_ltT, jg_ltF, jg_leT, jg_leF, jg_eqT, jg_eqF, cond_true, cond_false, ne_eq, not_true_eq_false, not_false_eq_true, decide_true, decide_false, if_true, if_false, and_true, true_and, and_false, false_and, or_true, true_or, or_false, false_or, Nat.reduceEqDiff, reduceIte, Nat.reduceMul, Nat.reduceAdd, Nat.reduceSub, Nat.add_zero, Nat.zero_add, Nat.mul_zero, eq_self_iff_true, jg_not_lt, jg_not_le, h4, hbt, a1, b1, i1, d1]
        rw [e1, Nat.add_assoc]
theorem sx_rowsFrom {gs : List Nat} (hg : okG gs) (d : Nat) : ∀ (t : List Nat) (g p : Nat) (V : Vl) (m : jm_M), gs.drop p = g :: t → okV V → xV V 0 m → cP V m → xRow gs m → ∃ m', jm_sem false (d + 6 + t.length) jn_X5_rowsFrom [.inr (.inr (.inl (22, 0, 0))), .inr (.inr (.inl (10, 0, 0))), .inl (nI p)] m = some (.inl (nI (rowsN (g :: t) V)), m') ∧ xV V 0 m' ∧ cP V m' ∧ fr (PSp p) m m'
  | [], g, p, V, m, hd, ho, h, hc, hw => by
    obtain ⟨hp, hge, -, hl⟩ := drop_c hd
    have h5 := hg.1
    have hl : gs.length = p + 1 := hl
    have hgl := hg.2 p hp
    rw [hge] at hgl
    have w1 := hw.1
    have w2 := hw.2 p hp
    rw [hge] at w2
    rw [hl] at w1
    have ww := sx_wordsWith h ho.2.2.2.1 (g := g) (by omega) (d + 3)
    refine ⟨m, ?_, h, hc, .rf⟩
    have bc := s_bitCount (d + 4) (nI (wWith (vlW V) g)) m
    rw [bc_pop _ (wWith_lt ho.2.2.2.1.1 g), ← rows_popc] at bc
    show jm_sem false (d + 6) _ _ _ = _
    rw [e_X5_rowsFrom]
    simp (disch := omega) only [jg_lit, jg_litL, jg_m1, jg_m1L, nI_add, lN_add, pk_mul, jg_sub, jg_subM, jg_addM, jg_addM', jg_negM, jt_in, jt_ix, jt_bi, jt_bl, jt_bv, jt_lt, jg_dT, jg_dF, jt_c, jt_cd, ru_I, ru_L, jg_leI, jg_ltI, jg_eqI, jg_M1, jg_M2, jg_M3, jg_M4, jg_M5, jg_M6, jg_ltT, jg_ltF, jg_leT, jg_leF, jg_eqT, jg_eqF, cond_true, cond_false, ne_eq, not_true_eq_false, not_false_eq_true, decide_true, decide_false, if_true, if_false, and_true, true_and, and_false, false_and, or_true, true_or, or_false, false_or, Nat.reduceEqDiff, reduceIte, Nat.reduceMul, Nat.reduceAdd, Nat.reduceSub, Nat.add_zero, Nat.zero_add, Nat.mul_zero, eq_self_iff_true, jg_not_lt, jg_not_le, w1, w2, ww, Nat.add_sub_cancel, bc]
  | g2 :: t, g, p, V, m, hd, ho, h, hc, hw => by
    obtain ⟨hp, hge, hd2, hl⟩ := drop_c hd
    have hl : gs.length = p + 1 + (t.length + 1) := hl
    have h5 := hg.1
    have hgl := hg.2 p hp
    rw [hge] at hgl
    have w1 := hw.1
    have w2 := hw.2 p hp
    rw [hge] at w2
    have ww := sx_wordsWith h ho.2.2.2.1 (g := g) (by omega) (d + 4 + t.length)
    obtain ⟨m', e1, e2, e3, e4⟩ := sx_rows_loop (D := d + 1 + t.length) hg hd (fun W m oW xW' cW rW => by
      have := sx_rowsFrom hg d t g2 (p + 1) W m hd2 oW xW' cW rW
      rw [show d + 6 + t.length = d + 1 + t.length + 5 by omega] at this
      exact this) ho 12 0 0 m rfl h hc hw
    refine ⟨m', ?_, e2, e3, e4⟩
    rw [show d + 4 + t.length + 2 = d + 1 + t.length + 5 by omega] at ww
    rw [show d + 6 + (g2 :: t).length = d + 1 + t.length + 5 + 1 by rw [List.length_cons]; omega, e_X5_rowsFrom]
    rw [Nat.zero_add] at e1
    simp (disch := omega) only [jg_lit, jg_litL, jg_m1, jg_m1L, nI_add, lN_add, pk_mul, jg_sub, jg_subM, jg_addM, jg_addM', jg_negM, jt_in, jt_ix, jt_bi, jt_bl, jt_bv, jt_lt, jg_dT, jg_dF, jt_c, jt_cd, ru_I, ru_L, jg_leI, jg_ltI, jg_eqI, jg_M1, jg_M2, jg_M3, jg_M4, jg_M5, jg_M6, jg_ltT, jg_ltF, jg_leT, jg_leF, jg_eqT, jg_eqF, cond_true, cond_false, ne_eq, not_true_eq_false, not_false_eq_true, decide_true, decide_false, if_true, if_false, and_true, true_and, and_false, false_and, or_true, true_or, or_false, false_or, Nat.reduceEqDiff, reduceIte, Nat.reduceMul, Nat.reduceAdd, Nat.reduceSub, Nat.add_zero, Nat.zero_add, Nat.mul_zero, eq_self_iff_true, jg_not_lt, jg_not_le, w1, w2, ww]
    exact e1
theorem farK_pos {F : Vl → Nat} {V : Vl} {g : Nat} : ∀ (r k : Nat), farK F V g r k = 0 → ∀ q, k ≤ q → q < k + r → hasB (vlW V) g q = false
  | 0, k, _, q, h1, h2 => by omega
  | r + 1, k, h, q, h1, h2 => by
    unfold farK at h
    by_cases e : q = k
    · subst e
      cases c : hasB (vlW V) g q with
      | false => rfl
      | true => rw [c] at h; simp only [if_true] at h; omega
    · exact farK_pos (F := F) r (k + 1) (by omega) q (by omega) (by omega)
theorem farN_0 {V : Vl} {g : Nat} {t : List Nat} (h12 : (vlW V).length ≤ 12) (h : farN (g :: t) V = 0) : wWith (vlW V) g = 0 := by
  apply Nat.eq_of_testBit_eq
  intro q
  rw [wWith_bit, Nat.zero_testBit]
  by_cases c : q < 12
  · exact farK_pos 12 0 h q (Nat.zero_le _) (by omega)
  · exact hasB_out (by omega) g
theorem sx_far_loop {gs t : List Nat} {p g D : Nat} (hg : okG gs) (hd : gs.drop p = g :: t) (H : ∀ (W : Vl) (m : jm_M), okV W → xV W 0 m → cP W m → xRow gs m → ∃ m', jm_sem false (D + 5) jn_X5_farthestFrom [.inr (.inr (.inl (22, 0, 0))), .inr (.inr (.inl (10, 0, 0))), .inl (nI (p + 1))] m = some (.inl (nI (p + 1 + farN t W)), m') ∧ xV W 0 m' ∧ cP W m' ∧ fr (PSp (p + 1)) m m') {V : Vl} (ho : okV V) : ∀ (r k b : Nat) (m : jm_M), k + r = 12 → p + 1 ≤ b → b ≤ gs.length → xV V 0 m → cP V m → xRow gs m → ∃ m', jm_ev false (D + 5) 4 1 jc_X5_farthestFrom 39 [.inr (.inr (.inl (22, 0, 0))), .inr (.inr (.inl (10, 0, 0))), .inl (nI p), .inl (nI (wWith (vlW V) g)), .inl (nI b), .inl (nI k)] [] m = some (.inl (nI (max b (p + farK (farN t) V g r k))), m') ∧ xV V 0 m' ∧ cP V m' ∧ fr (PSp p) m m'
  | 0, k, b, m, hr, hb1, hb2, h, hc, hw => by
    have h12 := ho.2.2.2.1.1
    have h4 := h.1.2.1
    refine ⟨m, ?_, h, hc, .rf⟩
    rw [l_X5_farthestFrom_39]
    unfold farK
    rw [Nat.max_eq_left (by omega)]
    simp (disch := omega) only [jg_lit, jg_litL, jg_m1, jg_m1L, nI_add, lN_add, pk_mul, jg_sub, jg_subM, jg_addM, jg_addM', jg_negM, jt_in, jt_ix, jt_bi, jt_bl, jt_bv, jt_lt, jg_dT, jg_dF, jt_c, jt_cd, ru_I, ru_L, jg_leI, jg_ltI, jg_eqI, jg_M1, jg_M2, jg_M3, jg_M4, jg_M5, jg_M6, jg_ltT, jg_ltF, jg_leT, jg_leF, jg_eqT, jg_eqF, cond_true, cond_false, ne_eq, not_true_eq_false, not_false_eq_true, decide_true, decide_false, if_true, if_false, and_true, true_and, and_false, false_and, or_true, true_or, or_false, false_or, Nat.reduceEqDiff, reduceIte, Nat.reduceMul, Nat.reduceAdd, Nat.reduceSub, Nat.add_zero, Nat.zero_add, Nat.mul_zero, eq_self_iff_true, jg_not_lt, jg_not_le, h4]
  | r + 1, k, b, m, hr, hb1, hb2, h, hc, hw => by
    have h12 := ho.2.2.2.1.1
    have h4 := h.1.2.1
    have h5 := hg.1
    obtain ⟨hp, -, -, hl⟩ := drop_c hd
    have w1 := hw.1
    have fle := farK_le (farN_le t) (V := V) (g := g) (r + 1) k
    by_cases ck : (vlW V).length ≤ k
    · refine ⟨m, ?_, h, hc, .rf⟩
      rw [l_X5_farthestFrom_39, farK_out (r + 1) k ck, Nat.max_eq_left (by omega)]
      simp (disch := omega) only [jg_lit, jg_litL, jg_m1, jg_m1L, nI_add, lN_add, pk_mul, jg_sub, jg_subM, jg_addM, jg_addM', jg_negM, jt_in, jt_ix, jt_bi, jt_bl, jt_bv, jt_lt, jg_dT, jg_dF, jt_c, jt_cd, ru_I, ru_L, jg_leI, jg_ltI, jg_eqI, jg_M1, jg_M2, jg_M3, jg_M4, jg_M5, jg_M6, jg_ltT, jg_ltF, jg_leT, jg_leF, jg_eqT, jg_eqF, cond_true, cond_false, ne_eq, not_true_eq_false, not_false_eq_true, decide_true, decide_false, if_true, if_false, and_true, true_and, and_false, false_and, or_true, true_or, or_false, false_or, Nat.reduceEqDiff, reduceIte, Nat.reduceMul, Nat.reduceAdd, Nat.reduceSub, Nat.add_zero, Nat.zero_add, Nat.mul_zero, eq_self_iff_true, jg_not_lt, jg_not_le, h4]
    · have hk : k < (vlW V).length := by omega
      by_cases cb : b = gs.length
      · refine ⟨m, ?_, h, hc, .rf⟩
        rw [l_X5_farthestFrom_39, Nat.max_eq_left (by omega)]
        simp (disch := omega) only [jg_lit, jg_litL, jg_m1, jg_m1L, nI_add, lN_add, pk_mul, jg_sub, jg_subM, jg_addM, jg_addM', jg_negM, jt_in, jt_ix, jt_bi, jt_bl, jt_bv, jt_lt, jg_dT, jg_dF, jt_c, jt_cd, ru_I, ru_L, jg_leI, jg_ltI, jg_eqI, jg_M1, jg_M2, jg_M3, jg_M4, jg_M5, jg_M6, jg_ltT, jg_ltF, jg_leT, jg_leF, jg_eqT, jg_eqF, cond_true, cond_false, ne_eq, not_true_eq_false, not_false_eq_true, decide_true, decide_false, if_true, if_false, and_true, true_and, and_false, false_and, or_true, true_or, or_false, false_or, Nat.reduceEqDiff, reduceIte, Nat.reduceMul, Nat.reduceAdd, Nat.reduceSub, Nat.add_zero, Nat.zero_add, Nat.mul_zero, eq_self_iff_true, jg_not_lt, jg_not_le, h4, w1]
      · have hw4 := wWith_lt h12 g
        have hbt := bit_In (v := wWith (vlW V) g) (c := k) (by omega) (by omega)
        rw [wWith_bit] at hbt
        unfold farK at fle ⊢
        cases c : hasB (vlW V) g k with
        | false =>
          rw [c, bI_F] at hbt
          rw [c] at fle
          obtain ⟨m', e1, e2, e3, e4⟩ := sx_far_loop hg hd H ho r (k + 1) b m (by omega) hb1 hb2 h hc hw
          refine ⟨m', ?_, e2, e3, e4⟩
          rw [l_X5_farthestFrom_39]
          simp (disch := omega) only [jg_lit, jg_litL, jg_m1, jg_m1L, nI_add, lN_add, pk_mul, jg_sub, jg_subM, jg_addM, jg_addM', jg_negM, jt_in, jt_ix, jt_bi, jt_bl, jt_bv, jt_lt, jg_dT, jg_dF, jt_c, jt_cd, ru_I, ru_L, jg_leI, jg_ltI, jg_eqI, jg_M1, jg_M2, jg_M3, jg_M4, jg_M5, jg_M6, jg_ltT, jg_ltF, jg_leT, jg_leF, jg_eqT, jg_eqF, cond_true, cond_false, ne_eq, not_true_eq_false, not_false_eq_true, decide_true, decide_false, if_true, if_false, and_true, true_and, and_false, false_and, or_true, true_or, or_false, false_or, Nat.reduceEqDiff, reduceIte, Nat.reduceMul, Nat.reduceAdd, Nat.reduceSub, Nat.add_zero, Nat.zero_add, Nat.mul_zero, eq_self_iff_true, jg_not_lt, jg_not_le, h4, w1, hbt, Bool.false_eq_true, Nat.zero_max]
          exact e1
        | true =>
          rw [c, bI_T] at hbt
          have hn := hasB_live (ho.2.2.2.1.2.1 k hk) c
          obtain ⟨m1, a1, a2, a3, a4⟩ := sx_place5 h ho hc hk hn D
          obtain ⟨m2, b1, b2, b3, b4, b5⟩ := sx_step a2 ho a3 (p := p) (by omega) hk hn (D + 1)
          have r2 := xRow_p (xRow_p hw (fr29_p (p := p) a4)) b5
          obtain ⟨m3, i1, i2, i3, i4⟩ := H _ m2 (okV_say ho hk hn) b2 b3 r2
          obtain ⟨m4, d1, d2, d3, d4⟩ := sx_stepBack i2 ho (sv_fr b4 i4) i3 (show p < 5 by omega) hk (D + 3)
          have f4 : fr (PSp p) m m4 := (((fr29_p a4).tr b5).tr (PSp_up (by omega) i4)).tr d4
          have fl := farN_le t (sayV V k)
          have i1' : jm_sem false (D + 5) jn_X5_farthestFrom [.inr (.inr (.inl (22, 0, 0))), .inr (.inr (.inl (10, 0, 0))), .inl (nI (p + 1))] m2 = some (.inl (nI (p + 1 + farN t (sayV V k))), m3) := i1
          have mx := nI_max (a := b) (b := p + 1 + farN t (sayV V k)) (by omega) (by omega)
          obtain ⟨m', e1, e2, e3, e4⟩ := sx_far_loop hg hd H ho r (k + 1) (max b (p + 1 + farN t (sayV V k))) m4 (by omega) (by omega) (by omega) d2 d3 (xRow_p hw f4)
          refine ⟨m', ?_, e2, e3, f4.tr e4⟩
          rw [l_X5_farthestFrom_39, show max b (p + max (if true = true then farN t (sayV V k) + 1 else 0) (farK (farN t) V g r (k + 1))) = max (max b (p + 1 + farN t (sayV V k))) (p + farK (farN t) V g r (k + 1)) by rw [if_pos rfl]; omega]
          rw [h4, jt_df (nI_ge hk (by omega)), cond_false, w1, jt_df (nI_ge (show b < gs.length by omega) (by omega)), cond_false]
          simp only [jg_lit]
          rw [hbt, jt_df (fun z => z rfl), cond_false, a1, jt_bi, b1, jt_bv, nI_add, i1', jt_bi, d1, jt_bv, mx, nI_add]
          exact e1
theorem sx_farFrom {gs : List Nat} (hg : okG gs) (d : Nat) : ∀ (t : List Nat) (p : Nat) (V : Vl) (m : jm_M), gs.drop p = t → p ≤ gs.length → okV V → xV V 0 m → cP V m → xRow gs m → ∃ m', jm_sem false (d + 6 + t.length) jn_X5_farthestFrom [.inr (.inr (.inl (22, 0, 0))), .inr (.inr (.inl (10, 0, 0))), .inl (nI p)] m = some (.inl (nI (p + farN t V)), m') ∧ xV V 0 m' ∧ cP V m' ∧ fr (PSp p) m m'
  | [], p, V, m, hd, hpl, ho, h, hc, hw => by
    have hl : (gs.drop p).length = 0 := by rw [hd]; rfl
    rw [List.length_drop] at hl
    have hl : gs.length = p := by omega
    have h5 := hg.1
    have w1 := hw.1
    refine ⟨m, ?_, h, hc, .rf⟩
    show jm_sem false (d + 6) _ _ _ = some (.inl (nI (p + 0)), m)
    rw [e_X5_farthestFrom]
    rw [hl] at w1
    simp (disch := omega) only [jg_lit, jg_litL, jg_m1, jg_m1L, nI_add, lN_add, pk_mul, jg_sub, jg_subM, jg_addM, jg_addM', jg_negM, jt_in, jt_ix, jt_bi, jt_bl, jt_bv, jt_lt, jg_dT, jg_dF, jt_c, jt_cd, ru_I, ru_L, jg_leI, jg_ltI, jg_eqI, jg_M1, jg_M2, jg_M3, jg_M4, jg_M5, jg_M6, jg_ltT, jg_ltF, jg_leT, jg_leF, jg_eqT, jg_eqF, cond_true, cond_false, ne_eq, not_true_eq_false, not_false_eq_true, decide_true, decide_false, if_true, if_false, and_true, true_and, and_false, false_and, or_true, true_or, or_false, false_or, Nat.reduceEqDiff, reduceIte, Nat.reduceMul, Nat.reduceAdd, Nat.reduceSub, Nat.add_zero, Nat.zero_add, Nat.mul_zero, eq_self_iff_true, jg_not_lt, jg_not_le, w1]
  | g :: t, p, V, m, hd, hpl, ho, h, hc, hw => by
    obtain ⟨hp, hge, hd2, hl⟩ := drop_c hd
    have h5 := hg.1
    have hgl := hg.2 p hp
    rw [hge] at hgl
    have w1 := hw.1
    have w2 := hw.2 p hp
    rw [hge] at w2
    have h12 := ho.2.2.2.1.1
    have w4 := wWith_lt h12 g
    have ww := sx_wordsWith h ho.2.2.2.1 (g := g) (by omega) (d + 4 + t.length)
    rw [show d + 4 + t.length + 2 = d + 1 + t.length + 5 by omega] at ww
    by_cases c : wWith (vlW V) g = 0
    · refine ⟨m, ?_, h, hc, .rf⟩
      have f0 : farN (g :: t) V = 0 := farK_0 c 12 0
      rw [c] at ww
      rw [show d + 6 + (g :: t).length = d + 1 + t.length + 5 + 1 by rw [List.length_cons]; omega, e_X5_farthestFrom, f0]
      simp (disch := omega) only [jg_lit, jg_litL, jg_m1, jg_m1L, nI_add, lN_add, pk_mul, jg_sub, jg_subM, jg_addM, jg_addM', jg_negM, jt_in, jt_ix, jt_bi, jt_bl, jt_bv, jt_lt, jg_dT, jg_dF, jt_c, jt_cd, ru_I, ru_L, jg_leI, jg_ltI, jg_eqI, jg_M1, jg_M2, jg_M3, jg_M4, jg_M5, jg_M6, jg_ltT, jg_ltF, jg_leT, jg_leF, jg_eqT, jg_eqF, cond_true, cond_false, ne_eq, not_true_eq_false, not_false_eq_true, decide_true, decide_false, if_true, if_false, and_true, true_and, and_false, false_and, or_true, true_or, or_false, false_or, Nat.reduceEqDiff, reduceIte, Nat.reduceMul, Nat.reduceAdd, Nat.reduceSub, Nat.add_zero, Nat.zero_add, Nat.mul_zero, eq_self_iff_true, jg_not_lt, jg_not_le, w1, w2, ww]
    · obtain ⟨m', e1, e2, e3, e4⟩ := sx_far_loop (D := d + 1 + t.length) hg hd (fun W m oW xW' cW rW => by
        have := sx_farFrom hg d t (p + 1) W m hd2 (by omega) oW xW' cW rW
        rw [show d + 6 + t.length = d + 1 + t.length + 5 by omega] at this
        exact this) ho 12 0 (p + 1) m rfl (Nat.le_refl _) (by omega) h hc hw
      refine ⟨m', ?_, e2, e3, e4⟩
      have f1 : farN (g :: t) V ≠ 0 := fun z => c (farN_0 h12 z)
      have f2 : farN (g :: t) V = farK (farN t) V g 12 0 := rfl
      rw [Nat.max_eq_right (by omega), ← f2] at e1
      rw [show d + 6 + (g :: t).length = d + 1 + t.length + 5 + 1 by rw [List.length_cons]; omega, e_X5_farthestFrom]
      simp (disch := omega) only [jg_lit, jg_litL, jg_m1, jg_m1L, nI_add, lN_add, pk_mul, jg_sub, jg_subM, jg_addM, jg_addM', jg_negM, jt_in, jt_ix, jt_bi, jt_bl, jt_bv, jt_lt, jg_dT, jg_dF, jt_c, jt_cd, ru_I, ru_L, jg_leI, jg_ltI, jg_eqI, jg_M1, jg_M2, jg_M3, jg_M4, jg_M5, jg_M6, jg_ltT, jg_ltF, jg_leT, jg_leF, jg_eqT, jg_eqF, cond_true, cond_false, ne_eq, not_true_eq_false, not_false_eq_true, decide_true, decide_false, if_true, if_false, and_true, true_and, and_false, false_and, or_true, true_or, or_false, false_or, Nat.reduceEqDiff, reduceIte, Nat.reduceMul, Nat.reduceAdd, Nat.reduceSub, Nat.add_zero, Nat.zero_add, Nat.mul_zero, eq_self_iff_true, jg_not_lt, jg_not_le, w1, w2, ww]
      exact e1
