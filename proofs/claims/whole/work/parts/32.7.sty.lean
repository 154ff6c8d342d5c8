/-! ===== ways, howFar, fewest, story ===== -/
theorem sx_forget_loop (d : Nat) : ∀ (r k : Nat) (m : jm_M), k + r = 12 → (∀ w, w < k → m.1 29 0 0 w = jN) → ∃ m', jm_ev false d 4 0 jc_X5_forgetPlaces 2 [.inr (.inr (.inl (22, 0, 0))), .inl (nI k)] [] m = some (jm_j, m') ∧ (∀ w, w < 12 → m'.1 29 0 0 w = jN) ∧ fr (fun K _ _ _ => K = 29) m m'
  | 0, k, m, hr, h => by
    refine ⟨m, ?_, fun w hw => h w (by omega), .rf⟩
    rw [l_X5_forgetPlaces_2]
    simp (disch := omega) only [jg_lit, jg_litL, jg_m1, jg_m1L, nI_add, lN_add, pk_mul, jg_sub, jg_subM, jg_addM, jg_addM', jg_negM, jt_in, jt_ix, jt_bi, jt_bl, jt_bv, jt_lt, jg_dT, jg_dF, jt_c, jt_cd, ru_I, ru_L, jg_leI, jg_ltI, jg_eqI, jg_M1, jg_M2, jg_M3, jg_M4, jg_M5, jg_M6, jg_ltT, jg_ltF, jg_leT, jg_leF, jg_eqT, jg_eqF, cond_true, cond_false, ne_eq, not_true_eq_false, not_false_eq_true, decide_true, decide_false, if_true, if_false, and_true, true_and, and_false, false_and, or_true, true_or, or_false, false_or, Nat.reduceEqDiff, reduceIte, Nat.reduceMul, Nat.reduceAdd, Nat.reduceSub, Nat.add_zero, Nat.zero_add, Nat.mul_zero, eq_self_iff_true, jg_not_lt, jg_not_le]
  | r + 1, k, m, hr, h => by
    obtain ⟨m', e1, e2, e3⟩ := sx_forget_loop d r (k + 1) (jm_sI m 29 0 0 k jN) (by omega) (fun w hw => by
      rw [rd_II]
      by_cases e : w = k
      · rw [if_pos ⟨rfl, rfl, rfl, e⟩]
      · rw [if_neg (by omega)]; exact h w (by omega))
    refine ⟨m', ?_, e2, (fr_I rfl).tr e3⟩
    rw [← e1, l_X5_forgetPlaces_2]
    simp (disch := omega) only [jg_lit, jg_litL, jg_m1, jg_m1L, nI_add, lN_add, pk_mul, jg_sub, jg_subM, jg_addM, jg_addM', jg_negM, jt_in, jt_ix, jt_bi, jt_bl, jt_bv, jt_lt, jg_dT, jg_dF, jt_c, jt_cd, ru_I, ru_L, jg_leI, jg_ltI, jg_eqI, jg_M1, jg_M2, jg_M3, jg_M4, jg_M5, jg_M6, jg_ltT, jg_ltF, jg_leT, jg_leF, jg_eqT, jg_eqF, cond_true, cond_false, ne_eq, not_true_eq_false, not_false_eq_true, decide_true, decide_false, if_true, if_false, and_true, true_and, and_false, false_and, or_true, true_or, or_false, false_or, Nat.reduceEqDiff, reduceIte, Nat.reduceMul, Nat.reduceAdd, Nat.reduceSub, Nat.add_zero, Nat.zero_add, Nat.mul_zero, eq_self_iff_true, jg_not_lt, jg_not_le, jg_m2]
theorem sx_forget {V : Vl} (h12 : (vlW V).length ≤ 12) (d : Nat) (m : jm_M) : ∃ m', jm_sem false (d + 1) jn_X5_forgetPlaces [.inr (.inr (.inl (22, 0, 0)))] m = some (jm_j, m') ∧ cP V m' ∧ fr (fun K _ _ _ => K = 29) m m' := by
  obtain ⟨m', e1, e2, e3⟩ := sx_forget_loop d 12 0 m rfl (fun w hw => by omega)
  refine ⟨m', ?_, fun w hw => Or.inl (e2 w (by omega)), e3⟩
  rw [e_X5_forgetPlaces]
  exact e1
theorem xV_n {V : Vl} {i : Nat} {P : Nat → Nat → Nat → Nat → Prop} {m m' : jm_M} (h : xV V i m) (f : fr P m m') (hP : ∀ K i j k, P K i j k → 20 ≤ K) : xV V i m' := ⟨xH_fr h.1 f (fun K k hK z => by have := hP _ _ _ _ z; omega), fun j hj => xW_fr (h.2 j hj) f (fun k z => by have := hP _ _ _ _ z; omega)⟩
theorem P24_20 {K i j k : Nat} (h : P24 K i j k) : 20 ≤ K := by unfold P24 at h; omega
theorem P24_Q {m m' : jm_M} (f : fr P24 m m') : fr QX m m' := f.wk (fun K i j k z => by unfold P24 at z; unfold QX SO; omega)
theorem gs_ok {f : Nat → Int64} {mean : Nat} {gs : List Nat} (h : gsB f mean gs) (hm : mean ≤ 12) (h5 : gs.length ≤ 5) : okG gs := ⟨h5, fun k hk => by have := (h k hk).1; omega⟩
/-- a story as both objects take it -/
theorem story_cases {s : St} {μ : jm_M} (ho : okA s) (hx : xA s μ) (hm : mA s μ) (x y : Int32) (d : Nat) : (∃ w ma, 1 ≤ w ∧ w < 10 ∧ jm_sem false (d + 4) jn_X11_wrongStory [vX, .inl x, .inl y] μ = some (.inl (nI w), ma) ∧ fr P24 μ ma ∧ jm_sem false (d + 4) jn_X12_wrongStory [vM, .inl x, .inl y] μ = some (.inl (nI w), μ)) ∨ ∃ gs t ma, okG gs ∧ 1 ≤ gs.length ∧ t < 4 ∧ x = nI t ∧ y = nI gs.length ∧ jm_sem false (d + 4) jn_X11_wrongStory [vX, .inl x, .inl y] μ = some (.inl (nI 0), ma) ∧ xRow gs ma ∧ fr P24 μ ma ∧ jm_sem false (d + 4) jn_X12_wrongStory [vM, .inl x, .inl y] μ = some (.inl (nI 0), μ) ∧ ∀ q, q < gs.length → μ.2 45 0 0 (60 * t + q) = lN (gs.getD q 0) := by
  have xT' : xT (aT s) μ := hx.2.2.1
  have mT' : mT (aT s) μ := hm.2.2.1
  have hme := ho.1.1
  rcases row_cases (aT s) x y (most := 5) (by decide) with h | ⟨t, n, ht, h1, h5, rfl, rfl, h⟩
  · exact Or.inl ⟨1, μ, by omega, by omega, sx_storyN (by omega) (by omega) (d + 2) (sx_row1 (by decide) h (d + 1) μ), .rf, sm_story1 h (d + 2) μ⟩
  · rcases h with h | ⟨so, sz, f, hT, h | h⟩
    · exact Or.inl ⟨2, μ, by omega, by omega, sx_storyN (by omega) (by omega) (d + 2) (sx_row2 xT' ht h1 h5 (by decide) h (d + 1)), .rf, (sm_story23 mT' ht h1 h5 (d + 2)).1 h⟩
    · exact Or.inl ⟨3, μ, by omega, by omega, sx_storyN (by omega) (by omega) (d + 2) (sx_row3 xT' ht h1 h5 (by decide) hT h (d + 1)), .rf, (sm_story23 mT' ht h1 h5 (d + 2)).2 so sz f hT h⟩
    · rcases gs_cases f hme n with ⟨gs, g1, g2⟩ | ⟨gs, g1, g2, g3⟩
      · subst g1
        obtain ⟨ma, e1, e2, e3⟩ := sx_story0 xT' hx.1.1 hme ht hT g2 h1 h h5 d
        refine Or.inr ⟨gs, t, ma, gs_ok g2 hme h5, h1, ht, rfl, rfl, e1, e2, e3, sm_story0 mT' hm.1.1 hme ht hT g2 h1 h h5 (d + 2), fun q hq => ?_⟩
        have q5 := mT' t ht
        rw [hT] at q5
        exact (q5.2.2.2.2 q (by omega)).trans (g2 q hq).2
      · obtain ⟨ma, e1, e2⟩ := sx_story5 xT' hx.1.1 hme ht hT g2 g1 h h5 g3 d
        exact Or.inl ⟨5, ma, by omega, by omega, e1, e2, sm_story5 mT' hm.1.1 hme ht hT g2 g1 h h5 g3 (d + 2)⟩
theorem PGt_Q {m m' : jm_M} (f : fr PGt m m') : fr QM m m' := f.wk (fun K i j k z => by unfold PGt at z; unfold QM SM; omega)
theorem PGt_F {V : Vl} {m m' : jm_M} (h : mF V m) (ho : okV V) (f : fr PGt m m') : mF V m' := mF_fr h ho f (fun k hk z => by unfold PGt at z; omega) (fun k hk z => by unfold PGt at z; omega)
theorem PSp_Q {p : Nat} {m m' : jm_M} (f : fr (PSp p) m m') : fr QX m m' := f.wk (fun K i j k z => by unfold PSp at z; unfold QX SO; omega)
theorem f29_Q {m m' : jm_M} (f : fr (fun K _ _ _ => K = 29) m m') : fr QX m m' := f.wk (fun K i j k z => by unfold QX SO; omega)
theorem xRow_29 {gs : List Nat} {m m' : jm_M} (h : xRow gs m) (f : fr (fun K _ _ _ => K = 29) m m') : xRow gs m' := xRow_fr h f (show ¬ ((22 : Nat) = 29) by decide) (fun k => show ¬ ((24 : Nat) = 29) by decide)
theorem g_ne {gs : List Nat} (h : 1 ≤ gs.length) : ∃ g t, gs = g :: t := by
  cases gs with
  | nil => have h : 1 ≤ 0 := h; omega
  | cons g t => exact ⟨g, t, rfl⟩
theorem c_ways (x y : Int32) : jcall jn_X11_ways jn_X12_ways [.inl x, .inl y] := by
  intro s μ ho hx hm
  rcases story_cases ho hx hm x y 94 with ⟨w, ma, w1, w2, e1, e2, e3⟩ | ⟨gs, t, ma, hg, h1, ht, rfl, rfl, e1, e2, e3, e4, e5⟩
  · refine jcall_V ho hx hm ho.1 (ma := ma) (mb := μ) (v := .inl jM) (nI w) (xV_n hx.1 e2 (fun _ _ _ _ => P24_20)) (P24_Q e2) hm.1 .rf ?_ ?_
    · rw [e_X11_ways]; simp (disch := omega) only [jg_lit, jg_litL, jg_m1, jg_m1L, nI_add, lN_add, pk_mul, jg_sub, jg_subM, jg_addM, jg_addM', jg_negM, jt_in, jt_ix, jt_bi, jt_bl, jt_bv, jt_lt, jg_dT, jg_dF, jt_c, jt_cd, ru_I, ru_L, jg_leI, jg_ltI, jg_eqI, jg_M1, jg_M2, jg_M3, jg_M4, jg_M5, jg_M6, jg_ltT, jg_ltF, jg_leT, jg_leF, jg_eqT, jg_eqF, cond_true, cond_false, ne_eq, not_true_eq_false, not_false_eq_true, decide_true, decide_false, if_true, if_false, and_true, true_and, and_false, false_and, or_true, true_or, or_false, false_or, Nat.reduceEqDiff, reduceIte, Nat.reduceMul, Nat.reduceAdd, Nat.reduceSub, Nat.add_zero, Nat.zero_add, Nat.mul_zero, eq_self_iff_true, jg_not_lt, jg_not_le, e1, sx_fail]
    · rw [e_X12_ways]; simp (disch := omega) only [jg_lit, jg_litL, jg_m1, jg_m1L, nI_add, lN_add, pk_mul, jg_sub, jg_subM, jg_addM, jg_addM', jg_negM, jt_in, jt_ix, jt_bi, jt_bl, jt_bv, jt_lt, jg_dT, jg_dF, jt_c, jt_cd, ru_I, ru_L, jg_leI, jg_ltI, jg_eqI, jg_M1, jg_M2, jg_M3, jg_M4, jg_M5, jg_M6, jg_ltT, jg_ltF, jg_leT, jg_leF, jg_eqT, jg_eqF, cond_true, cond_false, ne_eq, not_true_eq_false, not_false_eq_true, decide_true, decide_false, if_true, if_false, and_true, true_and, and_false, false_and, or_true, true_or, or_false, false_or, Nat.reduceEqDiff, reduceIte, Nat.reduceMul, Nat.reduceAdd, Nat.reduceSub, Nat.add_zero, Nat.zero_add, Nat.mul_zero, eq_self_iff_true, jg_not_lt, jg_not_le, e3, sm_refuse]
  · obtain ⟨g, t', hgs⟩ := g_ne h1
    have v1 := xV_n hx.1 e3 (fun _ _ _ _ => P24_20)
    obtain ⟨m2, a1, a2, a3⟩ := sx_forget ho.1.2.2.2.1.1 96 ma
    have v2 := xV_n v1 a3 (fun K _ _ _ z => by omega)
    have h5 := hg.1
    have tl : t'.length ≤ 4 := by rw [hgs] at h5; have h5 : t'.length + 1 ≤ 5 := h5; omega
    obtain ⟨m3, b1, b2, b3, b4⟩ := sx_rowsFrom hg (91 - t'.length) t' g 0 (aV s) m2 hgs ho.1 v2 a2 (xRow_29 e2 a3)
    rw [← hgs, show 91 - t'.length + 6 + t'.length = 97 by omega] at b1
    obtain ⟨n1, c1, c2, c3⟩ := sm_through hg ht ho.1 hm.1 e5 91
    have c34 := c2.1
    refine jcall_V ho hx hm ho.1 (ma := m3) (mb := n1) (v := .inl (nI (rowsN gs (aV s)))) (nI 0) b2 (((P24_Q e3).tr (f29_Q a3)).tr (PSp_Q b4)) (PGt_F hm.1 ho.1 c3) (PGt_Q c3) ?_ ?_
    · have cr : jm_sem false 98 jn_X5_countRows [.inr (.inr (.inl (22, 0, 0))), .inr (.inr (.inl (10, 0, 0)))] ma = some (.inl (nI (rowsN gs (aV s))), m3) := by
        rw [e_X5_countRows]; simp (disch := omega) only [jg_lit, jg_litL, jg_m1, jg_m1L, nI_add, lN_add, pk_mul, jg_sub, jg_subM, jg_addM, jg_addM', jg_negM, jt_in, jt_ix, jt_bi, jt_bl, jt_bv, jt_lt, jg_dT, jg_dF, jt_c, jt_cd, ru_I, ru_L, jg_leI, jg_ltI, jg_eqI, jg_M1, jg_M2, jg_M3, jg_M4, jg_M5, jg_M6, jg_ltT, jg_ltF, jg_leT, jg_leF, jg_eqT, jg_eqF, cond_true, cond_false, ne_eq, not_true_eq_false, not_false_eq_true, decide_true, decide_false, if_true, if_false, and_true, true_and, and_false, false_and, or_true, true_or, or_false, false_or, Nat.reduceEqDiff, reduceIte, Nat.reduceMul, Nat.reduceAdd, Nat.reduceSub, Nat.add_zero, Nat.zero_add, Nat.mul_zero, eq_self_iff_true, jg_not_lt, jg_not_le, a1, b1]
      rw [e_X11_ways]; simp (disch := omega) only [jg_lit, jg_litL, jg_m1, jg_m1L, nI_add, lN_add, pk_mul, jg_sub, jg_subM, jg_addM, jg_addM', jg_negM, jt_in, jt_ix, jt_bi, jt_bl, jt_bv, jt_lt, jg_dT, jg_dF, jt_c, jt_cd, ru_I, ru_L, jg_leI, jg_ltI, jg_eqI, jg_M1, jg_M2, jg_M3, jg_M4, jg_M5, jg_M6, jg_ltT, jg_ltF, jg_leT, jg_leF, jg_eqT, jg_eqF, cond_true, cond_false, ne_eq, not_true_eq_false, not_false_eq_true, decide_true, decide_false, if_true, if_false, and_true, true_and, and_false, false_and, or_true, true_or, or_false, false_or, Nat.reduceEqDiff, reduceIte, Nat.reduceMul, Nat.reduceAdd, Nat.reduceSub, Nat.add_zero, Nat.zero_add, Nat.mul_zero, eq_self_iff_true, jg_not_lt, jg_not_le, e1, cr, sx_give]
    · rw [e_X12_ways]; simp (disch := omega) only [jg_lit, jg_litL, jg_m1, jg_m1L, nI_add, lN_add, pk_mul, jg_sub, jg_subM, jg_addM, jg_addM', jg_negM, jt_in, jt_ix, jt_bi, jt_bl, jt_bv, jt_lt, jg_dT, jg_dF, jt_c, jt_cd, ru_I, ru_L, jg_leI, jg_ltI, jg_eqI, jg_M1, jg_M2, jg_M3, jg_M4, jg_M5, jg_M6, jg_ltT, jg_ltF, jg_leT, jg_leF, jg_eqT, jg_eqF, cond_true, cond_false, ne_eq, not_true_eq_false, not_false_eq_true, decide_true, decide_false, if_true, if_false, and_true, true_and, and_false, false_and, or_true, true_or, or_false, false_or, Nat.reduceEqDiff, reduceIte, Nat.reduceMul, Nat.reduceAdd, Nat.reduceSub, Nat.add_zero, Nat.zero_add, Nat.mul_zero, eq_self_iff_true, jg_not_lt, jg_not_le, e4, c1, c34, sm_gives]
theorem c_howFar (x y : Int32) : jcall jn_X11_howFar jn_X12_howFar [.inl x, .inl y] := by
  intro s μ ho hx hm
  rcases story_cases ho hx hm x y 94 with ⟨w, ma, w1, w2, e1, e2, e3⟩ | ⟨gs, t, ma, hg, h1, ht, rfl, rfl, e1, e2, e3, e4, e5⟩
  · refine jcall_V ho hx hm ho.1 (ma := ma) (mb := μ) (v := .inl jM) (nI w) (xV_n hx.1 e2 (fun _ _ _ _ => P24_20)) (P24_Q e2) hm.1 .rf ?_ ?_
    · rw [e_X11_howFar]; simp (disch := omega) only [jg_lit, jg_litL, jg_m1, jg_m1L, nI_add, lN_add, pk_mul, jg_sub, jg_subM, jg_addM, jg_addM', jg_negM, jt_in, jt_ix, jt_bi, jt_bl, jt_bv, jt_lt, jg_dT, jg_dF, jt_c, jt_cd, ru_I, ru_L, jg_leI, jg_ltI, jg_eqI, jg_M1, jg_M2, jg_M3, jg_M4, jg_M5, jg_M6, jg_ltT, jg_ltF, jg_leT, jg_leF, jg_eqT, jg_eqF, cond_true, cond_false, ne_eq, not_true_eq_false, not_false_eq_true, decide_true, decide_false, if_true, if_false, and_true, true_and, and_false, false_and, or_true, true_or, or_false, false_or, Nat.reduceEqDiff, reduceIte, Nat.reduceMul, Nat.reduceAdd, Nat.reduceSub, Nat.add_zero, Nat.zero_add, Nat.mul_zero, eq_self_iff_true, jg_not_lt, jg_not_le, e1, sx_fail]
    · rw [e_X12_howFar]; simp (disch := omega) only [jg_lit, jg_litL, jg_m1, jg_m1L, nI_add, lN_add, pk_mul, jg_sub, jg_subM, jg_addM, jg_addM', jg_negM, jt_in, jt_ix, jt_bi, jt_bl, jt_bv, jt_lt, jg_dT, jg_dF, jt_c, jt_cd, ru_I, ru_L, jg_leI, jg_ltI, jg_eqI, jg_M1, jg_M2, jg_M3, jg_M4, jg_M5, jg_M6, jg_ltT, jg_ltF, jg_leT, jg_leF, jg_eqT, jg_eqF, cond_true, cond_false, ne_eq, not_true_eq_false, not_false_eq_true, decide_true, decide_false, if_true, if_false, and_true, true_and, and_false, false_and, or_true, true_or, or_false, false_or, Nat.reduceEqDiff, reduceIte, Nat.reduceMul, Nat.reduceAdd, Nat.reduceSub, Nat.add_zero, Nat.zero_add, Nat.mul_zero, eq_self_iff_true, jg_not_lt, jg_not_le, e3, sm_refuse]
  · have v1 := xV_n hx.1 e3 (fun _ _ _ _ => P24_20)
    obtain ⟨m2, a1, a2, a3⟩ := sx_forget ho.1.2.2.2.1.1 96 ma
    have v2 := xV_n v1 a3 (fun K _ _ _ z => by omega)
    have h5 := hg.1
    obtain ⟨m3, b1, b2, b3, b4⟩ := sx_farFrom hg (91 - gs.length) gs 0 (aV s) m2 rfl (Nat.zero_le _) ho.1 v2 a2 (xRow_29 e2 a3)
    rw [Nat.zero_add, show 91 - gs.length + 6 + gs.length = 97 by omega] at b1
    obtain ⟨n1, c1, c2, c3⟩ := sm_through hg ht ho.1 hm.1 e5 91
    have c36 := c2.2.1
    refine jcall_V ho hx hm ho.1 (ma := m3) (mb := n1) (v := .inl (nI (farN gs (aV s)))) (nI 0) b2 (((P24_Q e3).tr (f29_Q a3)).tr (PSp_Q b4)) (PGt_F hm.1 ho.1 c3) (PGt_Q c3) ?_ ?_
    · have cr : jm_sem false 98 jn_X5_farthest [.inr (.inr (.inl (22, 0, 0))), .inr (.inr (.inl (10, 0, 0)))] ma = some (.inl (nI (farN gs (aV s))), m3) := by
        rw [e_X5_farthest]; simp (disch := omega) only [jg_lit, jg_litL, jg_m1, jg_m1L, nI_add, lN_add, pk_mul, jg_sub, jg_subM, jg_addM, jg_addM', jg_negM, jt_in, jt_ix, jt_bi, jt_bl, jt_bv, jt_lt, jg_dT, jg_dF, jt_c, jt_cd, ru_I, ru_L, jg_leI, jg_ltI, jg_eqI, jg_M1, jg_M2, jg_M3, jg_M4, jg_M5, jg_M6, jg_ltT, jg_ltF, jg_leT, jg_leF, jg_eqT, jg_eqF, cond_true, cond_false, ne_eq, not_true_eq_false, not_false_eq_true, decide_true, decide_false, if_true, if_false, and_true, true_and, and_false, false_and, or_true, true_or, or_false, false_or, Nat.reduceEqDiff, reduceIte, Nat.reduceMul, Nat.reduceAdd, Nat.reduceSub, Nat.add_zero, Nat.zero_add, Nat.mul_zero, eq_self_iff_true, jg_not_lt, jg_not_le, a1, b1]
      rw [e_X11_howFar]; simp (disch := omega) only [jg_lit, jg_litL, jg_m1, jg_m1L, nI_add, lN_add, pk_mul, jg_sub, jg_subM, jg_addM, jg_addM', jg_negM, jt_in, jt_ix, jt_bi, jt_bl, jt_bv, jt_lt, jg_dT, jg_dF, jt_c, jt_cd, ru_I, ru_L, jg_leI, jg_ltI, jg_eqI, jg_M1, jg_M2, jg_M3, jg_M4, jg_M5, jg_M6, jg_ltT, jg_ltF, jg_leT, jg_leF, jg_eqT, jg_eqF, cond_true, cond_false, ne_eq, not_true_eq_false, not_false_eq_true, decide_true, decide_false, if_true, if_false, and_true, true_and, and_false, false_and, or_true, true_or, or_false, false_or, Nat.reduceEqDiff, reduceIte, Nat.reduceMul, Nat.reduceAdd, Nat.reduceSub, Nat.add_zero, Nat.zero_add, Nat.mul_zero, eq_self_iff_true, jg_not_lt, jg_not_le, e1, cr, sx_give]
    · rw [e_X12_howFar]; simp (disch := omega) only [jg_lit, jg_litL, jg_m1, jg_m1L, nI_add, lN_add, pk_mul, jg_sub, jg_subM, jg_addM, jg_addM', jg_negM, jt_in, jt_ix, jt_bi, jt_bl, jt_bv, jt_lt, jg_dT, jg_dF, jt_c, jt_cd, ru_I, ru_L, jg_leI, jg_ltI, jg_eqI, jg_M1, jg_M2, jg_M3, jg_M4, jg_M5, jg_M6, jg_ltT, jg_ltF, jg_leT, jg_leF, jg_eqT, jg_eqF, cond_true, cond_false, ne_eq, not_true_eq_false, not_false_eq_true, decide_true, decide_false, if_true, if_false, and_true, true_and, and_false, false_and, or_true, true_or, or_false, false_or, Nat.reduceEqDiff, reduceIte, Nat.reduceMul, Nat.reduceAdd, Nat.reduceSub, Nat.add_zero, Nat.zero_add, Nat.mul_zero, eq_self_iff_true, jg_not_lt, jg_not_le, e4, c1, c36, sm_gives]
/-! ===== fewest ===== -/
def stB (s : St) (B : List Nat) : St := (aV s, aS s, aT s, aP s, aM s, B, aG s, aF s, aX s)
theorem xO_B {s : St} {μ μ' : jm_M} (h : xO s μ) (ho : okA s) {B : List Nat} (hf : ∀ K i j k, SO K i j k → K ≠ 22 → K ≠ 23 → μ'.1 K i j k = μ.1 K i j k ∧ μ'.2 K i j k = μ.2 K i j k) (b1 : μ'.1 22 0 0 1 = nI B.length) (b2 : ∀ k, k < B.length → μ'.1 23 0 0 k = nI (B.getD k 0)) : xO (stB s B) μ' := by
  obtain ⟨h1, h2, h3, h4, h5, h6, h7, h8, h9, h10, h11, h12⟩ := h
  have k0 := fun k => (hf 0 0 0 k (Or.inl rfl) (by decide) (by decide)).1
  have k0L := fun k => (hf 0 0 0 k (Or.inl rfl) (by decide) (by decide)).2
  have k2 := fun i j k => (hf 2 i j k (Or.inr (Or.inl rfl)) (by decide) (by decide)).1
  have k3 := fun i j k => (hf 3 i j k (Or.inr (Or.inr (Or.inl rfl))) (by decide) (by decide)).2
  have k4 := fun i j k => (hf 4 i j k (Or.inr (Or.inr (Or.inr (Or.inl rfl)))) (by decide) (by decide)).1
  have k37 := fun k => (hf 37 0 0 k (by unfold SO; omega) (by decide) (by decide)).1
  refine ⟨by rw [k0]; exact h1, xT_k h2 k2 k3, xP_k h3 (k0 12) k4, by rw [k0]; exact h4, fun k hk => ?_, b1, b2, ?_, by rw [k0L]; exact h9, by rw [k0L]; exact h10, by rw [k0]; exact h11, by rw [k0]; exact h12⟩
  · have := ho.2.1
    have hk : k < (aM s).length := hk
    have hv := (ho.2.2.1 k hk).2.2.2.1.1
    exact ⟨xH_k (h5 k hk).1 (fun K q hK => hf K (2 + k) 0 q (by unfold SO; omega) (by omega) (by omega)), fun j hj => xW_k ((h5 k hk).2 j hj) (fun q => (hf 12 (2 + k) j q (by unfold SO; omega) (by decide) (by decide)).1) (fun q => (hf 12 (2 + k) j q (by unfold SO; omega) (by decide) (by decide)).2)⟩
  · show xG (aG s) _
    unfold xG at h8 ⊢
    split at h8
    · rw [k0]; exact h8
    · rw [k0, k37, k37, k37, k37]; exact h8
theorem mO_B {s : St} {μ μ' : jm_M} (h : mO s μ) (ho : okA s) {B : List Nat} (hf : ∀ K i j k, SM K i j k → ¬ (K = 40 ∧ k = 37) → K ≠ 55 → μ'.1 K i j k = μ.1 K i j k ∧ μ'.2 K i j k = μ.2 K i j k) (b1 : μ'.1 40 0 0 37 = nI B.length) (b2 : ∀ k, k < B.length → μ'.1 55 0 0 k = nI (B.getD k 0)) : mO (stB s B) μ' := by
  obtain ⟨h1, h2, h3, h4, h5, h6, h7, h8, h9, h10, h11, h12⟩ := h
  have hl := ho.2.1
  have k43 := fun i j k => (hf 43 i j k (by unfold SM; omega) (by omega) (by omega)).1
  have k44 := fun i j k => (hf 44 i j k (by unfold SM; omega) (by omega) (by omega)).1
  have k45 := fun i j k => (hf 45 i j k (by unfold SM; omega) (by omega) (by omega)).2
  have k46 := fun i j k => (hf 46 i j k (by unfold SM; omega) (by omega) (by omega)).1
  have k59 := fun k => (hf 59 0 0 k (by unfold SM; omega) (by omega) (by omega)).1
  have q := fun k (hk : SM 40 0 0 k) (h37 : ¬ (40 = 40 ∧ k = 37)) => (hf 40 0 0 k hk h37 (by omega)).1
  refine ⟨by rw [q 2 (by unfold SM; omega) (by omega)]; exact h1, mT_k h2 k43 k44 k45, mP_k h3 (q 10 (by unfold SM; omega) (by omega)) k46, by rw [q 47 (by unfold SM; omega) (by omega)]; exact h4, fun k hk => ?_, b1, b2, ?_, by rw [(hf 40 0 0 3 (by unfold SM; omega) (by omega) (by omega)).2]; exact h9, by rw [(hf 40 0 0 4 (by unfold SM; omega) (by omega) (by omega)).2]; exact h10, by rw [q 16 (by unfold SM; omega) (by omega)]; exact h11, by rw [q 17 (by unfold SM; omega) (by omega)]; exact h12⟩
  · have hk : k < (aM s).length := hk
    obtain ⟨ν, n1, n2, n3⟩ := h5 k hk
    exact ⟨ν, n1, fun c hc => by rw [(hf 41 0 0 _ (by unfold SM; omega) (by omega) (by omega)).1]; exact n2 c hc, fun c hc => by rw [(hf 42 0 0 _ (by unfold SM; omega) (by omega) (by omega)).2]; exact n3 c hc⟩
  · show mG (aG s) _
    unfold mG at h8 ⊢
    split at h8
    · rw [q 46 (by unfold SM; omega) (by omega)]; exact h8
    · rw [q 46 (by unfold SM; omega) (by omega), k59, k59, k59, k59]; exact h8
theorem sm_fewest_40 {len : Nat} (h5 : len ≤ 5) {row : List Nat} {n : Nat} (z1 z3 : jm_V) (d : Nat) : ∀ (r k : Nat) (m : jm_M), k + r = len → (∀ q, q < len → m.1 56 0 0 q = nI (row.getD q 0)) → (∀ q, q < k → m.1 55 0 0 q = nI (row.getD q 0)) → m.1 40 0 0 35 = nI n → ∃ m', jm_ev false (d + 1) 11 1 jc_X12_fewest 40 [vM, z1, .inl (nI len), z3, .inl (nI k)] [] m = some (.inl (nI n), jm_sI m' 40 0 0 2 0) ∧ m'.1 40 0 0 37 = nI len ∧ (∀ q, q < len → m'.1 55 0 0 q = nI (row.getD q 0)) ∧ fr (fun K _ _ k => K = 55 ∨ (K = 40 ∧ k = 37)) m m'
  | 0, k, m, hr, h1, h2, h3 => by
    refine ⟨jm_sI m 40 0 0 37 (nI len), ?_, by rw [rd_II, if_pos ⟨rfl, rfl, rfl, rfl⟩], fun q hq => by rw [rd_II, if_neg (by omega)]; exact h2 q (by omega), fr_I (Or.inr ⟨rfl, rfl⟩)⟩
    rw [l_X12_fewest_40]
    simp (disch := omega) only [jg_lit, jg_litL, jg_m1, jg_m1L, nI_add, lN_add, pk_mul, jg_sub, jg_subM, jg_addM, jg_addM', jg_negM, jt_in, jt_ix, jt_bi, jt_bl, jt_bv, jt_lt, jg_dT, jg_dF, jt_c, jt_cd, ru_I, ru_L, jg_leI, jg_ltI, jg_eqI, jg_M1, jg_M2, jg_M3, jg_M4, jg_M5, jg_M6, jg_ltT, jg_ltF, jg_leT, jg_leF, jg_eqT, jg_eqF, cond_true, cond_false, ne_eq, not_true_eq_false, not_false_eq_true, decide_true, decide_false, if_true, if_false, and_true, true_and, and_false, false_and, or_true, true_or, or_false, false_or, Nat.reduceEqDiff, reduceIte, Nat.reduceMul, Nat.reduceAdd, Nat.reduceSub, Nat.add_zero, Nat.zero_add, Nat.mul_zero, eq_self_iff_true, jg_not_lt, jg_not_le, h3, sm_gives]
  | r + 1, k, m, hr, h1, h2, h3 => by
    have h56 := h1 k (by omega)
    obtain ⟨m', e1, e2, e3, e4⟩ := sm_fewest_40 (row := row) h5 z1 z3 d r (k + 1) (jm_sI m 55 0 0 k (nI (row.getD k 0))) (by omega) (fun q hq => by rw [rd_II, if_neg (by omega)]; exact h1 q hq) (fun q hq => by
      rw [rd_II]
      by_cases e : q = k
      · rw [if_pos ⟨rfl, rfl, rfl, e⟩, e]
      · rw [if_neg (by omega)]; exact h2 q (by omega)) (by rw [rd_II, if_neg (by omega)]; exact h3)
    refine ⟨m', ?_, e2, e3, (fr_I (Or.inl rfl)).tr e4⟩
    rw [← e1, l_X12_fewest_40]
    simp (disch := omega) only [jg_lit, jg_litL, jg_m1, jg_m1L, nI_add, lN_add, pk_mul, jg_sub, jg_subM, jg_addM, jg_addM', jg_negM, jt_in, jt_ix, jt_bi, jt_bl, jt_bv, jt_lt, jg_dT, jg_dF, jt_c, jt_cd, ru_I, ru_L, jg_leI, jg_ltI, jg_eqI, jg_M1, jg_M2, jg_M3, jg_M4, jg_M5, jg_M6, jg_ltT, jg_ltF, jg_leT, jg_leF, jg_eqT, jg_eqF, cond_true, cond_false, ne_eq, not_true_eq_false, not_false_eq_true, decide_true, decide_false, if_true, if_false, and_true, true_and, and_false, false_and, or_true, true_or, or_false, false_or, Nat.reduceEqDiff, reduceIte, Nat.reduceMul, Nat.reduceAdd, Nat.reduceSub, Nat.add_zero, Nat.zero_add, Nat.mul_zero, eq_self_iff_true, jg_not_lt, jg_not_le, h56]
theorem bestN_ok {gs : List Nat} (h5 : gs.length ≤ 5) (V : Vl) : okB 5 gs.length (bestN gs V 0 [] none) := okB_N gs V 0 [] none (by omega) (Nat.zero_add _) (fun x hx => absurd hx List.not_mem_nil) (fun c hc => by cases hc)
def QX2 (K i j k : Nat) : Prop := QX K i j k ∨ K = 22 ∨ K = 23
theorem xA_B {s : St} {μ m : jm_M} (h : xA s μ) (ho : okA s) {B : List Nat} (hB : okA (stB s B)) (hv : xV (aV s) 0 m) (hf : fr QX2 μ m) (b1 : m.1 22 0 0 1 = nI B.length) (b2 : ∀ k, k < B.length → m.1 23 0 0 k = nI (B.getD k 0)) (x : Int32) : xA (stV (stB s B) (aV s) x) (jm_sI m 0 0 0 14 x) := ⟨xV_st hv x, xO_st (xO_B h.2 ho (fun K i j k hS h22 h23 => hf K i j k (fun z => z.elim (fun z => z hS) (fun z => z.elim h22 h23))) b1 b2) hB (aV s) x⟩
theorem mA_B {s : St} {μ m : jm_M} (h : mA s μ) (ho : okA s) {B : List Nat} (hv : mF (aV s) m) (hf : fr (fun K i j k => QM K i j k ∨ (K = 40 ∧ k = 37) ∨ K = 55) μ m) (b1 : m.1 40 0 0 37 = nI B.length) (b2 : ∀ k, k < B.length → m.1 55 0 0 k = nI (B.getD k 0)) (x : Int32) : mA (stV (stB s B) (aV s) x) (jm_sI m 40 0 0 2 x) := ⟨mF_st hv ho.1 x, mO_st (mO_B h.2 ho (fun K i j k hS h22 h23 => hf K i j k (fun z => z.elim (fun z => z hS) (fun z => z.elim h22 h23))) b1 b2) (aV s) x⟩
theorem c_fewest (x y : Int32) : jcall jn_X11_fewest jn_X12_fewest [.inl x, .inl y] := by
  intro s μ ho hx hm
  rcases story_cases ho hx hm x y 94 with ⟨w, ma, w1, w2, e1, e2, e3⟩ | ⟨gs, t, ma, hg, h1, ht, rfl, rfl, e1, e2, e3, e4, e5⟩
  · refine jcall_V ho hx hm ho.1 (ma := ma) (mb := μ) (v := .inl jM) (nI w) (xV_n hx.1 e2 (fun _ _ _ _ => P24_20)) (P24_Q e2) hm.1 .rf ?_ ?_
    · rw [e_X11_fewest]; simp (disch := omega) only [jg_lit, jg_litL, jg_m1, jg_m1L, nI_add, lN_add, pk_mul, jg_sub, jg_subM, jg_addM, jg_addM', jg_negM, jt_in, jt_ix, jt_bi, jt_bl, jt_bv, jt_lt, jg_dT, jg_dF, jt_c, jt_cd, ru_I, ru_L, jg_leI, jg_ltI, jg_eqI, jg_M1, jg_M2, jg_M3, jg_M4, jg_M5, jg_M6, jg_ltT, jg_ltF, jg_leT, jg_leF, jg_eqT, jg_eqF, cond_true, cond_false, ne_eq, not_true_eq_false, not_false_eq_true, decide_true, decide_false, if_true, if_false, and_true, true_and, and_false, false_and, or_true, true_or, or_false, false_or, Nat.reduceEqDiff, reduceIte, Nat.reduceMul, Nat.reduceAdd, Nat.reduceSub, Nat.add_zero, Nat.zero_add, Nat.mul_zero, eq_self_iff_true, jg_not_lt, jg_not_le, e1, sx_fail]
    · rw [e_X12_fewest]; simp (disch := omega) only [jg_lit, jg_litL, jg_m1, jg_m1L, nI_add, lN_add, pk_mul, jg_sub, jg_subM, jg_addM, jg_addM', jg_negM, jt_in, jt_ix, jt_bi, jt_bl, jt_bv, jt_lt, jg_dT, jg_dF, jt_c, jt_cd, ru_I, ru_L, jg_leI, jg_ltI, jg_eqI, jg_M1, jg_M2, jg_M3, jg_M4, jg_M5, jg_M6, jg_ltT, jg_ltF, jg_leT, jg_leF, jg_eqT, jg_eqF, cond_true, cond_false, ne_eq, not_true_eq_false, not_false_eq_true, decide_true, decide_false, if_true, if_false, and_true, true_and, and_false, false_and, or_true, true_or, or_false, false_or, Nat.reduceEqDiff, reduceIte, Nat.reduceMul, Nat.reduceAdd, Nat.reduceSub, Nat.add_zero, Nat.zero_add, Nat.mul_zero, eq_self_iff_true, jg_not_lt, jg_not_le, e3, sm_refuse]
  · obtain ⟨g, t', hgs⟩ := g_ne h1
    have v0 := xV_n hx.1 e3 (fun _ _ _ _ => P24_20)
    have v1 : xV (aV s) 0 (jm_sI ma 22 0 0 11 (nI 99)) := xV_c (by decide) v0
    have r1 : xRow gs (jm_sI ma 22 0 0 11 (nI 99)) := ⟨by rw [rd_II, if_neg (by omega)]; exact e2.1, fun q hq => by rw [rd_II, if_neg (by omega)]; exact e2.2 q hq⟩
    obtain ⟨m2, a1, a2, a3⟩ := sx_forget ho.1.2.2.2.1.1 96 (jm_sI ma 22 0 0 11 (nI 99))
    have v2 := xV_n v1 a3 (fun K _ _ _ z => by omega)
    have h5 := hg.1
    have tl : t'.length ≤ 4 := by rw [hgs] at h5; have h5 : t'.length + 1 ≤ 5 := h5; omega
    have rr := rowsN_lt h5 (aV s)
    have hB0 : xB none (fun k => μ.1 23 0 0 k) gs.length m2 := ⟨by rw [(a3 22 0 0 11 (by decide)).1, rd_II, if_pos ⟨rfl, rfl, rfl, rfl⟩]; rfl, fun _ k => by rw [(a3 23 0 0 k (show ¬ ((23 : Nat) = 29) by decide)).1, rd_II, if_neg (by omega), (e3 23 0 0 k (by unfold P24; omega)).1], fun c hc => by cases hc⟩
    obtain ⟨m3, b1, b2, b3, b4, b5⟩ := sx_seek hg (91 - t'.length) t' g 0 hgs (aV s) 0 [] none m2 rfl (Nat.le_refl 0) (fun x hx => absurd hx List.not_mem_nil) ho.1 v2 a2 (xRow_29 r1 a3) (fun q hq => absurd hq (Nat.not_lt_zero q)) (fun c hc => by cases hc) hB0
    rw [← hgs] at b4
    rw [show 91 - t'.length + 6 + t'.length = 97 by omega] at b1
    obtain ⟨n1, c1, c2, c3⟩ := sm_through hg ht ho.1 hm.1 e5 91
    have c34 := c2.1
    have c35 := c2.2.2.1
    have b11 := b4.1
    have b10 : m3.1 22 0 0 10 = nI gs.length := (xRow_q (xRow_29 r1 a3) b5).1
    have f3 : fr QX2 μ m3 := ((fr.wk (Q := QX2) (P24_Q e3) (fun _ _ _ _ z => Or.inl z)).tr (fr_I (Or.inr (Or.inl rfl)))).tr ((fr.wk (Q := QX2) (f29_Q a3) (fun _ _ _ _ z => Or.inl z)).tr (b5.wk (fun K i j k z => by unfold PSq PSp at z; unfold QX2 QX SO; omega)))
    have b221 : m3.1 22 0 0 1 = nI (aB s).length := by
      rw [(b5 22 0 0 1 (by unfold PSq PSp; omega)).1, (a3 22 0 0 1 (by decide)).1, rd_II, if_neg (by omega), (e3 22 0 0 1 (by unfold P24; omega)).1]
      exact hx.2.2.2.2.2.2.1
    have no := bestN_none gs (aV s) 0 [] none
    have bok := bestN_ok h5 (aV s)
    cases hb : bestN gs (aV s) 0 [] none with
    | none =>
      have r0 := (no.mp hb).2
      rw [hb] at b4 b11
      have b11 : m3.1 22 0 0 11 = nI 99 := b11
      rw [r0] at c34
      have fl : jm_sem false 98 jn_X5_fewestLetters [.inr (.inr (.inl (22, 0, 0))), .inr (.inr (.inl (10, 0, 0)))] ma = some (.inl jM, m3) := by
        rw [e_X5_fewestLetters]; simp (disch := omega) only [jg_lit, jg_litL, jg_m1, jg_m1L, nI_add, lN_add, pk_mul, jg_sub, jg_subM, jg_addM, jg_addM', jg_negM, jt_in, jt_ix, jt_bi, jt_bl, jt_bv, jt_lt, jg_dT, jg_dF, jt_c, jt_cd, ru_I, ru_L, jg_leI, jg_ltI, jg_eqI, jg_M1, jg_M2, jg_M3, jg_M4, jg_M5, jg_M6, jg_ltT, jg_ltF, jg_leT, jg_leF, jg_eqT, jg_eqF, cond_true, cond_false, ne_eq, not_true_eq_false, not_false_eq_true, decide_true, decide_false, if_true, if_false, and_true, true_and, and_false, false_and, or_true, true_or, or_false, false_or, Nat.reduceEqDiff, reduceIte, Nat.reduceMul, Nat.reduceAdd, Nat.reduceSub, Nat.add_zero, Nat.zero_add, Nat.mul_zero, eq_self_iff_true, jg_not_lt, jg_not_le, a1, b1, b11]
      refine ⟨.inl jM, stV (stB s (aB s)) (aV s) (nI 6), _, _, okA_V ho ho.1 _, ?_, ?_, xA_B hx ho ho b2 f3 b221 (fun k hk => ?_) (nI 6), mA_fin hm ho ho.1 (PGt_F hm.1 ho.1 c3) (PGt_Q c3) (nI 6)⟩
      · rw [e_X11_fewest]; simp (disch := omega) only [jg_lit, jg_litL, jg_m1, jg_m1L, nI_add, lN_add, pk_mul, jg_sub, jg_subM, jg_addM, jg_addM', jg_negM, jt_in, jt_ix, jt_bi, jt_bl, jt_bv, jt_lt, jg_dT, jg_dF, jt_c, jt_cd, ru_I, ru_L, jg_leI, jg_ltI, jg_eqI, jg_M1, jg_M2, jg_M3, jg_M4, jg_M5, jg_M6, jg_ltT, jg_ltF, jg_leT, jg_leF, jg_eqT, jg_eqF, cond_true, cond_false, ne_eq, not_true_eq_false, not_false_eq_true, decide_true, decide_false, if_true, if_false, and_true, true_and, and_false, false_and, or_true, true_or, or_false, false_or, Nat.reduceEqDiff, reduceIte, Nat.reduceMul, Nat.reduceAdd, Nat.reduceSub, Nat.add_zero, Nat.zero_add, Nat.mul_zero, eq_self_iff_true, jg_not_lt, jg_not_le, e1, fl, sx_fail]
      · rw [e_X12_fewest]; simp (disch := omega) only [jg_lit, jg_litL, jg_m1, jg_m1L, nI_add, lN_add, pk_mul, jg_sub, jg_subM, jg_addM, jg_addM', jg_negM, jt_in, jt_ix, jt_bi, jt_bl, jt_bv, jt_lt, jg_dT, jg_dF, jt_c, jt_cd, ru_I, ru_L, jg_leI, jg_ltI, jg_eqI, jg_M1, jg_M2, jg_M3, jg_M4, jg_M5, jg_M6, jg_ltT, jg_ltF, jg_leT, jg_leF, jg_eqT, jg_eqF, cond_true, cond_false, ne_eq, not_true_eq_false, not_false_eq_true, decide_true, decide_false, if_true, if_false, and_true, true_and, and_false, false_and, or_true, true_or, or_false, false_or, Nat.reduceEqDiff, reduceIte, Nat.reduceMul, Nat.reduceAdd, Nat.reduceSub, Nat.add_zero, Nat.zero_add, Nat.mul_zero, eq_self_iff_true, jg_not_lt, jg_not_le, e4, c1, c34, sm_refuse]
      · rw [b4.2.1 rfl k]
        exact hx.2.2.2.2.2.2.2.1 k hk
    | some c =>
      obtain ⟨k1, k2, k3⟩ := bok c hb
      have r0 : rowsN gs (aV s) ≠ 0 := fun z => by have := no.mpr ⟨rfl, z⟩; rw [hb] at this; cases this
      rw [hb] at b4 b11 c35
      have b11 : m3.1 22 0 0 11 = nI c.1 := b11
      have c35 : n1.1 40 0 0 35 = nI c.1 := c35
      have fl : jm_sem false 98 jn_X5_fewestLetters [.inr (.inr (.inl (22, 0, 0))), .inr (.inr (.inl (10, 0, 0)))] ma = some (.inl (nI c.1), jm_sI m3 22 0 0 1 (nI gs.length)) := by
        rw [e_X5_fewestLetters]; simp (disch := omega) only [jg_lit, jg_litL, jg_m1, jg_m1L, nI_add, lN_add, pk_mul, jg_sub, jg_subM, jg_addM, jg_addM', jg_negM, jt_in, jt_ix, jt_bi, jt_bl, jt_bv, jt_lt, jg_dT, jg_dF, jt_c, jt_cd, ru_I, ru_L, jg_leI, jg_ltI, jg_eqI, jg_M1, jg_M2, jg_M3, jg_M4, jg_M5, jg_M6, jg_ltT, jg_ltF, jg_leT, jg_leF, jg_eqT, jg_eqF, cond_true, cond_false, ne_eq, not_true_eq_false, not_false_eq_true, decide_true, decide_false, if_true, if_false, and_true, true_and, and_false, false_and, or_true, true_or, or_false, false_or, Nat.reduceEqDiff, reduceIte, Nat.reduceMul, Nat.reduceAdd, Nat.reduceSub, Nat.add_zero, Nat.zero_add, Nat.mul_zero, eq_self_iff_true, jg_not_lt, jg_not_le, a1, b1, b11, b10]
      have oB : okA (stB s c.2) := ⟨ho.1, ho.2.1, ho.2.2.1, by show c.2.length ≤ 5; omega, fun k hk => k3 _ (getD_memN hk)⟩
      obtain ⟨n2, d1, d2, d3, d4⟩ := sm_fewest_40 (row := c.2) (n := c.1) h5 (.inl (nI t)) (.inl (nI 0)) 97 gs.length 0 n1 (by omega) (fun q hq => c2.2.2.2 c hb q hq) (fun q hq => by omega) c35
      have f2 : mF (aV s) n2 := mF_fr (PGt_F hm.1 ho.1 c3) ho.1 d4 (fun k hk => by omega) (fun k hk => by omega)
      refine ⟨.inl (nI c.1), stV (stB s c.2) (aV s) 0, _, _, okA_V oB ho.1 _, ?_, ?_, xA_B (m := jm_sI m3 22 0 0 1 (nI gs.length)) hx ho oB (xV_c (by decide) b2) (f3.tr (fr_I (Or.inr (Or.inl rfl)))) (by rw [rd_II, if_pos ⟨rfl, rfl, rfl, rfl⟩, k2]) (fun k hk => ?_) 0, mA_B (m := n2) hm ho f2 (((PGt_Q c3).wk (fun _ _ _ _ z => Or.inl z)).tr (d4.wk (fun K i j k z => by omega))) (by rw [d2, k2]) (fun k hk => d3 k (by omega)) 0⟩
      · rw [e_X11_fewest]; simp (disch := omega) only [jg_lit, jg_litL, jg_m1, jg_m1L, nI_add, lN_add, pk_mul, jg_sub, jg_subM, jg_addM, jg_addM', jg_negM, jt_in, jt_ix, jt_bi, jt_bl, jt_bv, jt_lt, jg_dT, jg_dF, jt_c, jt_cd, ru_I, ru_L, jg_leI, jg_ltI, jg_eqI, jg_M1, jg_M2, jg_M3, jg_M4, jg_M5, jg_M6, jg_ltT, jg_ltF, jg_leT, jg_leF, jg_eqT, jg_eqF, cond_true, cond_false, ne_eq, not_true_eq_false, not_false_eq_true, decide_true, decide_false, if_true, if_false, and_true, true_and, and_false, false_and, or_true, true_or, or_false, false_or, Nat.reduceEqDiff, reduceIte, Nat.reduceMul, Nat.reduceAdd, Nat.reduceSub, Nat.add_zero, Nat.zero_add, Nat.mul_zero, eq_self_iff_true, jg_not_lt, jg_not_le, e1, fl, sx_give]
      · rw [e_X12_fewest]; simp (disch := omega) only [jg_lit, jg_litL, jg_m1, jg_m1L, nI_add, lN_add, pk_mul, jg_sub, jg_subM, jg_addM, jg_addM', jg_negM, jt_in, jt_ix, jt_bi, jt_bl, jt_bv, jt_lt, jg_dT, jg_dF, jt_c, jt_cd, ru_I, ru_L, jg_leI, jg_ltI, jg_eqI, jg_M1, jg_M2, jg_M3, jg_M4, jg_M5, jg_M6, jg_ltT, jg_ltF, jg_leT, jg_leF, jg_eqT, jg_eqF, cond_true, cond_false, ne_eq, not_true_eq_false, not_false_eq_true, decide_true, decide_false, if_true, if_false, and_true, true_and, and_false, false_and, or_true, true_or, or_false, false_or, Nat.reduceEqDiff, reduceIte, Nat.reduceMul, Nat.reduceAdd, Nat.reduceSub, Nat.add_zero, Nat.zero_add, Nat.mul_zero, eq_self_iff_true, jg_not_lt, jg_not_le, e4, c1, c34]
        exact d1
      · rw [rd_II, if_neg (by omega)]
        exact b4.2.2 c rfl k (by omega)
/-! ===== story ===== -/
/-- a story told by cheap words -/
def tellC : List Nat → Vl → Nat → Option (Nat × Vl)
  | [], V, n => some (n, V)
  | g :: t, V, n => match cheapW (vlW V) g with
    | none => none
    | some k => tellC t (sayV V k) (n + sayN V k)
theorem tellC_ok : ∀ (t : List Nat) (V : Vl) (n : Nat) (q : Nat × Vl), okV V → tellC t V n = some q → okV q.2 ∧ q.1 ≤ n + t.length ∧ vlS q.2 = vlS V ∧ vlR q.2 = vlR V ∧ vlK q.2 = vlK V ∧ vlP q.2 = vlP V ∧ (vlW q.2).length = (vlW V).length
  | [], V, n, q, ho, h => by
    have := Option.some.inj h
    subst this
    exact ⟨ho, Nat.le_refl _, rfl, rfl, rfl, rfl, rfl⟩
  | g :: t, V, n, q, ho, h => by
    unfold tellC at h
    split at h
    · cases h
    · rename_i k hk
      obtain ⟨k1, k2⟩ := cheapW_lt ho.2.2.2.1.2.1 hk
      obtain ⟨a, b, c, d, e, f, l⟩ := tellC_ok t (sayV V k) _ q (okV_say ho k1 k2) h
      have := sayN_le V k
      exact ⟨a, by rw [List.length_cons]; omega, c, d, e, f, l.trans (sayWs_len V k)⟩
theorem sx_cheaply {gs : List Nat} (hg : okG gs) (d : Nat) : ∀ (t : List Nat) (p n : Nat) (V : Vl) (z4 : jm_V) (m : jm_M), gs.drop p = t → p ≤ gs.length → n ≤ p → okV V → xV V 1 m → xRow gs m → ∃ m', (match tellC t V n with | none => jm_ev false (d + 5) 4 1 jc_X5_tellCheaply 4 [.inr (.inr (.inl (22, 0, 0))), .inr (.inr (.inl (10, 1, 0))), .inl (nI n), .inl (nI p), z4] [] m = some (.inl jM, m') | some q => jm_ev false (d + 5) 4 1 jc_X5_tellCheaply 4 [.inr (.inr (.inl (22, 0, 0))), .inr (.inr (.inl (10, 1, 0))), .inl (nI n), .inl (nI p), z4] [] m = some (.inl (nI q.1), m') ∧ xV q.2 1 m') ∧ fr (PW 1) m m'
  | [], p, n, V, z4, m, hd, hp, hn, ho, h, hw => by
    have hl : (gs.drop p).length = 0 := by rw [hd]; rfl
    rw [List.length_drop] at hl
    have h5 := hg.1
    have w1 := hw.1
    refine ⟨m, ?_, .rf⟩
    show _ ∧ _
    refine ⟨?_, h⟩
    rw [l_X5_tellCheaply_4]
    simp (disch := omega) only [jg_lit, jg_litL, jg_m1, jg_m1L, nI_add, lN_add, pk_mul, jg_sub, jg_subM, jg_addM, jg_addM', jg_negM, jt_in, jt_ix, jt_bi, jt_bl, jt_bv, jt_lt, jg_dT, jg_dF, jt_c, jt_cd, ru_I, ru_L, jg_leI, jg_ltI, jg_eqI, jg_M1, jg_M2, jg_M3, jg_M4, jg_M5, jg_M6, jg_ltT, jg_ltF, jg_leT, jg_leF, jg_eqT, jg_eqF, cond_true, cond_false, ne_eq, not_true_eq_false, not_false_eq_true, decide_true, decide_false, if_true, if_false, and_true, true_and, and_false, false_and, or_true, true_or, or_false, false_or, Nat.reduceEqDiff, reduceIte, Nat.reduceMul, Nat.reduceAdd, Nat.reduceSub, Nat.add_zero, Nat.zero_add, Nat.mul_zero, eq_self_iff_true, jg_not_lt, jg_not_le, w1]
  | g :: t, p, n, V, z4, m, hd, hp, hn, ho, h, hw => by
    obtain ⟨hpl, hge, hd2, hl⟩ := drop_c hd
    have h5 := hg.1
    have hgl := hg.2 p hpl
    rw [hge] at hgl
    have w1 := hw.1
    have w2 := hw.2 p hpl
    rw [hge] at w2
    have cw := sx_cheapWord h ho.2.2.2.1 (g := g) (by omega) (d + 2)
    unfold tellC
    cases hc : cheapW (vlW V) g with
    | none =>
      rw [hc, show jpl none = jM from rfl] at cw
      refine ⟨m, ?_, .rf⟩
      show _ = _
      rw [l_X5_tellCheaply_4]
      simp (disch := omega) only [jg_lit, jg_litL, jg_m1, jg_m1L, nI_add, lN_add, pk_mul, jg_sub, jg_subM, jg_addM, jg_addM', jg_negM, jt_in, jt_ix, jt_bi, jt_bl, jt_bv, jt_lt, jg_dT, jg_dF, jt_c, jt_cd, ru_I, ru_L, jg_leI, jg_ltI, jg_eqI, jg_M1, jg_M2, jg_M3, jg_M4, jg_M5, jg_M6, jg_ltT, jg_ltF, jg_leT, jg_leF, jg_eqT, jg_eqF, cond_true, cond_false, ne_eq, not_true_eq_false, not_false_eq_true, decide_true, decide_false, if_true, if_false, and_true, true_and, and_false, false_and, or_true, true_or, or_false, false_or, Nat.reduceEqDiff, reduceIte, Nat.reduceMul, Nat.reduceAdd, Nat.reduceSub, Nat.add_zero, Nat.zero_add, Nat.mul_zero, eq_self_iff_true, jg_not_lt, jg_not_le, w1, w2, cw]
    | some k =>
      rw [hc, show jpl (some k) = nI k from rfl] at cw
      obtain ⟨k1, k2⟩ := cheapW_lt ho.2.2.2.1.2.1 hc
      have k12 := ho.2.2.2.1.1
      obtain ⟨m1, e1, v1, f1⟩ := sx_sayWord h ho k1 k2 d
      have sn := sayN_le V k
      obtain ⟨m2, e2, f2⟩ := sx_cheaply hg d t (p + 1) (n + sayN V k) (sayV V k) (.inl (nI k)) m1 hd2 (by omega) (by omega) (okV_say ho k1 k2) v1 (xRow_fr hw f1 (fun z => by unfold PW at z; omega) (fun k z => by unfold PW at z; omega))
      have go : jm_ev false (d + 5) 4 1 jc_X5_tellCheaply 4 [.inr (.inr (.inl (22, 0, 0))), .inr (.inr (.inl (10, 1, 0))), .inl (nI n), .inl (nI p), z4] [] m = jm_ev false (d + 5) 4 1 jc_X5_tellCheaply 4 [.inr (.inr (.inl (22, 0, 0))), .inr (.inr (.inl (10, 1, 0))), .inl (nI (n + sayN V k)), .inl (nI (p + 1)), .inl (nI k)] [] m1 := by
        rw [l_X5_tellCheaply_4]
        simp (disch := omega) only [jg_lit, jg_litL, jg_m1, jg_m1L, nI_add, lN_add, pk_mul, jg_sub, jg_subM, jg_addM, jg_addM', jg_negM, jt_in, jt_ix, jt_bi, jt_bl, jt_bv, jt_lt, jg_dT, jg_dF, jt_c, jt_cd, ru_I, ru_L, jg_leI, jg_ltI, jg_eqI, jg_M1, jg_M2, jg_M3, jg_M4, jg_M5, jg_M6, jg_ltT, jg_ltF, jg_leT, jg_leF, jg_eqT, jg_eqF, cond_true, cond_false, ne_eq, not_true_eq_false, not_false_eq_true, decide_true, decide_false, if_true, if_false, and_true, true_and, and_false, false_and, or_true, true_or, or_false, false_or, Nat.reduceEqDiff, reduceIte, Nat.reduceMul, Nat.reduceAdd, Nat.reduceSub, Nat.add_zero, Nat.zero_add, Nat.mul_zero, eq_self_iff_true, jg_not_lt, jg_not_le, w1, w2, cw, e1]
      refine ⟨m2, ?_, f1.tr f2⟩
      rw [go]
      exact e2
theorem sm_cheaply {gs : List Nat} (hg : okG gs) {tr : Nat} (ht : tr < 4) (z3 : jm_V) (d : Nat) : ∀ (t : List Nat) (p n : Nat) (V : Vl) (z6 : jm_V) (m : jm_M), gs.drop p = t → p ≤ gs.length → n ≤ p → okV V → mV V 3850 m → mS (vlS V) m → mL (vlR V) m → (∀ q, q < gs.length → m.2 45 0 0 (60 * tr + q) = lN (gs.getD q 0)) → ∃ m', (match tellC t V n with | none => jm_ev false (d + 6) 11 1 jc_X12_story 31 [vM, .inl (nI tr), .inl (nI gs.length), z3, .inl (nI n), .inl (nI p), z6] [] m = some (.inl jM, jm_sI m' 40 0 0 2 (nI 6)) | some q => ∃ m'', jm_ev false (d + 6) 11 1 jc_X12_story 31 [vM, .inl (nI tr), .inl (nI gs.length), z3, .inl (nI n), .inl (nI p), z6] [] m = some (.inl (nI q.1), jm_sI m'' 40 0 0 2 (nI 0)) ∧ mV q.2 0 m'' ∧ fr (PA 0 490) m' m'' ∧ m''.1 41 0 0 3 = m'.1 41 0 0 3853) ∧ fr (PS 3850) m m'
  | [], p, n, V, z6, m, hd, hp, hn, ho, h, hS, hL, h4 => by
    have hl : (gs.drop p).length = 0 := by rw [hd]; rfl
    rw [List.length_drop] at hl
    have h5 := hg.1
    obtain ⟨m2, a1, a2, a3, a4⟩ := sm_laysV h ho.2.2.2.1 (a := 3850) (b := 0) (by omega) (by omega) (Or.inr (by omega)) (d + 5)
    refine ⟨m, ?_, .rf⟩
    show ∃ m'', _ ∧ _ ∧ _ ∧ _
    refine ⟨m2, ?_, a2, a4, a3⟩
    rw [l_X12_story_31]
    simp (disch := omega) only [jg_lit, jg_litL, jg_m1, jg_m1L, nI_add, lN_add, pk_mul, jg_sub, jg_subM, jg_addM, jg_addM', jg_negM, jt_in, jt_ix, jt_bi, jt_bl, jt_bv, jt_lt, jg_dT, jg_dF, jt_c, jt_cd, ru_I, ru_L, jg_leI, jg_ltI, jg_eqI, jg_M1, jg_M2, jg_M3, jg_M4, jg_M5, jg_M6, jg_ltT, jg_ltF, jg_leT, jg_leF, jg_eqT, jg_eqF, cond_true, cond_false, ne_eq, not_true_eq_false, not_false_eq_true, decide_true, decide_false, if_true, if_false, and_true, true_and, and_false, false_and, or_true, true_or, or_false, false_or, Nat.reduceEqDiff, reduceIte, Nat.reduceMul, Nat.reduceAdd, Nat.reduceSub, Nat.add_zero, Nat.zero_add, Nat.mul_zero, eq_self_iff_true, jg_not_lt, jg_not_le, a1, sm_gives]
  | g :: t, p, n, V, z6, m, hd, hp, hn, ho, h, hS, hL, h4 => by
    obtain ⟨hpl, hge, hd2, hl⟩ := drop_c hd
    have h5 := hg.1
    have hgl := hg.2 p hpl
    rw [hge] at hgl
    have ma : jm_sem false (d + 6) jn_X12_meaningAt [vM, .inl (nI tr), .inl (nI p)] m = some (.inl (nI g), m) := by
      have t4 := h4 p hpl
      rw [hge] at t4
      have li : (lN g).toInt32 = nI g := lN_i _
      rw [e_X12_meaningAt]
      simp (disch := omega) only [jg_lit, jg_litL, jg_m1, jg_m1L, nI_add, lN_add, pk_mul, jg_sub, jg_subM, jg_addM, jg_addM', jg_negM, jt_in, jt_ix, jt_bi, jt_bl, jt_bv, jt_lt, jg_dT, jg_dF, jt_c, jt_cd, ru_I, ru_L, jg_leI, jg_ltI, jg_eqI, jg_M1, jg_M2, jg_M3, jg_M4, jg_M5, jg_M6, jg_ltT, jg_ltF, jg_leT, jg_leF, jg_eqT, jg_eqF, cond_true, cond_false, ne_eq, not_true_eq_false, not_false_eq_true, decide_true, decide_false, if_true, if_false, and_true, true_and, and_false, false_and, or_true, true_or, or_false, false_or, Nat.reduceEqDiff, reduceIte, Nat.reduceMul, Nat.reduceAdd, Nat.reduceSub, Nat.add_zero, Nat.zero_add, Nat.mul_zero, eq_self_iff_true, jg_not_lt, jg_not_le, t4, li]
    have cw := sm_cheapIn h (by omega) ho.2.2.2.1 (g := g) (by omega) (d + 4)
    unfold tellC
    cases hc : cheapW (vlW V) g with
    | none =>
      rw [hc, show jpl none = jM from rfl] at cw
      refine ⟨m, ?_, .rf⟩
      show _ = _
      rw [l_X12_story_31]
      simp (disch := omega) only [jg_lit, jg_litL, jg_m1, jg_m1L, nI_add, lN_add, pk_mul, jg_sub, jg_subM, jg_addM, jg_addM', jg_negM, jt_in, jt_ix, jt_bi, jt_bl, jt_bv, jt_lt, jg_dT, jg_dF, jt_c, jt_cd, ru_I, ru_L, jg_leI, jg_ltI, jg_eqI, jg_M1, jg_M2, jg_M3, jg_M4, jg_M5, jg_M6, jg_ltT, jg_ltF, jg_leT, jg_leF, jg_eqT, jg_eqF, cond_true, cond_false, ne_eq, not_true_eq_false, not_false_eq_true, decide_true, decide_false, if_true, if_false, and_true, true_and, and_false, false_and, or_true, true_or, or_false, false_or, Nat.reduceEqDiff, reduceIte, Nat.reduceMul, Nat.reduceAdd, Nat.reduceSub, Nat.add_zero, Nat.zero_add, Nat.mul_zero, eq_self_iff_true, jg_not_lt, jg_not_le, ma, cw, sm_refuse]
    | some k =>
      rw [hc, show jpl (some k) = nI k from rfl] at cw
      obtain ⟨k1, k2⟩ := cheapW_lt ho.2.2.2.1.2.1 hc
      have k12 := ho.2.2.2.1.1
      obtain ⟨m1, e1, v1, f1⟩ := sm_says h (by omega) ho hS hL k1 k2 d
      have sn := sayN_le V k
      obtain ⟨m2, e2, f2⟩ := sm_cheaply hg ht z3 d t (p + 1) (n + sayN V k) (sayV V k) (.inl (nI k)) m1 hd2 (by omega) (by omega) (okV_say ho k1 k2) v1 (mS_fr hS f1 (by omega)) (mL_fr hL f1 (by omega) ho.2.2.2.2.2.2) (fun q hq => by rw [(f1 45 0 0 _ (by unfold PS; omega)).2]; exact h4 q hq)
      have go : jm_ev false (d + 6) 11 1 jc_X12_story 31 [vM, .inl (nI tr), .inl (nI gs.length), z3, .inl (nI n), .inl (nI p), z6] [] m = jm_ev false (d + 6) 11 1 jc_X12_story 31 [vM, .inl (nI tr), .inl (nI gs.length), z3, .inl (nI (n + sayN V k)), .inl (nI (p + 1)), .inl (nI k)] [] m1 := by
        rw [l_X12_story_31]
        simp (disch := omega) only [jg_lit, jg_litL, jg_m1, jg_m1L, nI_add, lN_add, pk_mul, jg_sub, jg_subM, jg_addM, jg_addM', jg_negM, jt_in, jt_ix, jt_bi, jt_bl, jt_bv, jt_lt, jg_dT, jg_dF, jt_c, jt_cd, ru_I, ru_L, jg_leI, jg_ltI, jg_eqI, jg_M1, jg_M2, jg_M3, jg_M4, jg_M5, jg_M6, jg_ltT, jg_ltF, jg_leT, jg_leF, jg_eqT, jg_eqF, cond_true, cond_false, ne_eq, not_true_eq_false, not_false_eq_true, decide_true, decide_false, if_true, if_false, and_true, true_and, and_false, false_and, or_true, true_or, or_false, false_or, Nat.reduceEqDiff, reduceIte, Nat.reduceMul, Nat.reduceAdd, Nat.reduceSub, Nat.add_zero, Nat.zero_add, Nat.mul_zero, eq_self_iff_true, jg_not_lt, jg_not_le, ma, cw, e1]
      refine ⟨m2, ?_, f1.tr f2⟩
      rw [go]
      exact e2
theorem c_story (x y : Int32) : jcall jn_X11_story jn_X12_story [.inl x, .inl y] := by
  intro s μ ho hx hm
  rcases story_cases ho hx hm x y 94 with ⟨w, ma, w1, w2, e1, e2, e3⟩ | ⟨gs, t, ma, hg, h1, ht, rfl, rfl, e1, e2, e3, e4, e5⟩
  · refine jcall_V ho hx hm ho.1 (ma := ma) (mb := μ) (v := .inl jM) (nI w) (xV_n hx.1 e2 (fun _ _ _ _ => P24_20)) (P24_Q e2) hm.1 .rf ?_ ?_
    · rw [e_X11_story]; simp (disch := omega) only [jg_lit, jg_litL, jg_m1, jg_m1L, nI_add, lN_add, pk_mul, jg_sub, jg_subM, jg_addM, jg_addM', jg_negM, jt_in, jt_ix, jt_bi, jt_bl, jt_bv, jt_lt, jg_dT, jg_dF, jt_c, jt_cd, ru_I, ru_L, jg_leI, jg_ltI, jg_eqI, jg_M1, jg_M2, jg_M3, jg_M4, jg_M5, jg_M6, jg_ltT, jg_ltF, jg_leT, jg_leF, jg_eqT, jg_eqF, cond_true, cond_false, ne_eq, not_true_eq_false, not_false_eq_true, decide_true, decide_false, if_true, if_false, and_true, true_and, and_false, false_and, or_true, true_or, or_false, false_or, Nat.reduceEqDiff, reduceIte, Nat.reduceMul, Nat.reduceAdd, Nat.reduceSub, Nat.add_zero, Nat.zero_add, Nat.mul_zero, eq_self_iff_true, jg_not_lt, jg_not_le, e1, sx_fail]
    · rw [e_X12_story]; simp (disch := omega) only [jg_lit, jg_litL, jg_m1, jg_m1L, nI_add, lN_add, pk_mul, jg_sub, jg_subM, jg_addM, jg_addM', jg_negM, jt_in, jt_ix, jt_bi, jt_bl, jt_bv, jt_lt, jg_dT, jg_dF, jt_c, jt_cd, ru_I, ru_L, jg_leI, jg_ltI, jg_eqI, jg_M1, jg_M2, jg_M3, jg_M4, jg_M5, jg_M6, jg_ltT, jg_ltF, jg_leT, jg_leF, jg_eqT, jg_eqF, cond_true, cond_false, ne_eq, not_true_eq_false, not_false_eq_true, decide_true, decide_false, if_true, if_false, and_true, true_and, and_false, false_and, or_true, true_or, or_false, false_or, Nat.reduceEqDiff, reduceIte, Nat.reduceMul, Nat.reduceAdd, Nat.reduceSub, Nat.add_zero, Nat.zero_add, Nat.mul_zero, eq_self_iff_true, jg_not_lt, jg_not_le, e3, sm_refuse]
  · have v0 := xV_n hx.1 e3 (fun _ _ _ _ => P24_20)
    have h5 := hg.1
    have l12 := ho.1.2.2.2.1.1
    obtain ⟨m1, a1, a2, a3⟩ := sx_copyV v0 ho.1 (i := 1) (by decide) 96
    obtain ⟨m2, b1, b2⟩ := sx_cheaply hg 92 gs 0 0 (aV s) jm_j m1 rfl (Nat.zero_le _) (Nat.le_refl 0) ho.1 a2 (xRow_fr e2 a3 (fun z => by unfold PV at z; omega) (fun k z => by unfold PV at z; omega))
    obtain ⟨n1, c1, c2, c3, c4⟩ := sm_laysV hm.1.1 ho.1.2.2.2.1 (a := 0) (b := 3850) (by omega) (by omega) (Or.inl (by omega)) 97
    have lo : ∀ q, q < 3850 → n1.1 41 0 0 q = μ.1 41 0 0 q := fun q hq => (c4 41 0 0 q (by unfold PA; omega)).1
    obtain ⟨s2, l2⟩ := mLS_lo ho.1.2.2.2.2.2.2 hm.1.2.2.1 hm.1.2.2.2 (fun q hq => lo q (by omega))
    obtain ⟨n2, d1, d2⟩ := sm_cheaply hg ht (.inl (nI 0)) 92 gs 0 0 (aV s) jm_j n1 rfl (Nat.zero_le _) (Nat.le_refl 0) ho.1 c2 s2 l2 (fun q hq => by rw [(c4 45 0 0 _ (by unfold PA; omega)).2]; exact e5 q hq)
    have fx : fr QX μ m2 := ((P24_Q e3).tr (a3.wk (fun K i j k z => by unfold PV at z; unfold QX SO; omega))).tr (b2.wk (fun K i j k z => by unfold PW at z; unfold QX SO; omega))
    have fx0 : fr (fun K i _ _ => i = 1 ∨ 20 ≤ K) μ m2 := ((e3.wk (fun K i j k z => Or.inr (P24_20 z))).tr (a3.wk (fun K i j k z => Or.inl z.1))).tr (b2.wk (fun K i j k z => Or.inl z.2.1))
    have v2 : xV (aV s) 0 m2 := ⟨xH_fr hx.1.1 fx0 (fun K k hK z => by omega), fun j hj => xW_fr (hx.1.2 j hj) fx0 (fun k z => by omega)⟩
    have fm : fr (fun K _ _ k => (K = 41 ∧ 3850 ≤ k) ∨ (K = 40 ∧ k = 26) ∨ K = 49 ∨ K = 50) μ n2 := (c4.wk (fun K i j k z => by unfold PA at z; omega)).tr (d2.wk (fun K i j k z => by unfold PS at z; omega))
    have fmQ : fr QM μ n2 := fm.wk (fun K i j k z => by unfold QM SM; omega)
    have tc : jm_sem false 98 jn_X5_tellCheaply [.inr (.inr (.inl (22, 0, 0))), .inr (.inr (.inl (10, 1, 0)))] m1 = jm_ev false 97 4 1 jc_X5_tellCheaply 4 [.inr (.inr (.inl (22, 0, 0))), .inr (.inr (.inl (10, 1, 0))), .inl (nI 0), .inl (nI 0), jm_j] [] m1 := e_X5_tellCheaply 97 1 m1
    cases hc : tellC gs (aV s) 0 with
    | none =>
      rw [hc] at b1 d1
      have b1 : jm_ev false 97 4 1 jc_X5_tellCheaply 4 [.inr (.inr (.inl (22, 0, 0))), .inr (.inr (.inl (10, 1, 0))), .inl (nI 0), .inl (nI 0), jm_j] [] m1 = some (.inl jM, m2) := b1
      have d1 : jm_ev false 98 11 1 jc_X12_story 31 [vM, .inl (nI t), .inl (nI gs.length), .inl (nI 0), .inl (nI 0), .inl (nI 0), jm_j] [] n1 = some (.inl jM, jm_sI n2 40 0 0 2 (nI 6)) := d1
      refine jcall_V ho hx hm ho.1 (ma := m2) (mb := n2) (v := .inl jM) (nI 6) v2 fx (mF_fr hm.1 ho.1 fm (fun k hk => by omega) (fun k hk => by omega)) fmQ ?_ ?_
      · rw [e_X11_story]; simp (disch := omega) only [jg_lit, jg_litL, jg_m1, jg_m1L, nI_add, lN_add, pk_mul, jg_sub, jg_subM, jg_addM, jg_addM', jg_negM, jt_in, jt_ix, jt_bi, jt_bl, jt_bv, jt_lt, jg_dT, jg_dF, jt_c, jt_cd, ru_I, ru_L, jg_leI, jg_ltI, jg_eqI, jg_M1, jg_M2, jg_M3, jg_M4, jg_M5, jg_M6, jg_ltT, jg_ltF, jg_leT, jg_leF, jg_eqT, jg_eqF, cond_true, cond_false, ne_eq, not_true_eq_false, not_false_eq_true, decide_true, decide_false, if_true, if_false, and_true, true_and, and_false, false_and, or_true, true_or, or_false, false_or, Nat.reduceEqDiff, reduceIte, Nat.reduceMul, Nat.reduceAdd, Nat.reduceSub, Nat.add_zero, Nat.zero_add, Nat.mul_zero, eq_self_iff_true, jg_not_lt, jg_not_le, e1, a1, tc, b1, sx_fail]
      · rw [e_X12_story]; simp (disch := omega) only [jg_lit, jg_litL, jg_m1, jg_m1L, nI_add, lN_add, pk_mul, jg_sub, jg_subM, jg_addM, jg_addM', jg_negM, jt_in, jt_ix, jt_bi, jt_bl, jt_bv, jt_lt, jg_dT, jg_dF, jt_c, jt_cd, ru_I, ru_L, jg_leI, jg_ltI, jg_eqI, jg_M1, jg_M2, jg_M3, jg_M4, jg_M5, jg_M6, jg_ltT, jg_ltF, jg_leT, jg_leF, jg_eqT, jg_eqF, cond_true, cond_false, ne_eq, not_true_eq_false, not_false_eq_true, decide_true, decide_false, if_true, if_false, and_true, true_and, and_false, false_and, or_true, true_or, or_false, false_or, Nat.reduceEqDiff, reduceIte, Nat.reduceMul, Nat.reduceAdd, Nat.reduceSub, Nat.add_zero, Nat.zero_add, Nat.mul_zero, eq_self_iff_true, jg_not_lt, jg_not_le, e4, c1, d1]
    | some q =>
      obtain ⟨o1, o2, o3, o4, o5, o6, o7⟩ := tellC_ok gs (aV s) 0 q ho.1 hc
      rw [hc] at b1 d1
      have b1 : jm_ev false 97 4 1 jc_X5_tellCheaply 4 [.inr (.inr (.inl (22, 0, 0))), .inr (.inr (.inl (10, 1, 0))), .inl (nI 0), .inl (nI 0), jm_j] [] m1 = some (.inl (nI q.1), m2) ∧ xV q.2 1 m2 := b1
      obtain ⟨b1, b3⟩ := b1
      have d1 : ∃ m'', jm_ev false 98 11 1 jc_X12_story 31 [vM, .inl (nI t), .inl (nI gs.length), .inl (nI 0), .inl (nI 0), .inl (nI 0), jm_j] [] n1 = some (.inl (nI q.1), jm_sI m'' 40 0 0 2 (nI 0)) ∧ mV q.2 0 m'' ∧ fr (PA 0 490) n2 m'' ∧ m''.1 41 0 0 3 = n2.1 41 0 0 3853 := d1
      obtain ⟨n3, d1, d3, d4, d5⟩ := d1
      obtain ⟨m3, f1, f2, f3⟩ := sx_copyV b3 o1 (i := 0) (by decide) 96
      have mFq : mF q.2 n3 := by
        have up : ∀ k, 490 ≤ k → k < 3850 → n3.1 41 0 0 k = μ.1 41 0 0 k := fun k h1 h2 => by rw [(d4 41 0 0 k (by unfold PA; omega)).1]; exact (fm 41 0 0 k (by omega)).1
        have u3 : n3.1 41 0 0 3 = μ.1 41 0 0 3 := by rw [d5, (d2 41 0 0 3853 (by unfold PS; omega)).1]; exact c3
        have u42 : ∀ k, n3.2 42 0 0 k = μ.2 42 0 0 k := fun k => by rw [(d4 42 0 0 k (by unfold PA; omega)).2]; exact (fm 42 0 0 k (by omega)).2
        obtain ⟨-, q2, q3, q4⟩ := hm.1
        have r1 := ho.1.2.2.2.2.2.2.1
        have r2 := ho.1.2.2.2.2.2.2.2.1
        refine ⟨d3, fun s' w' hs hw => ?_, fun c c1 c2 => ?_, ?_⟩
        · rw [u42, o5]; exact q2 s' w' (by rw [← o6]; exact hs) (by rw [← o7]; exact hw)
        · rw [up _ (by omega) (by omega), o3]; exact q3 c c1 c2
        · rw [o4]
          refine ⟨by rw [u3]; exact q4.1, fun k hk => by rw [up _ (by omega) (by omega)]; exact q4.2.1 k hk, fun r hr => ?_⟩
          rw [up _ (by omega) (by omega), up _ (by omega) (by omega), up _ (by omega) (by omega)]
          exact q4.2.2 r hr
      refine jcall_V ho hx hm o1 (ma := m3) (mb := n3) (v := .inl (nI q.1)) (nI 0) f2 (fx.tr (f3.wk (fun K i j k z => by unfold PV at z; unfold QX SO; omega))) mFq (fmQ.tr (d4.wk (fun K i j k z => by unfold PA at z; unfold QM SM; omega))) ?_ ?_
      · rw [e_X11_story]; simp (disch := omega) only [jg_lit, jg_litL, jg_m1, jg_m1L, nI_add, lN_add, pk_mul, jg_sub, jg_subM, jg_addM, jg_addM', jg_negM, jt_in, jt_ix, jt_bi, jt_bl, jt_bv, jt_lt, jg_dT, jg_dF, jt_c, jt_cd, ru_I, ru_L, jg_leI, jg_ltI, jg_eqI, jg_M1, jg_M2, jg_M3, jg_M4, jg_M5, jg_M6, jg_ltT, jg_ltF, jg_leT, jg_leF, jg_eqT, jg_eqF, cond_true, cond_false, ne_eq, not_true_eq_false, not_false_eq_true, decide_true, decide_false, if_true, if_false, and_true, true_and, and_false, false_and, or_true, true_or, or_false, false_or, Nat.reduceEqDiff, reduceIte, Nat.reduceMul, Nat.reduceAdd, Nat.reduceSub, Nat.add_zero, Nat.zero_add, Nat.mul_zero, eq_self_iff_true, jg_not_lt, jg_not_le, e1, a1, tc, b1, f1, sx_give]
      · rw [e_X12_story]; simp (disch := omega) only [jg_lit, jg_litL, jg_m1, jg_m1L, nI_add, lN_add, pk_mul, jg_sub, jg_subM, jg_addM, jg_addM', jg_negM, jt_in, jt_ix, jt_bi, jt_bl, jt_bv, jt_lt, jg_dT, jg_dF, jt_c, jt_cd, ru_I, ru_L, jg_leI, jg_ltI, jg_eqI, jg_M1, jg_M2, jg_M3, jg_M4, jg_M5, jg_M6, jg_ltT, jg_ltF, jg_leT, jg_leF, jg_eqT, jg_eqF, cond_true, cond_false, ne_eq, not_true_eq_false, not_false_eq_true, decide_true, decide_false, if_true, if_false, and_true, true_and, and_false, false_and, or_true, true_or, or_false, false_or, Nat.reduceEqDiff, reduceIte, Nat.reduceMul, Nat.reduceAdd, Nat.reduceSub, Nat.add_zero, Nat.zero_add, Nat.mul_zero, eq_self_iff_true, jg_not_lt, jg_not_le, e4, c1, d1]
