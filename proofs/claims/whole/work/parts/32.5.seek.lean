/-! ===== the fewest letters (class) ===== -/
theorem upB_lt {c : Nat × List Nat} {n : Nat} (p : List Nat) (h : n < c.1) : upB (some c) n p = some (n, p) := if_pos h
theorem upB_ge {c : Nat × List Nat} {n : Nat} (p : List Nat) (h : c.1 ≤ n) : upB (some c) n p = some c := if_neg (Nat.not_lt.mpr h)
def bN (b : Bt) : Nat := match b with
  | none => 99
  | some c => c.1
def PSq (p K i j k : Nat) : Prop := PSp p K i j k ∨ (K = 25 ∧ p ≤ k) ∨ (K = 22 ∧ k = 11) ∨ K = 23
theorem PSq_up {p q : Nat} (h : p ≤ q) {m m' : jm_M} (f : fr (PSq q) m m') : fr (PSq p) m m' := f.wk (fun K i j k z => by unfold PSq PSp at z ⊢; omega)
theorem PSq_p {p : Nat} {m m' : jm_M} (f : fr (PSp p) m m') : fr (PSq p) m m' := f.wk (fun K i j k z => Or.inl z)
def xB (b : Bt) (B0 : Nat → Int32) (len : Nat) (m : jm_M) : Prop := m.1 22 0 0 11 = nI (bN b) ∧ (b = none → ∀ k, m.1 23 0 0 k = B0 k) ∧ ∀ c, b = some c → ∀ k, k < len → m.1 23 0 0 k = nI (c.2.getD k 0)
theorem xB_k {b : Bt} {B0 : Nat → Int32} {len : Nat} {m m' : jm_M} (h : xB b B0 len m) (h1 : m'.1 22 0 0 11 = m.1 22 0 0 11) (h2 : ∀ k, m'.1 23 0 0 k = m.1 23 0 0 k) : xB b B0 len m' := ⟨by rw [h1]; exact h.1, fun hb k => by rw [h2]; exact h.2.1 hb k, fun c hc k hk => by rw [h2]; exact h.2.2 c hc k hk⟩
theorem xB_fr {b : Bt} {B0 : Nat → Int32} {len p : Nat} {m m' : jm_M} (h : xB b B0 len m) (f : fr (PSp p) m m') : xB b B0 len m' := xB_k h (f 22 0 0 11 (by unfold PSp; omega)).1 (fun k => (f 23 0 0 k (by unfold PSp; omega)).1)
theorem xRow_q {gs : List Nat} {p : Nat} {m m' : jm_M} (h : xRow gs m) (f : fr (PSq p) m m') : xRow gs m' := xRow_fr h f (fun z => by unfold PSq PSp at z; omega) (fun k z => by unfold PSq PSp at z; omega)
def xPa (path : List Nat) (m : jm_M) : Prop := ∀ q, q < path.length → m.1 25 0 0 q = nI (path.getD q 0)
theorem xPa_fr {path : List Nat} {P : Nat → Nat → Nat → Nat → Prop} {m m' : jm_M} (h : xPa path m) (f : fr P m m') (hP : ∀ q, q < path.length → ¬ P 25 0 0 q) : xPa path m' := fun q hq => by rw [(f 25 0 0 q (hP q hq)).1]; exact h q hq
theorem getD_app {l : List Nat} {x k : Nat} (h : k < l.length) : (l ++ [x]).getD k 0 = l.getD k 0 := by
  simp only [List.getD]
  rw [List.getElem?_append_left h]
theorem getD_app' (l : List Nat) (x : Nat) : (l ++ [x]).getD l.length 0 = x := by
  simp only [List.getD]
  rw [List.getElem?_append_right (Nat.le_refl _), Nat.sub_self]
  rfl
theorem xPa_app {path : List Nat} {m : jm_M} (h : xPa path m) {k : Nat} : xPa (path ++ [k]) (jm_sI m 25 0 0 path.length (nI k)) := fun q hq => by
  rw [List.length_append, List.length_singleton] at hq
  rw [rd_II]
  by_cases e : q = path.length
  · rw [if_pos ⟨rfl, rfl, rfl, e⟩, e, getD_app']
  · rw [if_neg (by omega), getD_app (by omega)]; exact h q (by omega)
theorem sx_keep {b : Bt} {B0 : Nat → Int32} {m : jm_M} {n : Nat} {path : List Nat} (h5 : path.length ≤ 5) (hn : n ≤ 5) (hw : m.1 22 0 0 10 = nI path.length) (hb : xB b B0 path.length m) (ho : okB 5 path.length b) (hp : xPa path m) (d : Nat) : ∃ m', jm_sem false (d + 1) jn_X5_keepIfFewer [.inr (.inr (.inl (22, 0, 0))), .inl (nI n)] m = some (jm_j, m') ∧ xB (upB b n path) B0 path.length m' ∧ fr (fun K _ _ k => (K = 22 ∧ k = 11) ∨ K = 23) m m' := by
  have h11 := hb.1
  have hbN : bN b ≤ 99 := by
    cases b with
    | none => exact Nat.le_refl _
    | some c => have := (ho c rfl).1; show c.1 ≤ 99; omega
  by_cases c : bN b ≤ n
  · refine ⟨m, ?_, ?_, .rf⟩
    · rw [e_X5_keepIfFewer]
      simp (disch := omega) only [jg_lit, jg_litL, jg_m1, jg_m1L, nI_add, lN_add, pk_mul, jg_sub, jg_subM, jg_addM, jg_addM', jg_negM, jt_in, jt_ix, jt_bi, jt_bl, jt_bv, jt_lt, jg_dT, jg_dF, jt_c, jt_cd, ru_I, ru_L, jg_leI, jg_ltI, jg_eqI, jg_M1, jg_M2, jg_M3, jg_M4, jg_M5, jg_M6, jg_ltT, jg_ltF, jg_leT, jg_leF, jg_eqT, jg_eqF, cond_true, cond_false, ne_eq, not_true_eq_false, not_false_eq_true, decide_true, decide_false, if_true, if_false, and_true, true_and, and_false, false_and, or_true, true_or, or_false, false_or, Nat.reduceEqDiff, reduceIte, Nat.reduceMul, Nat.reduceAdd, Nat.reduceSub, Nat.add_zero, Nat.zero_add, Nat.mul_zero, eq_self_iff_true, jg_not_lt, jg_not_le, h11]
    · cases b with
      | none => have c : 99 ≤ n := c; omega
      | some q =>
        have c : q.1 ≤ n := c
        rw [upB_ge path c]
        exact hb
  · have e := e_X5_keepIfFewer d (nI n) m
    have eup : upB b n path = some (n, path) := by
      cases b with
      | none => rfl
      | some q =>
        have c : ¬ q.1 ≤ n := c
        exact upB_lt path (by omega)
    rw [h11, jt_df (fun z => c ((nI_leI (by omega) (by omega)).mp z)), cond_false] at e
    simp (disch := omega) only [ru_I, hw, ix0, jt_ix, jt_ac1, cond_true, Nat.reduceEqDiff, and_false, if_false, reduceIte, Nat.zero_add, jt_lt] at e
    refine ⟨_, e, ?_, ?_⟩
    · rw [eup]
      refine ⟨?_, fun z => (by cases z), fun q hq k hk => ?_⟩
      · simp (disch := omega) only [jg_lit, jg_litL, jg_m1, jg_m1L, nI_add, lN_add, pk_mul, jg_sub, jg_subM, jg_addM, jg_addM', jg_negM, jt_in, jt_ix, jt_bi, jt_bl, jt_bv, jt_lt, jg_dT, jg_dF, jt_c, jt_cd, ru_I, ru_L, jg_leI, jg_ltI, jg_eqI, jg_M1, jg_M2, jg_M3, jg_M4, jg_M5, jg_M6, jg_ltT, jg_ltF, jg_leT, jg_leF, jg_eqT, jg_eqF, cond_true, cond_false, ne_eq, not_true_eq_false, not_false_eq_true, decide_true, decide_false, if_true, if_false, and_true, true_and, and_false, false_and, or_true, true_or, or_false, false_or, Nat.reduceEqDiff, reduceIte, Nat.reduceMul, Nat.reduceAdd, Nat.reduceSub, Nat.add_zero, Nat.zero_add, Nat.mul_zero, eq_self_iff_true, jg_not_lt, jg_not_le, rc_I]
        rfl
      · have hq := Option.some.inj hq
        subst hq
        simp (disch := omega) only [jg_lit, jg_litL, jg_m1, jg_m1L, nI_add, lN_add, pk_mul, jg_sub, jg_subM, jg_addM, jg_addM', jg_negM, jt_in, jt_ix, jt_bi, jt_bl, jt_bv, jt_lt, jg_dT, jg_dF, jt_c, jt_cd, ru_I, ru_L, jg_leI, jg_ltI, jg_eqI, jg_M1, jg_M2, jg_M3, jg_M4, jg_M5, jg_M6, jg_ltT, jg_ltF, jg_leT, jg_leF, jg_eqT, jg_eqF, cond_true, cond_false, ne_eq, not_true_eq_false, not_false_eq_true, decide_true, decide_false, if_true, if_false, and_true, true_and, and_false, false_and, or_true, true_or, or_false, false_or, Nat.reduceEqDiff, reduceIte, Nat.reduceMul, Nat.reduceAdd, Nat.reduceSub, Nat.add_zero, Nat.zero_add, Nat.mul_zero, eq_self_iff_true, jg_not_lt, jg_not_le, rc_I, Nat.sub_zero]
        exact hp k hk
    · refine fr_cI' (fr_I ?_) (fun k => ?_)
      · exact Or.inl ⟨rfl, rfl⟩
      · exact Or.inr rfl
theorem lst_le (V : Vl) (n : Nat) : lst V n ≤ n := by unfold lst; split <;> omega
theorem sayN_jpl (V : Vl) (k n : Nat) : (goW V (gw (vlW V) k) = none → n + sayN V k = n) ∧ (goW V (gw (vlW V) k) ≠ none → n + sayN V k = n + 1) := by
  unfold sayN
  cases goW V (gw (vlW V) k) with
  | none => exact ⟨fun _ => rfl, fun z => absurd rfl z⟩
  | some q => exact ⟨fun z => (by cases z), fun _ => rfl⟩
/-- what seekFewest does from a place on -/
def skH (gs : List Nat) (B0 : Nat → Int32) (D p : Nat) (t : List Nat) : Prop := ∀ (W : Vl) (n : Nat) (path : List Nat) (b : Bt) (m : jm_M), path.length = p → n ≤ p → (∀ x ∈ path, x < 12) → okV W → xV W 0 m → cP W m → xRow gs m → xPa path m → okB 5 gs.length b → xB b B0 gs.length m → ∃ m', jm_sem false D jn_X5_seekFewest [.inr (.inr (.inl (22, 0, 0))), .inr (.inr (.inl (10, 0, 0))), .inl (nI p), .inl (nI n)] m = some (jm_j, m') ∧ xV W 0 m' ∧ cP W m' ∧ xB (bestN t W n path b) B0 gs.length m' ∧ fr (PSq p) m m'
theorem sx_seek_111 {gs t : List Nat} {B0 : Nat → Int32} {p g D : Nat} (hg : okG gs) (hd : gs.drop p = g :: t) (H : t ≠ [] → skH gs B0 (D + 5) (p + 1) t) {V : Vl} (ho : okV V) {n k : Nat} {path : List Nat} (hp : path.length = p) (hnp : n ≤ p) (hpx : ∀ x ∈ path, x < 12) (hk : k < (vlW V).length) (hn : wL (gw (vlW V) k) ≠ []) {b : Bt} {m : jm_M} (h : xV V 0 m) (hc : cP V m) (hw : xRow gs m) (hpa : xPa (path ++ [k]) m) (hob : okB 5 gs.length b) (hb : xB b B0 gs.length m) (x3 x4 x5 : Int32) (z8 : jm_V) : ∃ m' z, jm_ev false (D + 5) 4 0 jc_X5_seekFewest 111 [.inr (.inr (.inl (22, 0, 0))), .inr (.inr (.inl (10, 0, 0))), .inl (nI p), .inl x3, .inl x4, .inl x5, .inl (nI k), .inl (jpl (goW V (gw (vlW V) k))), z8] [.inl (nI (n + sayN V k))] m = jm_ev false (D + 5) 4 0 jc_X5_seekFewest 52 [.inr (.inr (.inl (22, 0, 0))), .inr (.inr (.inl (10, 0, 0))), .inl (nI p), .inl x3, .inl x4, .inl x5, .inl (nI (k + 1)), .inl (jpl (goW V (gw (vlW V) k))), .inl z] [] m' ∧ xV V 0 m' ∧ cP V m' ∧ xB (bestN t (sayV V k) (n + sayN V k) (path ++ [k]) b) B0 gs.length m' ∧ fr (PSq p) m m' := by
  obtain ⟨hpl, hge, hd2, hl⟩ := drop_c hd
  have h5 := hg.1
  have w1 := hw.1
  have sn := sayN_le V k
  have pl : (path ++ [k]).length = p + 1 := by rw [List.length_append, List.length_singleton, hp]
  have h12 := ho.2.2.2.1.1
  cases t with
  | nil =>
    have hl : gs.length = p + 1 := hl
    rw [hl, ← pl] at hb hob w1 ⊢
    obtain ⟨m', e1, e2, e3⟩ := sx_keep (by omega) (show n + sayN V k ≤ 5 by omega) w1 hb hob hpa (D + 4)
    have fq : fr (PSq p) m m' := e3.wk (fun K i j k z => by unfold PSq; omega)
    have fx : ∀ K i j q, K ≠ 22 → K ≠ 23 → m'.1 K i j q = m.1 K i j q ∧ m'.2 K i j q = m.2 K i j q := fun K i j q z1 z2 => e3 K i j q (by omega)
    refine ⟨m', nI (n + sayN V k), ?_, ⟨xH_k h.1 (fun K q hK => fx K 0 0 q (by omega) (by omega)), fun j hj => xW_k (h.2 j hj) (fun q => (fx 12 0 j q (by omega) (by omega)).1) (fun q => (fx 12 0 j q (by omega) (by omega)).2)⟩, fun w hw => by rw [(fx 29 0 0 w (by omega) (by omega)).1]; exact hc w hw, e2, fq⟩
    rw [pl] at w1
    rw [l_X5_seekFewest_111]
    simp (disch := omega) only [jg_lit, jg_litL, jg_m1, jg_m1L, nI_add, lN_add, pk_mul, jg_sub, jg_subM, jg_addM, jg_addM', jg_negM, jt_in, jt_ix, jt_bi, jt_bl, jt_bv, jt_lt, jg_dT, jg_dF, jt_c, jt_cd, ru_I, ru_L, jg_leI, jg_ltI, jg_eqI, jg_M1, jg_M2, jg_M3, jg_M4, jg_M5, jg_M6, jg_ltT, jg_ltF, jg_leT, jg_leF, jg_eqT, jg_eqF, cond_true, cond_false, ne_eq, not_true_eq_false, not_false_eq_true, decide_true, decide_false, if_true, if_false, and_true, true_and, and_false, false_and, or_true, true_or, or_false, false_or, Nat.reduceEqDiff, reduceIte, Nat.reduceMul, Nat.reduceAdd, Nat.reduceSub, Nat.add_zero, Nat.zero_add, Nat.mul_zero, eq_self_iff_true, jg_not_lt, jg_not_le, w1, Nat.add_sub_cancel, e1]
  | cons g2 t =>
    have hl : gs.length = p + 1 + (t.length + 1) := hl
    obtain ⟨m2, b1, b2, b3, b4, b5⟩ := sx_step h ho hc (p := p) (by omega) hk hn (D + 1)
    have r2 := xRow_p hw b5
    obtain ⟨m3, i1, i2, i3, i4, i5⟩ := H (fun z => by cases z) (sayV V k) (n + sayN V k) (path ++ [k]) b m2 pl (by omega) (fun x hx => by
      rcases List.mem_append.mp hx with z | z
      · exact hpx x z
      · rw [List.mem_singleton.mp z]; omega) (okV_say ho hk hn) b2 b3 r2 (xPa_fr hpa b5 (fun q hq z => by unfold PSp at z; omega)) hob (xB_fr hb b5)
    have s3 : sv V k p m3 := by
      obtain ⟨h1, h2, h3, h4⟩ := b4
      refine ⟨xW_fr h1 i5 (fun k z => by unfold PSq PSp at z; omega), by rw [(i5 30 0 0 p (by unfold PSq PSp; omega)).1]; exact h2, by rw [(i5 26 0 0 p (by unfold PSq PSp; omega)).1]; exact h3, fun o ho => ⟨xW_fr (h4 o ho).1 i5 (fun k z => by unfold PSq PSp at z; omega), by rw [(i5 31 0 0 p (by unfold PSq PSp; omega)).1]; exact (h4 o ho).2⟩⟩
    obtain ⟨m4, d1, d2, d3, d4⟩ := sx_stepBack i2 ho s3 i3 (show p < 5 by omega) hk (D + 3)
    have f4 : fr (PSq p) m m4 := ((PSq_p b5).tr (PSq_up (by omega) i5)).tr (PSq_p d4)
    refine ⟨m4, nI (n + sayN V k), ?_, d2, d3, xB_fr i4 d4, f4⟩
    rw [l_X5_seekFewest_111]
    simp (disch := omega) only [jg_lit, jg_litL, jg_m1, jg_m1L, nI_add, lN_add, pk_mul, jg_sub, jg_subM, jg_addM, jg_addM', jg_negM, jt_in, jt_ix, jt_bi, jt_bl, jt_bv, jt_lt, jg_dT, jg_dF, jt_c, jt_cd, ru_I, ru_L, jg_leI, jg_ltI, jg_eqI, jg_M1, jg_M2, jg_M3, jg_M4, jg_M5, jg_M6, jg_ltT, jg_ltF, jg_leT, jg_leF, jg_eqT, jg_eqF, cond_true, cond_false, ne_eq, not_true_eq_false, not_false_eq_true, decide_true, decide_false, if_true, if_false, and_true, true_and, and_false, false_and, or_true, true_or, or_false, false_or, Nat.reduceEqDiff, reduceIte, Nat.reduceMul, Nat.reduceAdd, Nat.reduceSub, Nat.add_zero, Nat.zero_add, Nat.mul_zero, eq_self_iff_true, jg_not_lt, jg_not_le, w1, b1, i1, d1]
theorem sx_seek_loop {gs t : List Nat} {B0 : Nat → Int32} {p g D : Nat} (hg : okG gs) (hd : gs.drop p = g :: t) (H : t ≠ [] → skH gs B0 (D + 5) (p + 1) t) {V : Vl} (ho : okV V) {n : Nat} {path : List Nat} (hp : path.length = p) (hnp : n ≤ p) (hpx : ∀ x ∈ path, x < 12) : ∀ (r k : Nat) (b : Bt) (z7 z8 : jm_V) (m : jm_M), k + r = 12 → xV V 0 m → cP V m → xRow gs m → xPa path m → okB 5 gs.length b → xB b B0 gs.length m → ∃ m', jm_ev false (D + 5) 4 0 jc_X5_seekFewest 52 [.inr (.inr (.inl (22, 0, 0))), .inr (.inr (.inl (10, 0, 0))), .inl (nI p), .inl (nI n), .inl (nI (n + lst V (t.length + 1))), .inl (nI (wWith (vlW V) g)), .inl (nI k), z7, z8] [] m = some (jm_j, m') ∧ xV V 0 m' ∧ cP V m' ∧ xB (bestK (bestN t) V g n path r k b) B0 gs.length m' ∧ fr (PSq p) m m'
  | 0, k, b, z7, z8, m, hr, h, hc, hw, hpa, hob, hb => by
    have h12 := ho.2.2.2.1.1
    have h4 := h.1.2.1
    refine ⟨m, ?_, h, hc, hb, .rf⟩
    rw [l_X5_seekFewest_52]
    simp (disch := omega) only [jg_lit, jg_litL, jg_m1, jg_m1L, nI_add, lN_add, pk_mul, jg_sub, jg_subM, jg_addM, jg_addM', jg_negM, jt_in, jt_ix, jt_bi, jt_bl, jt_bv, jt_lt, jg_dT, jg_dF, jt_c, jt_cd, ru_I, ru_L, jg_leI, jg_ltI, jg_eqI, jg_M1, jg_M2, jg_M3, jg_M4, jg_M5, jg_M6, jg_ltT, jg_ltF, jg_leT, jg_leF, jg_eqT, jg_eqF, cond_true, cond_false, ne_eq, not_true_eq_false, not_false_eq_true, decide_true, decide_false, if_true, if_false, and_true, true_and, and_false, false_and, or_true, true_or, or_false, false_or, Nat.reduceEqDiff, reduceIte, Nat.reduceMul, Nat.reduceAdd, Nat.reduceSub, Nat.add_zero, Nat.zero_add, Nat.mul_zero, eq_self_iff_true, jg_not_lt, jg_not_le, h4]
  | r + 1, k, b, z7, z8, m, hr, h, hc, hw, hpa, hob, hb => by
    have h12 := ho.2.2.2.1.1
    have h4 := h.1.2.1
    have h5 := hg.1
    obtain ⟨hpl, -, -, hl⟩ := drop_c hd
    have h11 := hb.1
    have ll := lst_le V (t.length + 1)
    have hbN : bN b ≤ 99 := by
      cases b with
      | none => exact Nat.le_refl _
      | some c => have := (hob c rfl).1; show c.1 ≤ 99; omega
    by_cases ck : (vlW V).length ≤ k
    · refine ⟨m, ?_, h, hc, by rw [bestK_out (r + 1) k b ck]; exact hb, .rf⟩
      rw [l_X5_seekFewest_52]
      simp (disch := omega) only [jg_lit, jg_litL, jg_m1, jg_m1L, nI_add, lN_add, pk_mul, jg_sub, jg_subM, jg_addM, jg_addM', jg_negM, jt_in, jt_ix, jt_bi, jt_bl, jt_bv, jt_lt, jg_dT, jg_dF, jt_c, jt_cd, ru_I, ru_L, jg_leI, jg_ltI, jg_eqI, jg_M1, jg_M2, jg_M3, jg_M4, jg_M5, jg_M6, jg_ltT, jg_ltF, jg_leT, jg_leF, jg_eqT, jg_eqF, cond_true, cond_false, ne_eq, not_true_eq_false, not_false_eq_true, decide_true, decide_false, if_true, if_false, and_true, true_and, and_false, false_and, or_true, true_or, or_false, false_or, Nat.reduceEqDiff, reduceIte, Nat.reduceMul, Nat.reduceAdd, Nat.reduceSub, Nat.add_zero, Nat.zero_add, Nat.mul_zero, eq_self_iff_true, jg_not_lt, jg_not_le, h4]
    · have hk : k < (vlW V).length := by omega
      by_cases cb : bN b ≤ n + lst V (t.length + 1)
      · refine ⟨m, ?_, h, hc, ?_, .rf⟩
        · rw [l_X5_seekFewest_52]
          simp (disch := omega) only [jg_lit, jg_litL, jg_m1, jg_m1L, nI_add, lN_add, pk_mul, jg_sub, jg_subM, jg_addM, jg_addM', jg_negM, jt_in, jt_ix, jt_bi, jt_bl, jt_bv, jt_lt, jg_dT, jg_dF, jt_c, jt_cd, ru_I, ru_L, jg_leI, jg_ltI, jg_eqI, jg_M1, jg_M2, jg_M3, jg_M4, jg_M5, jg_M6, jg_ltT, jg_ltF, jg_leT, jg_leF, jg_eqT, jg_eqF, cond_true, cond_false, ne_eq, not_true_eq_false, not_false_eq_true, decide_true, decide_false, if_true, if_false, and_true, true_and, and_false, false_and, or_true, true_or, or_false, false_or, Nat.reduceEqDiff, reduceIte, Nat.reduceMul, Nat.reduceAdd, Nat.reduceSub, Nat.add_zero, Nat.zero_add, Nat.mul_zero, eq_self_iff_true, jg_not_lt, jg_not_le, h4, h11]
        · cases b with
          | none => have cb : 99 ≤ n + lst V (t.length + 1) := cb; omega
          | some c => rw [best_pruneK cb]; exact hb
      · have hw4 := wWith_lt h12 g
        have hbt := bit_In (v := wWith (vlW V) g) (c := k) (by omega) (by omega)
        rw [wWith_bit] at hbt
        unfold bestK
        cases c : hasB (vlW V) g k with
        | false =>
          rw [c, bI_F] at hbt
          obtain ⟨m', e1, e2, e3, e4, e5⟩ := sx_seek_loop hg hd H ho hp hnp hpx r (k + 1) b z7 z8 m (by omega) h hc hw hpa hob hb
          refine ⟨m', ?_, e2, e3, e4, e5⟩
          rw [l_X5_seekFewest_52]
          simp (disch := omega) only [jg_lit, jg_litL, jg_m1, jg_m1L, nI_add, lN_add, pk_mul, jg_sub, jg_subM, jg_addM, jg_addM', jg_negM, jt_in, jt_ix, jt_bi, jt_bl, jt_bv, jt_lt, jg_dT, jg_dF, jt_c, jt_cd, ru_I, ru_L, jg_leI, jg_ltI, jg_eqI, jg_M1, jg_M2, jg_M3, jg_M4, jg_M5, jg_M6, jg_ltT, jg_ltF, jg_leT, jg_leF, jg_eqT, jg_eqF, cond_true, cond_false, ne_eq, not_true_eq_false, not_false_eq_true, decide_true, decide_false, if_true, if_false, and_true, true_and, and_false, false_and, or_true, true_or, or_false, false_or, Nat.reduceEqDiff, reduceIte, Nat.reduceMul, Nat.reduceAdd, Nat.reduceSub, Nat.add_zero, Nat.zero_add, Nat.mul_zero, eq_self_iff_true, jg_not_lt, jg_not_le, h4, h11, hbt]
          exact e1
        | true =>
          rw [c, bI_T] at hbt
          have hn := hasB_live (ho.2.2.2.1.2.1 k hk) c
          have hlt : ∀ q, goW V (gw (vlW V) k) = some q → q < 2 ^ 31 := fun q hq => by
            have := goW_lt hn hq
            have := okW_8 (ho.2.2.2.1.2.1 k hk).1
            omega
          have pa1 := xPa_app hpa (k := k)
          rw [hp] at pa1
          have v0 : xV V 0 (jm_sI m 25 0 0 p (nI k)) := xV_c (by decide) h
          have c0 : cP V (jm_sI m 25 0 0 p (nI k)) := fun w hw => by rw [rd_II, if_neg (by omega)]; exact hc w hw
          obtain ⟨m1, a1, a2, a3, a4⟩ := sx_place5 v0 ho c0 hk hn D
          have f1 : fr (PSq p) m m1 := (fr_I (by unfold PSq; omega)).tr (a4.wk (fun K i j k z => by unfold PSq PSp; omega))
          have b1 : xB b B0 gs.length m1 := xB_k hb (by rw [(a4 22 0 0 11 (by decide)).1, rd_II, if_neg (by omega)]) (fun q => by rw [(a4 23 0 0 q (show ¬ ((23 : Nat) = 29) by decide)).1, rd_II, if_neg (by omega)])
          obtain ⟨m2, z, i1, i2, i3, i4, i5⟩ := sx_seek_111 hg hd H ho hp hnp hpx hk hn a2 a3 (xRow_q hw f1) (xPa_fr pa1 a4 (fun q hq => by decide)) hob b1 (nI n) (nI (n + lst V (t.length + 1))) (nI (wWith (vlW V) g)) z8
          have sn := sayN_le V k
          have hob2 : okB 5 gs.length (bestN t (sayV V k) (n + sayN V k) (path ++ [k]) b) := okB_N t _ _ _ b (by omega) (by rw [List.length_append, List.length_singleton]; omega) (fun x hx => by
            rcases List.mem_append.mp hx with z | z
            · exact hpx x z
            · rw [List.mem_singleton.mp z]; omega) hob
          obtain ⟨m', e1, e2, e3, e4, e5⟩ := sx_seek_loop hg hd H ho hp hnp hpx r (k + 1) _ (.inl (jpl (goW V (gw (vlW V) k)))) (.inl z) m2 (by omega) i2 i3 (xRow_q hw (f1.tr i5)) (xPa_fr hpa (f1.tr i5) (fun q hq z => by unfold PSq PSp at z; omega)) hob2 i4
          refine ⟨m', ?_, e2, e3, e4, (f1.tr i5).tr e5⟩
          rw [l_X5_seekFewest_52]
          simp (disch := omega) only [jg_lit, jg_litL, jg_m1, jg_m1L, nI_add, lN_add, pk_mul, jg_sub, jg_subM, jg_addM, jg_addM', jg_negM, jt_in, jt_ix, jt_bi, jt_bl, jt_bv, jt_lt, jg_dT, jg_dF, jt_c, jt_cd, ru_I, ru_L, jg_leI, jg_ltI, jg_eqI, jg_M1, jg_M2, jg_M3, jg_M4, jg_M5, jg_M6, jg_ltT, jg_ltF, jg_leT, jg_leF, jg_eqT, jg_eqF, cond_true, cond_false, ne_eq, not_true_eq_false, not_false_eq_true, decide_true, decide_false, if_true, if_false, and_true, true_and, and_false, false_and, or_true, true_or, or_false, false_or, Nat.reduceEqDiff, reduceIte, Nat.reduceMul, Nat.reduceAdd, Nat.reduceSub, Nat.add_zero, Nat.zero_add, Nat.mul_zero, eq_self_iff_true, jg_not_lt, jg_not_le, h4, h11, hbt, a1]
          have jm := jpl_m1 hlt
          by_cases cg : goW V (gw (vlW V) k) = none
          · have s1 := (sayN_jpl V k n).1 cg
            rw [s1] at i1
            have : jpl (goW V (gw (vlW V) k)) = jM := jm.mpr cg
            rw [if_neg (fun z => z this)]
            rw [i1]
            exact e1
          · have s1 := (sayN_jpl V k n).2 cg
            rw [s1] at i1
            rw [if_pos (show ¬ jpl (goW V (gw (vlW V) k)) = jM from fun z => cg (jm.mp z))]
            rw [i1]
            exact e1
theorem sx_seek1 {gs : List Nat} {B0 : Nat → Int32} (hg : okG gs) (d : Nat) {t : List Nat} {g p : Nat} (hd : gs.drop p = g :: t) (hH : t ≠ [] → skH gs B0 (d + t.length + 5) (p + 1) t) : skH gs B0 (d + 6 + t.length) p (g :: t) := by
  intro W n path b m hp hnp hpx ho h hc hw hpa hob hb
  obtain ⟨hpl, hge, hd2, hl⟩ := drop_c hd
  have h5 := hg.1
  have hgl := hg.2 p hpl
  rw [hge] at hgl
  have w1 := hw.1
  have w2 := hw.2 p hpl
  rw [hge] at w2
  have s6 := h.1.2.2.2.2.1.2.2.1
  obtain ⟨m', e1, e2, e3, e4, e5⟩ := sx_seek_loop (D := d + t.length) hg hd hH ho hp hnp hpx 12 0 b jm_j jm_j m rfl h hc hw hpa hob hb
  refine ⟨m', ?_, e2, e3, e4, e5⟩
  have ww := sx_wordsWith h ho.2.2.2.1 (g := g) (by omega) (d + t.length + 3)
  rw [show d + 6 + t.length = d + t.length + 5 + 1 by omega, e_X5_seekFewest]
  unfold lst at e1
  cases cR : (vlR W).any (fun r => r.2 == 6) with
  | true =>
    rw [cR] at s6 e1
    have s6 : m.1 13 0 0 6 = nI 1 := s6
    have b1 : nI 1 &&& nI 1 = nI 1 := rfl
    simp (disch := omega) only [jg_lit, jg_litL, jg_m1, jg_m1L, nI_add, lN_add, pk_mul, jg_sub, jg_subM, jg_addM, jg_addM', jg_negM, jt_in, jt_ix, jt_bi, jt_bl, jt_bv, jt_lt, jg_dT, jg_dF, jt_c, jt_cd, ru_I, ru_L, jg_leI, jg_ltI, jg_eqI, jg_M1, jg_M2, jg_M3, jg_M4, jg_M5, jg_M6, jg_ltT, jg_ltF, jg_leT, jg_leF, jg_eqT, jg_eqF, cond_true, cond_false, ne_eq, not_true_eq_false, not_false_eq_true, decide_true, decide_false, if_true, if_false, and_true, true_and, and_false, false_and, or_true, true_or, or_false, false_or, Nat.reduceEqDiff, reduceIte, Nat.reduceMul, Nat.reduceAdd, Nat.reduceSub, Nat.add_zero, Nat.zero_add, Nat.mul_zero, eq_self_iff_true, jg_not_lt, jg_not_le, s6, b1, w1, w2, ww]
    exact e1
  | false =>
    rw [cR] at s6 e1
    have s6 : m.1 13 0 0 6 = nI 0 := s6
    have b1 : nI 0 &&& nI 1 = nI 0 := rfl
    have e0 : n + gs.length - p = n + (t.length + 1) := by omega
    simp (disch := omega) only [jg_lit, jg_litL, jg_m1, jg_m1L, nI_add, lN_add, pk_mul, jg_sub, jg_subM, jg_addM, jg_addM', jg_negM, jt_in, jt_ix, jt_bi, jt_bl, jt_bv, jt_lt, jg_dT, jg_dF, jt_c, jt_cd, ru_I, ru_L, jg_leI, jg_ltI, jg_eqI, jg_M1, jg_M2, jg_M3, jg_M4, jg_M5, jg_M6, jg_ltT, jg_ltF, jg_leT, jg_leF, jg_eqT, jg_eqF, cond_true, cond_false, ne_eq, not_true_eq_false, not_false_eq_true, decide_true, decide_false, if_true, if_false, and_true, true_and, and_false, false_and, or_true, true_or, or_false, false_or, Nat.reduceEqDiff, reduceIte, Nat.reduceMul, Nat.reduceAdd, Nat.reduceSub, Nat.add_zero, Nat.zero_add, Nat.mul_zero, eq_self_iff_true, jg_not_lt, jg_not_le, s6, b1, w1, w2, ww, e0]
    exact e1
theorem sx_seek {gs : List Nat} {B0 : Nat → Int32} (hg : okG gs) (d : Nat) : ∀ (t : List Nat) (g p : Nat), gs.drop p = g :: t → skH gs B0 (d + 6 + t.length) p (g :: t)
  | [], g, p, hd => sx_seek1 hg d hd (fun z => absurd rfl z)
  | g2 :: t2, g, p, hd => sx_seek1 hg d hd (fun _ => by
    have := sx_seek hg d t2 g2 (p + 1) (drop_c hd).2.2.1 (B0 := B0)
    rw [show d + 6 + t2.length = d + (g2 :: t2).length + 5 by rw [List.length_cons]; omega] at this
    exact this)
