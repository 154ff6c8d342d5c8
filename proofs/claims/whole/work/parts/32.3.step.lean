/-! ===== stories: a word said and taken back (class) ===== -/
def jN : Int32 := -2
theorem jg_m2 : -nI 2 = jN := rfl
theorem jN_eq : (jN = jN) = True := eq_self jN
theorem jN_M : (jN = jM) = False := by decide
def twW (V : Vl) (k : Nat) : Option Nat := alk ((vlW V).set k (wWear (gw (vlW V) k) (goW V (gw (vlW V) k)) (nI (vlD V)))) (wL (wWear (gw (vlW V) k) (goW V (gw (vlW V) k)) (nI (vlD V)))) (some k) (vlW V).length 0
theorem twW_lt {V : Vl} {k o : Nat} (h : twW V k = some o) : o < (vlW V).length ∧ o ≠ k := by
  obtain ⟨-, h1, h2, -, -⟩ := alk_some _ _ h
  exact ⟨by omega, fun z => h2 (by rw [z])⟩
theorem gw_say {V : Vl} {k : Nat} (hk : k < (vlW V).length) {j : Nat} (h1 : j ≠ k) (h2 : twW V k ≠ some j) : gw (sayWs V k) j = gw (vlW V) j := by
  unfold sayWs
  unfold twW at h2
  split
  · rw [gw_set _ hk, if_neg h1]
  · rename_i o ho
    obtain ⟨-, o1, o2, -, -⟩ := alk_some _ _ ho
    have oj : j ≠ o := fun z => h2 (by rw [ho, z])
    rw [uni_gw (by rw [List.length_set]; exact hk) (by rw [List.length_set]; omega), if_neg (by omega), if_neg (by omega), gw_set _ hk, if_neg h1]
def PSp (p K i j k : Nat) : Prop := (K = 12 ∧ i = 0 ∧ j < 12) ∨ (K = 12 ∧ (i = 5 ∨ i = 6) ∧ p ≤ j) ∨ K = 29 ∨ ((K = 26 ∨ K = 30 ∨ K = 31) ∧ p ≤ k)
theorem PSp_up {p q : Nat} (h : p ≤ q) {m m' : jm_M} (f : fr (PSp q) m m') : fr (PSp p) m m' := f.wk (fun K i j k z => by unfold PSp at z ⊢; omega)
def cP (V : Vl) (m : jm_M) : Prop := ∀ w, w < (vlW V).length → m.1 29 0 0 w = jN ∨ m.1 29 0 0 w = jpl (goW V (gw (vlW V) w))
def sv (V : Vl) (k p : Nat) (m : jm_M) : Prop := xW (gw (vlW V) k) 5 p m ∧ m.1 30 0 0 p = jpl (goW V (gw (vlW V) k)) ∧ m.1 26 0 0 p = jpl (twW V k) ∧ ∀ o, twW V k = some o → xW (gw (vlW V) o) 6 p m ∧ (m.1 31 0 0 p = jN ∨ m.1 31 0 0 p = jpl (goW V (gw (vlW V) o)))
theorem sv_fr {V : Vl} {k p : Nat} {m m' : jm_M} (h : sv V k p m) (f : fr (PSp (p + 1)) m m') : sv V k p m' := by
  obtain ⟨h1, h2, h3, h4⟩ := h
  refine ⟨xW_fr h1 f (fun k z => by unfold PSp at z; omega), by rw [(f 30 0 0 p (by unfold PSp; omega)).1]; exact h2, by rw [(f 26 0 0 p (by unfold PSp; omega)).1]; exact h3, fun o ho => ⟨xW_fr (h4 o ho).1 f (fun k z => by unfold PSp at z; omega), by rw [(f 31 0 0 p (by unfold PSp; omega)).1]; exact (h4 o ho).2⟩⟩
theorem xV_29 {V : Vl} {i : Nat} {μ : jm_M} {x : Int32} {q : Nat} (h : xV V i μ) : xV V i (jm_sI μ 29 0 0 q x) := ⟨xH_k h.1 (fun K k hK => ⟨by rw [rd_II, if_neg (by omega)], rfl⟩), fun j hj => xW_k (h.2 j hj) (fun k => by rw [rd_II, if_neg (by omega)]) (fun k => rfl)⟩
theorem jpl_N {p : Option Nat} (h : ∀ q, p = some q → q < 2 ^ 31) : (jpl p = jN) = False := by
  refine eq_false ?_
  cases p with
  | none => decide
  | some q =>
    intro z
    have z : nI q = jN := z
    have := congrArg Int32.toInt z
    rw [nI_toInt (h q rfl)] at this
    have e : jN.toInt = -2 := by decide
    omega
theorem sx_place5 {V : Vl} {m : jm_M} (h : xV V 0 m) (ho : okV V) (hc : cP V m) {k : Nat} (hk : k < (vlW V).length) (hn : wL (gw (vlW V) k) ≠ []) (d : Nat) : ∃ m', jm_sem false (d + 5) jn_X5_placeLost [.inr (.inr (.inl (22, 0, 0))), .inr (.inr (.inl (10, 0, 0))), .inl (nI k)] m = some (.inl (jpl (goW V (gw (vlW V) k))), m') ∧ xV V 0 m' ∧ cP V m' ∧ fr (fun K _ _ _ => K = 29) m m' := by
  have h12 := ho.2.2.2.1.1
  have hok := ho.2.2.2.1.2.1 k hk
  have hlt : ∀ q, goW V (gw (vlW V) k) = some q → q < 2 ^ 31 := fun q hq => by
    have := goW_lt hn hq
    have := okW_8 hok.1
    omega
  have h6 := h.1.2.2.2.1
  have pl := sx_placeLostV h.1 ho (h.2 k hk) hok hn d
  have j1 := jpl_N hlt
  rcases hc k hk with c | c
  · refine ⟨jm_sI m 29 0 0 k (jpl (goW V (gw (vlW V) k))), ?_, xV_29 h, fun w hw => ?_, fr_I rfl⟩
    · rw [e_X5_placeLost]
      simp (disch := omega) only [jg_lit, jg_litL, jg_m1, jg_m1L, nI_add, lN_add, pk_mul, jg_sub, jg_subM, jg_addM, jg_addM', jg_negM, jt_in, jt_ix, jt_bi, jt_bl, jt_bv, jt_lt, jg_dT, jg_dF, jt_c, jt_cd, ru_I, ru_L, jg_leI, jg_ltI, jg_eqI, jg_M1, jg_M2, jg_M3, jg_M4, jg_M5, jg_M6, jg_ltT, jg_ltF, jg_leT, jg_leF, jg_eqT, jg_eqF, cond_true, cond_false, ne_eq, not_true_eq_false, not_false_eq_true, decide_true, decide_false, if_true, if_false, and_true, true_and, and_false, false_and, or_true, true_or, or_false, false_or, Nat.reduceEqDiff, reduceIte, Nat.reduceMul, Nat.reduceAdd, Nat.reduceSub, Nat.add_zero, Nat.zero_add, Nat.mul_zero, eq_self_iff_true, jg_not_lt, jg_not_le, c, jg_m2, h6, pl, Bool.and_true]
    · rw [rd_II]
      by_cases e : w = k
      · rw [if_pos ⟨rfl, rfl, rfl, e⟩, e]; exact Or.inr rfl
      · rw [if_neg (by omega)]; exact hc w hw
  · refine ⟨m, ?_, h, hc, .rf⟩
    rw [e_X5_placeLost]
    simp (disch := omega) only [jg_lit, jg_litL, jg_m1, jg_m1L, nI_add, lN_add, pk_mul, jg_sub, jg_subM, jg_addM, jg_addM', jg_negM, jt_in, jt_ix, jt_bi, jt_bl, jt_bv, jt_lt, jg_dT, jg_dF, jt_c, jt_cd, ru_I, ru_L, jg_leI, jg_ltI, jg_eqI, jg_M1, jg_M2, jg_M3, jg_M4, jg_M5, jg_M6, jg_ltT, jg_ltF, jg_leT, jg_leF, jg_eqT, jg_eqF, cond_true, cond_false, ne_eq, not_true_eq_false, not_false_eq_true, decide_true, decide_false, if_true, if_false, and_true, true_and, and_false, false_and, or_true, true_or, or_false, false_or, Nat.reduceEqDiff, reduceIte, Nat.reduceMul, Nat.reduceAdd, Nat.reduceSub, Nat.add_zero, Nat.zero_add, Nat.mul_zero, eq_self_iff_true, jg_not_lt, jg_not_le, c, jg_m2, j1]
theorem xV_c {V : Vl} {i K0 p q k : Nat} {x : Int32} {μ : jm_M} (hK : 20 ≤ K0) (h : xV V i μ) : xV V i (jm_sI μ K0 p q k x) := ⟨xH_k h.1 (fun K k hK => ⟨by rw [rd_II, if_neg (by omega)], rfl⟩), fun j hj => xW_k (h.2 j hj) (fun k => by rw [rd_II, if_neg (by omega)]) (fun k => rfl)⟩
theorem xW_c {w : Wd} {i j K0 p q k : Nat} {x : Int32} {μ : jm_M} (hK : 20 ≤ K0) (h : xW w i j μ) : xW w i j (jm_sI μ K0 p q k x) := xW_k h (fun k => by rw [rd_II, if_neg (by omega)]) (fun k => rfl)
theorem xV_jc {V : Vl} {i a b : Nat} {μ μ' : jm_M} (h : xV V i μ) (hf : jc 12 a b μ μ') (hp : i ≠ a) : xV V i μ' := by
  refine ⟨xH_k h.1 (fun K k hK => ?_), fun j hj => xW_jc (h.2 j hj) hf (Or.inl hp)⟩
  have := hf K i 0 (fun z => by omega)
  exact ⟨by rw [this.1], by rw [this.2]⟩
theorem jc_o {a b : Nat} {μ μ' : jm_M} (hf : jc 12 a b μ μ') {K : Nat} (hK : K ≠ 12) (i j k : Nat) : μ'.1 K i j k = μ.1 K i j k := by
  have := hf K i j (fun z => hK z.1)
  rw [this.1]
theorem sx_step {V : Vl} {m : jm_M} (h : xV V 0 m) (ho : okV V) (hc : cP V m) {k p : Nat} (hp : p < 5) (hk : k < (vlW V).length) (hn : wL (gw (vlW V) k) ≠ []) (d : Nat) : ∃ m', jm_sem false (d + 4) jn_X5_step [.inr (.inr (.inl (22, 0, 0))), .inr (.inr (.inl (10, 0, 0))), .inl (nI p), .inl (nI k), .inl (jpl (goW V (gw (vlW V) k)))] m = some (jm_j, m') ∧ xV (sayV V k) 0 m' ∧ cP (sayV V k) m' ∧ sv V k p m' ∧ fr (PSp p) m m' := by
  have h12 := ho.2.2.2.1.1
  have hok := ho.2.2.2.1.2.1 k hk
  have hlt : ∀ q, goW V (gw (vlW V) k) = some q → q < (wL (gw (vlW V) k)).length := fun q hq => goW_lt hn hq
  have h8 := okW_8 hok.1
  obtain ⟨m1, c1, x5, f1⟩ := sx_copyW (i := 5) (j := p) (h.2 k hk) (d + 2)
  have v1 := xV_jc h f1 (by decide)
  have v2 : xV V 0 (jm_sI (jm_sI m1 30 0 0 p (jpl (goW V (gw (vlW V) k)))) 29 0 0 k jN) := xV_c (by decide) (xV_c (by decide) v1)
  have h6 := v1.1.2.2.2.1
  obtain ⟨m3, c3, x3, f3⟩ := sx_wear (v2.2 k hk) hok.1.1 h8 hn hlt (nI (vlD V)) d
  have v3 := xV_set v2 h12 hk x3 f3
  have hw' := okW2_wear hok hn hlt ho.2.2.1
  have ok1 : ∀ j, j < ((vlW V).set k (wWear (gw (vlW V) k) (goW V (gw (vlW V) k)) (nI (vlD V)))).length → okW2 (gw ((vlW V).set k (wWear (gw (vlW V) k) (goW V (gw (vlW V) k)) (nI (vlD V)))) j) := fun j hj => by
    rw [List.length_set] at hj
    rw [gw_set _ hk]
    split
    · exact hw'
    · exact ho.2.2.2.1.2.1 j hj
  have hal : jm_sem false (d + 3) jn_X8_alikeTo [.inr (.inr (.inl (10, 0, 0))), .inr (.inl (lN (enc (wL (wWear (gw (vlW V) k) (goW V (gw (vlW V) k)) (nI (vlD V))))))), .inl (nI k)] m3 = some (.inl (jpl (twW V k)), m3) := by
    rw [e_X8_alikeTo]
    exact sx_alike_loop0 v3 (by show ((vlW V).set k _).length ≤ 12; rw [List.length_set]; exact h12) ok1 hw'.1.1 (okW_8 hw'.1) (but := some k) (fun q hq => by have := Option.some.inj hq; omega) (d + 1) (vlW V).length 0 (by show 0 + _ = ((vlW V).set k _).length; rw [List.length_set]; omega)
  have x30 := x3.1
  have o29 : ∀ w, m3.1 29 0 0 w = if w = k then jN else m.1 29 0 0 w := fun w => by
    rw [jc_o f3 (by decide), rd_II]
    by_cases e : w = k
    · rw [if_pos ⟨rfl, rfl, rfl, e⟩, if_pos e]
    · rw [if_neg (by omega), if_neg e, rd_II, if_neg (by omega), jc_o f1 (by decide)]
  have o30 : m3.1 30 0 0 p = jpl (goW V (gw (vlW V) k)) := by
    rw [jc_o f3 (by decide), rd_II, if_neg (by omega), rd_II, if_pos ⟨rfl, rfl, rfl, rfl⟩]
  have x53 : xW (gw (vlW V) k) 5 p m3 := xW_jc (xW_c (by decide) (xW_c (by decide) x5)) f3 (Or.inl (by decide))
  have fr3 : fr (PSp p) m m3 := ((fr_jc f1 (fun _ => by unfold PSp; omega)).tr (fr_sI (fr_sI .rf (by unfold PSp; omega)) (by unfold PSp; omega))).tr (fr_jc f3 (fun _ => by unfold PSp; omega))
  have hsay : sayWs V k = match twW V k with | none => (vlW V).set k (wWear (gw (vlW V) k) (goW V (gw (vlW V) k)) (nI (vlD V))) | some o => uni ((vlW V).set k (wWear (gw (vlW V) k) (goW V (gw (vlW V) k)) (nI (vlD V)))) k o (nI (vlD V)) := rfl
  have hcp : ∀ (mm : jm_M), (∀ w, w < (vlW V).length → (w = k ∨ twW V k = some w → mm.1 29 0 0 w = jN) ∧ (w ≠ k → twW V k ≠ some w → mm.1 29 0 0 w = m.1 29 0 0 w)) → cP (sayV V k) mm := by
    intro mm hmm w hw
    have hw : w < (sayWs V k).length := hw
    rw [sayWs_len] at hw
    by_cases e : w = k ∨ twW V k = some w
    · exact Or.inl ((hmm w hw).1 e)
    · have e1 : w ≠ k := fun z => e (Or.inl z)
      have e2 : twW V k ≠ some w := fun z => e (Or.inr z)
      show _ ∨ mm.1 29 0 0 w = jpl (goW V (gw (sayWs V k) w))
      rw [(hmm w hw).2 e1 e2, gw_say hk e1 e2]
      exact hc w hw
  cases ht : twW V k with
  | none =>
    refine ⟨jm_sI m3 26 0 0 p jM, ?_, ?_, hcp _ (fun w hw => ⟨fun z => ?_, fun z1 z2 => ?_⟩), ⟨xW_c (by decide) x53, by rw [rd_II, if_neg (by omega)]; exact o30, by rw [rd_II, if_pos ⟨rfl, rfl, rfl, rfl⟩, ht]; rfl, fun o z => by rw [ht] at z; cases z⟩, fr3.tr (fr_I (by unfold PSp; omega))⟩
    · rw [ht] at hal
      have hal := hal
      rw [show jpl none = jM from rfl] at hal
      rw [e_X5_step]
      simp (disch := omega) only [jg_lit, jg_litL, jg_m1, jg_m1L, nI_add, lN_add, pk_mul, jg_sub, jg_subM, jg_addM, jg_addM', jg_negM, jt_in, jt_ix, jt_bi, jt_bl, jt_bv, jt_lt, jg_dT, jg_dF, jt_c, jt_cd, ru_I, ru_L, jg_leI, jg_ltI, jg_eqI, jg_M1, jg_M2, jg_M3, jg_M4, jg_M5, jg_M6, jg_ltT, jg_ltF, jg_leT, jg_leF, jg_eqT, jg_eqF, cond_true, cond_false, ne_eq, not_true_eq_false, not_false_eq_true, decide_true, decide_false, if_true, if_false, and_true, true_and, and_false, false_and, or_true, true_or, or_false, false_or, Nat.reduceEqDiff, reduceIte, Nat.reduceMul, Nat.reduceAdd, Nat.reduceSub, Nat.add_zero, Nat.zero_add, Nat.mul_zero, eq_self_iff_true, jg_not_lt, jg_not_le, c1, jg_m2, h6, c3, x30, hal, Bool.and_true]
    · unfold sayV
      rw [hsay, ht]
      exact xV_c (by decide) v3
    · rw [ht] at z
      have z := z.resolve_right (fun z => by cases z)
      rw [rd_II, if_neg (by omega), o29, if_pos z]
    · rw [rd_II, if_neg (by omega), o29, if_neg z1]
  | some o =>
    obtain ⟨o1, o2⟩ := twW_lt ht
    have v4 : xV (vlSet V ((vlW V).set k (wWear (gw (vlW V) k) (goW V (gw (vlW V) k)) (nI (vlD V))))) 0 (jm_sI m3 26 0 0 p (nI o)) := xV_c (by decide) v3
    have xo : xW (gw (vlW V) o) 0 o (jm_sI m3 26 0 0 p (nI o)) := by
      have := v4.2 o (by show o < ((vlW V).set k _).length; rw [List.length_set]; exact o1)
      have e : gw ((vlW V).set k (wWear (gw (vlW V) k) (goW V (gw (vlW V) k)) (nI (vlD V)))) o = gw (vlW V) o := by rw [gw_set _ hk, if_neg o2]
      rw [← e]
      exact this
    obtain ⟨m5, c5, x6, f5⟩ := sx_copyW (i := 6) (j := p) xo (d + 2)
    have v5 := xV_jc v4 f5 (by decide)
    have o29' : ∀ w, m5.1 29 0 0 w = if w = k then jN else m.1 29 0 0 w := fun w => by
      rw [jc_o f5 (by decide), rd_II, if_neg (by omega), o29]
    have q29 := o29' o
    rw [if_neg o2] at q29
    have v6 : xV (vlSet V ((vlW V).set k (wWear (gw (vlW V) k) (goW V (gw (vlW V) k)) (nI (vlD V))))) 0 (jm_sI (jm_sI m5 31 0 0 p (m.1 29 0 0 o)) 29 0 0 o jN) := xV_c (by decide) (xV_c (by decide) v5)
    obtain ⟨m7, c7, v7, f7⟩ := sx_unite v6 (by show ((vlW V).set k _).length ≤ 12; rw [List.length_set]; exact h12) (a := k) (b := o) (by show k < ((vlW V).set k _).length; rw [List.length_set]; exact hk) (by show o < ((vlW V).set k _).length; rw [List.length_set]; exact o1) (fun z => o2 z.symm) d
    have g7 : ∀ K k', K ≠ 12 → m7.1 K 0 0 k' = (jm_sI (jm_sI m5 31 0 0 p (m.1 29 0 0 o)) 29 0 0 o jN).1 K 0 0 k' := fun K k' hK => (f7 K 0 0 k' (fun z => hK z.1)).1
    refine ⟨m7, ?_, ?_, hcp _ (fun w hw => ⟨fun z => ?_, fun z1 z2 => ?_⟩), ⟨?_, ?_, ?_, fun o' z => ?_⟩, ((fr3.tr (fr_I (by unfold PSp; omega))).tr (fr_jc f5 (fun _ => by unfold PSp; omega))).tr ((fr_sI (fr_sI .rf (by unfold PSp; omega)) (by unfold PSp; omega)).tr (f7.wk (fun K i j k z => by unfold PW at z; unfold PSp; omega)))⟩
    · rw [ht] at hal
      have hal := hal
      rw [show jpl (some o) = nI o from rfl] at hal
      rw [e_X5_step]
      simp (disch := omega) only [jg_lit, jg_litL, jg_m1, jg_m1L, nI_add, lN_add, pk_mul, jg_sub, jg_subM, jg_addM, jg_addM', jg_negM, jt_in, jt_ix, jt_bi, jt_bl, jt_bv, jt_lt, jg_dT, jg_dF, jt_c, jt_cd, ru_I, ru_L, jg_leI, jg_ltI, jg_eqI, jg_M1, jg_M2, jg_M3, jg_M4, jg_M5, jg_M6, jg_ltT, jg_ltF, jg_leT, jg_leF, jg_eqT, jg_eqF, cond_true, cond_false, ne_eq, not_true_eq_false, not_false_eq_true, decide_true, decide_false, if_true, if_false, and_true, true_and, and_false, false_and, or_true, true_or, or_false, false_or, Nat.reduceEqDiff, reduceIte, Nat.reduceMul, Nat.reduceAdd, Nat.reduceSub, Nat.add_zero, Nat.zero_add, Nat.mul_zero, eq_self_iff_true, jg_not_lt, jg_not_le, c1, jg_m2, h6, c3, x30, hal, c5, q29, c7, Bool.and_true]
    · unfold sayV
      rw [hsay, ht]
      exact v7
    · rw [g7 _ _ (by decide), rd_II]
      by_cases e : w = o
      · rw [if_pos ⟨rfl, rfl, rfl, e⟩]
      · rw [if_neg (by omega), rd_II, if_neg (by omega), o29', if_pos (z.resolve_right (fun z => e (by rw [ht] at z; exact (Option.some.inj z).symm)))]
    · have e : w ≠ o := fun e => z2 (by rw [ht, e])
      rw [g7 _ _ (by decide), rd_II, if_neg (by omega), rd_II, if_neg (by omega), o29', if_neg z1]
    · exact xW_fr (xW_c (by decide) (xW_c (by decide) (xW_jc (xW_c (by decide) x53) f5 (Or.inl (by decide))))) f7 (fun k z => by unfold PW at z; omega)
    · rw [g7 _ _ (by decide), rd_II, if_neg (by omega), rd_II, if_neg (by omega), jc_o f5 (by decide), rd_II, if_neg (by omega)]; exact o30
    · rw [g7 _ _ (by decide), rd_II, if_neg (by omega), rd_II, if_neg (by omega), jc_o f5 (by decide), rd_II, if_pos ⟨rfl, rfl, rfl, rfl⟩, ht]; rfl
    · rw [ht] at z
      have z := Option.some.inj z
      subst z
      refine ⟨xW_fr (xW_c (by decide) (xW_c (by decide) x6)) f7 (fun k z => by unfold PW at z; omega), ?_⟩
      rw [g7 _ _ (by decide), rd_II, if_neg (by omega), rd_II, if_pos ⟨rfl, rfl, rfl, rfl⟩]
      exact hc o o1
theorem sx_stepBack {V : Vl} {m : jm_M} {k p : Nat} (h : xV (sayV V k) 0 m) (ho : okV V) (hs : sv V k p m) (hc : cP (sayV V k) m) (hp : p < 5) (hk : k < (vlW V).length) (d : Nat) : ∃ m', jm_sem false (d + 2) jn_X5_stepBack [.inr (.inr (.inl (22, 0, 0))), .inr (.inr (.inl (10, 0, 0))), .inl (nI p), .inl (nI k)] m = some (jm_j, m') ∧ xV V 0 m' ∧ cP V m' ∧ fr (PSp p) m m' := by
  have h12 := ho.2.2.2.1.1
  have hlen : (vlW (sayV V k)).length = (vlW V).length := sayWs_len V k
  obtain ⟨s1, s2, s3, s4⟩ := hs
  obtain ⟨m1, c1, x1, f1⟩ := sx_copyW (i := 0) (j := k) s1 d
  have q30 : m1.1 30 0 0 p = jpl (goW V (gw (vlW V) k)) := by rw [jc_o f1 (by decide)]; exact s2
  have q26 : m1.1 26 0 0 p = jpl (twW V k) := by rw [jc_o f1 (by decide)]; exact s3
  have hH : ∀ mm : jm_M, fr (PSp p) m mm → (∀ j, j < (vlW V).length → xW (gw (vlW V) j) 0 j mm) → xV V 0 mm := by
    intro mm f hw
    have := xH_fr h.1 f (fun K k hK z => by unfold PSp at z; omega)
    unfold xH at this
    rw [hlen] at this
    exact ⟨this, hw⟩
  have hcp : ∀ w, w < (vlW V).length → w ≠ k → twW V k ≠ some w → m.1 29 0 0 w = jN ∨ m.1 29 0 0 w = jpl (goW V (gw (vlW V) w)) := fun w hw z1 z2 => by
    have := hc w (by rw [hlen]; exact hw)
    have e : goW (sayV V k) (gw (vlW (sayV V k)) w) = goW V (gw (sayWs V k) w) := rfl
    rw [e, gw_say hk z1 z2] at this
    exact this
  have hww : ∀ w, w < (vlW V).length → w ≠ k → twW V k ≠ some w → xW (gw (vlW V) w) 0 w m := fun w hw z1 z2 => by
    have := h.2 w (by rw [hlen]; exact hw)
    have e : gw (vlW (sayV V k)) w = gw (sayWs V k) w := rfl
    rw [e, gw_say hk z1 z2] at this
    exact this
  have fr1 : fr (PSp p) m (jm_sI m1 29 0 0 k (jpl (goW V (gw (vlW V) k)))) := (fr_jc f1 (fun _ => by unfold PSp; omega)).tr (fr_I (by unfold PSp; omega))
  cases ht : twW V k with
  | none =>
    rw [ht, show jpl none = jM from rfl] at q26
    refine ⟨jm_sI m1 29 0 0 k (jpl (goW V (gw (vlW V) k))), ?_, hH _ fr1 (fun j hj => ?_), fun w hw => ?_, fr1⟩
    · rw [e_X5_stepBack]
      simp (disch := omega) only [jg_lit, jg_litL, jg_m1, jg_m1L, nI_add, lN_add, pk_mul, jg_sub, jg_subM, jg_addM, jg_addM', jg_negM, jt_in, jt_ix, jt_bi, jt_bl, jt_bv, jt_lt, jg_dT, jg_dF, jt_c, jt_cd, ru_I, ru_L, jg_leI, jg_ltI, jg_eqI, jg_M1, jg_M2, jg_M3, jg_M4, jg_M5, jg_M6, jg_ltT, jg_ltF, jg_leT, jg_leF, jg_eqT, jg_eqF, cond_true, cond_false, ne_eq, not_true_eq_false, not_false_eq_true, decide_true, decide_false, if_true, if_false, and_true, true_and, and_false, false_and, or_true, true_or, or_false, false_or, Nat.reduceEqDiff, reduceIte, Nat.reduceMul, Nat.reduceAdd, Nat.reduceSub, Nat.add_zero, Nat.zero_add, Nat.mul_zero, eq_self_iff_true, jg_not_lt, jg_not_le, c1, q30, q26, Bool.and_true]
    · by_cases e : j = k
      · rw [e]; exact xW_c (by decide) x1
      · exact xW_c (by decide) (xW_jc (hww j hj e (by rw [ht]; exact fun z => by cases z)) f1 (Or.inr e))
    · rw [rd_II]
      by_cases e : w = k
      · rw [if_pos ⟨rfl, rfl, rfl, e⟩, e]; exact Or.inr rfl
      · rw [if_neg (by omega), jc_o f1 (by decide)]; exact hcp w hw e (by rw [ht]; exact fun z => by cases z)
  | some o =>
    obtain ⟨o1, o2⟩ := twW_lt ht
    rw [ht, show jpl (some o) = nI o from rfl] at q26
    obtain ⟨t1, t2⟩ := s4 o ht
    have t1' : xW (gw (vlW V) o) 6 p (jm_sI m1 29 0 0 k (jpl (goW V (gw (vlW V) k)))) := xW_c (by decide) (xW_jc t1 f1 (Or.inl (by decide)))
    obtain ⟨m2, c2, x2, f2⟩ := sx_copyW (i := 0) (j := o) t1' d
    have q31 : m2.1 31 0 0 p = m.1 31 0 0 p := by rw [jc_o f2 (by decide), rd_II, if_neg (by omega), jc_o f1 (by decide)]
    have fr2 : fr (PSp p) m (jm_sI m2 29 0 0 o (m.1 31 0 0 p)) := (fr1.tr (fr_jc f2 (fun _ => by unfold PSp; omega))).tr (fr_I (by unfold PSp; omega))
    refine ⟨jm_sI m2 29 0 0 o (m.1 31 0 0 p), ?_, hH _ fr2 (fun j hj => ?_), fun w hw => ?_, fr2⟩
    · rw [e_X5_stepBack]
      simp (disch := omega) only [jg_lit, jg_litL, jg_m1, jg_m1L, nI_add, lN_add, pk_mul, jg_sub, jg_subM, jg_addM, jg_addM', jg_negM, jt_in, jt_ix, jt_bi, jt_bl, jt_bv, jt_lt, jg_dT, jg_dF, jt_c, jt_cd, ru_I, ru_L, jg_leI, jg_ltI, jg_eqI, jg_M1, jg_M2, jg_M3, jg_M4, jg_M5, jg_M6, jg_ltT, jg_ltF, jg_leT, jg_leF, jg_eqT, jg_eqF, cond_true, cond_false, ne_eq, not_true_eq_false, not_false_eq_true, decide_true, decide_false, if_true, if_false, and_true, true_and, and_false, false_and, or_true, true_or, or_false, false_or, Nat.reduceEqDiff, reduceIte, Nat.reduceMul, Nat.reduceAdd, Nat.reduceSub, Nat.add_zero, Nat.zero_add, Nat.mul_zero, eq_self_iff_true, jg_not_lt, jg_not_le, c1, q30, q26, c2, q31, Bool.and_true]
    · by_cases e : j = o
      · rw [e]; exact xW_c (by decide) x2
      · by_cases e2 : j = k
        · rw [e2]; exact xW_c (by decide) (xW_jc (xW_c (by decide) x1) f2 (Or.inr (fun z => o2 z.symm)))
        · exact xW_c (by decide) (xW_jc (xW_c (by decide) (xW_jc (hww j hj e2 (by rw [ht]; exact fun z => e (Option.some.inj z).symm)) f1 (Or.inr e2))) f2 (Or.inr e))
    · rw [rd_II]
      by_cases e : w = o
      · rw [if_pos ⟨rfl, rfl, rfl, e⟩, e]; exact t2
      · rw [if_neg (by omega), jc_o f2 (by decide), rd_II]
        by_cases e2 : w = k
        · rw [if_pos ⟨rfl, rfl, rfl, e2⟩, e2]; exact Or.inr rfl
        · rw [if_neg (by omega), jc_o f1 (by decide)]; exact hcp w hw e2 (by rw [ht]; exact fun z => e (Option.some.inj z).symm)
