/-! ===== a word more (class) ===== -/
theorem sb_int0 : ∀ p, p < 64 → ∀ s, s < 64 → ((nI p &&& (nI s ^^^ (-1 : Int32))) = 0 ↔ sb p s = true) := by decide +kernel
theorem sb_int {p s : Nat} (hp : p < 64) (hs : s < 64) : ((nI p &&& (nI s ^^^ jM)) = nI 0) = (sb p s = true) := propext (sb_int0 p hp s hs)
theorem sb_xor : ∀ p, p < 64 → ∀ s, s < 64 → 1 ≤ p → sb p s = true → s ^^^ p < s := by decide +kernel
theorem xor_int : ∀ s, s < 64 → ∀ p, p < 64 → nI s ^^^ nI p = nI (s ^^^ p) ∧ s ^^^ p < 64 := by decide +kernel
theorem rI_40 {s : Option Nat} (h : ∀ a, s = some a → a ≤ 40) : (nI 40 ≤ rI s) = ¬ (s.isSome = true) := by
  apply propext
  cases s with
  | none => exact ⟨fun _ z => absurd z (by decide), fun _ => (by decide : nI 40 ≤ nI 40)⟩
  | some a =>
    have := h a rfl
    refine ⟨fun z => ?_, fun z => absurd rfl z⟩
    have z : nI 40 ≤ nI a + jM := z
    by_cases c : a = 0
    · subst c; exact absurd z (by decide)
    · rw [jg_addM (by omega)] at z
      have := (nI_leI (by omega) (by omega)).mp z
      omega
/-- what a set gets of one part -/
def adF (R : Nat → Nat) (E : Nat → Bool) (s p : Nat) : Nat := if sb p s = true ∧ E p = true then R (s ^^^ p) else 0
theorem sx_add_in {R : Nat → Nat} {E : Nat → Bool} {s : Nat} (hs : s < 64) (z1 : jm_V) (d : Nat) (m : jm_M) (hR : ∀ q, q < s → m.1 36 0 0 q = nI (R q)) (hE : ∀ p, p ≤ s → (nI 40 ≤ m.1 35 0 0 p) = ¬ (E p = true)) : ∀ (r p v : Nat), p + r = s + 1 → 1 ≤ p → ∃ y3 y4, jm_ev false d 1 0 jc_X1_addWord 23 [.inr (.inr (.inl (32, 0, 0))), z1, .inl (nI s), .inl (nI v), .inl (nI p)] [] m = jm_ev false d 1 0 jc_X1_addWord 9 [.inr (.inr (.inl (32, 0, 0))), z1, .inl (nI s + jM), y3, y4] [] (jm_sI m 36 0 0 s (nI (v + sm (adF R E s) r p)))
  | 0, p, v, hr, h1 => by
    have : p = s + 1 := by omega
    subst this
    refine ⟨.inl (nI v), .inl (nI (s + 1)), ?_⟩
    refine (l_X1_addWord_23 _ _ _ _ _ _).trans ?_
    have z : sm (adF R E s) 0 (s + 1) = 0 := rfl
    rw [z, Nat.add_zero, jt_dt (nI_lt (Nat.lt_succ_self s) (by omega)), cond_true, jt_in (show s < 64 by omega) (by decide), cond_true, jt_ix (by omega)]
    rfl
  | r + 1, p, v, hr, h1 => by
    have p64 : p < 64 := by omega
    have e1 := sb_int p64 hs
    have e2 := hE p (by omega)
    obtain ⟨x1, x2⟩ := xor_int s hs p p64
    have un : sm (adF R E s) (r + 1) p = adF R E s p + sm (adF R E s) r (p + 1) := rfl
    by_cases c1 : sb p s = true
    · by_cases c2 : E p = true
      · obtain ⟨y3, y4, ih⟩ := sx_add_in hs z1 d m hR hE r (p + 1) (v + R (s ^^^ p)) (by omega) (by omega)
        refine ⟨y3, y4, ?_⟩
        have ad : adF R E s p = R (s ^^^ p) := if_pos ⟨c1, c2⟩
        have r36 := hR (s ^^^ p) (sb_xor p p64 s hs h1 c1)
        rw [un, ad, ← Nat.add_assoc, ← ih]
        refine (l_X1_addWord_23 _ _ _ _ _ _).trans ?_
        generalize s ^^^ p = X at *
        have e1 := e1.trans (eq_true c1)
        have e2 := e2.trans (eq_false (fun z => z c2))
        simp (disch := omega) only [jg_lit, jg_litL, jg_m1, jg_m1L, nI_add, lN_add, pk_mul, jg_sub, jg_subM, jg_addM, jg_addM', jg_negM, jt_in, jt_ix, jt_bi, jt_bl, jt_bv, jt_lt, jg_dT, jg_dF, jt_c, jt_cd, ru_I, ru_L, jg_leI, jg_ltI, jg_eqI, jg_M1, jg_M2, jg_M3, jg_M4, jg_M5, jg_M6, jg_ltT, jg_ltF, jg_leT, jg_leF, jg_eqT, jg_eqF, cond_true, cond_false, ne_eq, not_true_eq_false, not_false_eq_true, decide_true, decide_false, if_true, if_false, and_true, true_and, and_false, false_and, or_true, true_or, or_false, false_or, Nat.reduceEqDiff, reduceIte, Nat.reduceMul, Nat.reduceAdd, Nat.reduceSub, Nat.add_zero, Nat.zero_add, Nat.mul_zero, eq_self_iff_true, jg_not_lt, jg_not_le, e1, e2, x1, r36]
      · obtain ⟨y3, y4, ih⟩ := sx_add_in hs z1 d m hR hE r (p + 1) v (by omega) (by omega)
        refine ⟨y3, y4, ?_⟩
        have ad : adF R E s p = 0 := if_neg (fun z => c2 z.2)
        rw [un, ad, Nat.zero_add, ← ih]
        refine (l_X1_addWord_23 _ _ _ _ _ _).trans ?_
        have e1 := e1.trans (eq_true c1)
        have e2 := e2.trans (eq_true c2)
        simp (disch := omega) only [jg_lit, jg_litL, jg_m1, jg_m1L, nI_add, lN_add, pk_mul, jg_sub, jg_subM, jg_addM, jg_addM', jg_negM, jt_in, jt_ix, jt_bi, jt_bl, jt_bv, jt_lt, jg_dT, jg_dF, jt_c, jt_cd, ru_I, ru_L, jg_leI, jg_ltI, jg_eqI, jg_M1, jg_M2, jg_M3, jg_M4, jg_M5, jg_M6, jg_ltT, jg_ltF, jg_leT, jg_leF, jg_eqT, jg_eqF, cond_true, cond_false, ne_eq, not_true_eq_false, not_false_eq_true, decide_true, decide_false, if_true, if_false, and_true, true_and, and_false, false_and, or_true, true_or, or_false, false_or, Nat.reduceEqDiff, reduceIte, Nat.reduceMul, Nat.reduceAdd, Nat.reduceSub, Nat.add_zero, Nat.zero_add, Nat.mul_zero, eq_self_iff_true, jg_not_lt, jg_not_le, e1, e2]
    · obtain ⟨y3, y4, ih⟩ := sx_add_in hs z1 d m hR hE r (p + 1) v (by omega) (by omega)
      refine ⟨y3, y4, ?_⟩
      have ad : adF R E s p = 0 := if_neg (fun z => c1 z.1)
      rw [un, ad, Nat.zero_add, ← ih]
      refine (l_X1_addWord_23 _ _ _ _ _ _).trans ?_
      have e1 := e1.trans (eq_false c1)
      simp (disch := omega) only [jg_lit, jg_litL, jg_m1, jg_m1L, nI_add, lN_add, pk_mul, jg_sub, jg_subM, jg_addM, jg_addM', jg_negM, jt_in, jt_ix, jt_bi, jt_bl, jt_bv, jt_lt, jg_dT, jg_dF, jt_c, jt_cd, ru_I, ru_L, jg_leI, jg_ltI, jg_eqI, jg_M1, jg_M2, jg_M3, jg_M4, jg_M5, jg_M6, jg_ltT, jg_ltF, jg_leT, jg_leF, jg_eqT, jg_eqF, cond_true, cond_false, ne_eq, not_true_eq_false, not_false_eq_true, decide_true, decide_false, if_true, if_false, and_true, true_and, and_false, false_and, or_true, true_or, or_false, false_or, Nat.reduceEqDiff, reduceIte, Nat.reduceMul, Nat.reduceAdd, Nat.reduceSub, Nat.add_zero, Nat.zero_add, Nat.mul_zero, eq_self_iff_true, jg_not_lt, jg_not_le, e1]
theorem sx_add_loop {R : Nat → Nat} {E : Nat → Bool} (z1 : jm_V) (d : Nat) : ∀ (s : Nat) (z3 z4 : jm_V) (m : jm_M), s < 64 → (∀ q, q ≤ s → m.1 36 0 0 q = nI (R q)) → (∀ p, p ≤ s → (nI 40 ≤ m.1 35 0 0 p) = ¬ (E p = true)) → ∃ m', jm_ev false d 1 0 jc_X1_addWord 9 [.inr (.inr (.inl (32, 0, 0))), z1, .inl (nI s), z3, z4] [] m = some (jm_j, m') ∧ (∀ q, 1 ≤ q → q ≤ s → m'.1 36 0 0 q = nI (R q + sm (adF R E q) q 1)) ∧ (∀ q, q = 0 ∨ s < q → m'.1 36 0 0 q = m.1 36 0 0 q) ∧ fr (fun K _ _ _ => K = 36) m m'
  | 0, z3, z4, m, hs, hR, hE => by
    refine ⟨m, ?_, fun q h1 h2 => by omega, fun q _ => rfl, .rf⟩
    rw [l_X1_addWord_9]
    simp (disch := omega) only [jg_lit, jg_litL, jg_m1, jg_m1L, nI_add, lN_add, pk_mul, jg_sub, jg_subM, jg_addM, jg_addM', jg_negM, jt_in, jt_ix, jt_bi, jt_bl, jt_bv, jt_lt, jg_dT, jg_dF, jt_c, jt_cd, ru_I, ru_L, jg_leI, jg_ltI, jg_eqI, jg_M1, jg_M2, jg_M3, jg_M4, jg_M5, jg_M6, jg_ltT, jg_ltF, jg_leT, jg_leF, jg_eqT, jg_eqF, cond_true, cond_false, ne_eq, not_true_eq_false, not_false_eq_true, decide_true, decide_false, if_true, if_false, and_true, true_and, and_false, false_and, or_true, true_or, or_false, false_or, Nat.reduceEqDiff, reduceIte, Nat.reduceMul, Nat.reduceAdd, Nat.reduceSub, Nat.add_zero, Nat.zero_add, Nat.mul_zero, eq_self_iff_true, jg_not_lt, jg_not_le]
  | s + 1, z3, z4, m, hs, hR, hE => by
    have r1 := hR (s + 1) (Nat.le_refl _)
    obtain ⟨y3, y4, e1⟩ := sx_add_in (R := R) (E := E) hs z1 d m (fun q hq => hR q (by omega)) hE (s + 1) 1 (R (s + 1)) (by omega) (Nat.le_refl 1)
    rw [show nI (s + 1) + jM = nI s from pk_m1 s] at e1
    obtain ⟨m', a1, a2, a3, a4⟩ := sx_add_loop (R := R) (E := E) z1 d s y3 y4 (jm_sI m 36 0 0 (s + 1) (nI (R (s + 1) + sm (adF R E (s + 1)) (s + 1) 1))) (by omega) (fun q hq => by rw [rd_II, if_neg (by omega)]; exact hR q (by omega)) (fun p hp => by rw [rd_II, if_neg (by omega)]; exact hE p (by omega))
    refine ⟨m', ?_, fun q h1 h2 => ?_, fun q hq => ?_, (fr_I rfl).tr a4⟩
    · rw [← a1, ← e1]
      refine (l_X1_addWord_9 _ _ _ _ _ _).trans ?_
      simp (disch := omega) only [jg_lit, jg_litL, jg_m1, jg_m1L, nI_add, lN_add, pk_mul, jg_sub, jg_subM, jg_addM, jg_addM', jg_negM, jt_in, jt_ix, jt_bi, jt_bl, jt_bv, jt_lt, jg_dT, jg_dF, jt_c, jt_cd, ru_I, ru_L, jg_leI, jg_ltI, jg_eqI, jg_M1, jg_M2, jg_M3, jg_M4, jg_M5, jg_M6, jg_ltT, jg_ltF, jg_leT, jg_leF, jg_eqT, jg_eqF, cond_true, cond_false, ne_eq, not_true_eq_false, not_false_eq_true, decide_true, decide_false, if_true, if_false, and_true, true_and, and_false, false_and, or_true, true_or, or_false, false_or, Nat.reduceEqDiff, reduceIte, Nat.reduceMul, Nat.reduceAdd, Nat.reduceSub, Nat.add_zero, Nat.zero_add, Nat.mul_zero, eq_self_iff_true, jg_not_lt, jg_not_le, r1]
    · by_cases e : q = s + 1
      · subst e
        rw [a3 _ (Or.inr (by omega)), rd_II, if_pos ⟨rfl, rfl, rfl, rfl⟩]
      · exact a2 q h1 (by omega)
    · rw [a3 q (by omega), rd_II, if_neg (by omega)]
theorem if64 {n : Nat} (h : n ≤ 64) : (if 64 < n then nI 64 else nI n) = nI n := if_neg (by omega)
theorem sx_addWord {R : Nat → Nat} {E : Nat → Bool} {N : Nat} (h1 : 1 ≤ N) (hN : N ≤ 64) {m : jm_M} (hR : ∀ q, q < N → m.1 36 0 0 q = nI (R q)) (hE : ∀ p, p < N → (nI 40 ≤ m.1 35 0 0 p) = ¬ (E p = true)) (d : Nat) : ∃ m', jm_sem false (d + 1) jn_X1_addWord [.inr (.inr (.inl (32, 0, 0))), .inl (nI N)] m = some (jm_j, m') ∧ (∀ q, q < N → m'.1 36 0 0 q = nI (R q + sm (adF R E q) q 1)) ∧ fr (fun K _ _ _ => K = 36) m m' := by
  obtain ⟨m', a1, a2, a3, a4⟩ := sx_add_loop (R := R) (E := E) (.inl (nI N)) d (N - 1) jm_j jm_j m (by omega) (fun q hq => hR q (by omega)) (fun p hp => hE p (by omega))
  refine ⟨m', ?_, fun q hq => ?_, a4⟩
  · rw [e_X1_addWord]
    simp (disch := omega) only [jg_lit, jg_litL, jg_m1, jg_m1L, nI_add, lN_add, pk_mul, jg_sub, jg_subM, jg_addM, jg_addM', jg_negM, jt_in, jt_ix, jt_bi, jt_bl, jt_bv, jt_lt, jg_dT, jg_dF, jt_c, jt_cd, ru_I, ru_L, jg_leI, jg_ltI, jg_eqI, jg_M1, jg_M2, jg_M3, jg_M4, jg_M5, jg_M6, jg_ltT, jg_ltF, jg_leT, jg_leF, jg_eqT, jg_eqF, cond_true, cond_false, ne_eq, not_true_eq_false, not_false_eq_true, decide_true, decide_false, if_true, if_false, and_true, true_and, and_false, false_and, or_true, true_or, or_false, false_or, Nat.reduceEqDiff, reduceIte, Nat.reduceMul, Nat.reduceAdd, Nat.reduceSub, Nat.add_zero, Nat.zero_add, Nat.mul_zero, eq_self_iff_true, jg_not_lt, jg_not_le, if64]
    exact a1
  · by_cases e : q = 0
    · subst e
      rw [a3 0 (Or.inl rfl), hR 0 (by omega)]
      rfl
    · exact a2 q (by omega) (by omega)
/-! ===== all words (class) ===== -/
abbrev σ0 : Nat → Option Nat := fun _ => some 0
def PHe (K i j _k : Nat) : Prop := (K = 12 ∧ i = 0 ∧ j = 12) ∨ K = 34 ∨ K = 35 ∨ K = 36
theorem sx_he_loop {V : Vl} (ho : okV V) {hs : List Int64} (h6 : hs.length ≤ 6) (d : Nat) : ∀ (r k : Nat) (m : jm_M), k + r = (vlW V).length → xV V 0 m → (∀ q, q < hs.length → m.2 33 0 0 q = hs.getD q 0) → (∀ s, s < 2 ^ hs.length → m.1 36 0 0 s = nI (cnt (liveB (vlW V)) (chF V) k (sel s hs) σ0)) → ∃ m', jm_ev false (d + 6) 1 1 jc_X1_countRows 43 [.inr (.inr (.inl (32, 0, 0))), .inr (.inr (.inl (10, 0, 0))), .inl (nI (2 ^ hs.length)), .inl (nI k)] [] m = some (.inl (nI (cnt (liveB (vlW V)) (chF V) (vlW V).length hs σ0)), m') ∧ xV V 0 m' ∧ fr PHe m m'
  | 0, k, m, hr, h, hx, hp => by
    have h12 := ho.2.2.2.1.1
    have h4 := h.1.2.1
    have p6 : 2 ^ hs.length ≤ 2 ^ 6 := Nat.pow_le_pow_right (by decide) h6
    have p1 := Nat.one_le_two_pow (n := hs.length)
    have : k = (vlW V).length := by omega
    subst this
    have v := hp (2 ^ hs.length - 1) (by omega)
    rw [sel_all] at v
    refine ⟨m, ?_, h, .rf⟩
    rw [l_X1_countRows_43]
    generalize 2 ^ hs.length = N at *
    simp (disch := omega) only [jg_lit, jg_litL, jg_m1, jg_m1L, nI_add, lN_add, pk_mul, jg_sub, jg_subM, jg_addM, jg_addM', jg_negM, jt_in, jt_ix, jt_bi, jt_bl, jt_bv, jt_lt, jg_dT, jg_dF, jt_c, jt_cd, ru_I, ru_L, jg_leI, jg_ltI, jg_eqI, jg_M1, jg_M2, jg_M3, jg_M4, jg_M5, jg_M6, jg_ltT, jg_ltF, jg_leT, jg_leF, jg_eqT, jg_eqF, cond_true, cond_false, ne_eq, not_true_eq_false, not_false_eq_true, decide_true, decide_false, if_true, if_false, and_true, true_and, and_false, false_and, or_true, true_or, or_false, false_or, Nat.reduceEqDiff, reduceIte, Nat.reduceMul, Nat.reduceAdd, Nat.reduceSub, Nat.add_zero, Nat.zero_add, Nat.mul_zero, eq_self_iff_true, jg_not_lt, jg_not_le, h4, v]
  | r + 1, k, m, hr, h, hx, hp => by
    have h12 := ho.2.2.2.1.1
    have h4 := h.1.2.1
    have p6 : 2 ^ hs.length ≤ 2 ^ 6 := Nat.pow_le_pow_right (by decide) h6
    have p1 := Nat.one_le_two_pow (n := hs.length)
    have hk : k < (vlW V).length := by omega
    have g := sx_isGone (h.2 k hk) (okW_8 (ho.2.2.2.1.2.1 k hk).1) (d + 5)
    by_cases c : wL (gw (vlW V) k) = []
    · have lv : liveB (vlW V) k = false := decide_eq_false (fun z => z c)
      rw [if_pos c] at g
      have g : jm_sem false (d + 6) jn_X10_isGone [.inr (.inr (.inl (12, 0, k)))] m = some (.inl (nI 1), m) := g
      obtain ⟨m', e1, e2, e3⟩ := sx_he_loop ho h6 d r (k + 1) m (by omega) h hx (fun s hs' => by rw [cnt_skip lv]; exact hp s hs')
      refine ⟨m', ?_, e2, e3⟩
      rw [← e1]
      refine (l_X1_countRows_43 _ _ _ _ _).trans ?_
      generalize 2 ^ hs.length = N at *
      simp (disch := omega) only [jg_lit, jg_litL, jg_m1, jg_m1L, nI_add, lN_add, pk_mul, jg_sub, jg_subM, jg_addM, jg_addM', jg_negM, jt_in, jt_ix, jt_bi, jt_bl, jt_bv, jt_lt, jg_dT, jg_dF, jt_c, jt_cd, ru_I, ru_L, jg_leI, jg_ltI, jg_eqI, jg_M1, jg_M2, jg_M3, jg_M4, jg_M5, jg_M6, jg_ltT, jg_ltF, jg_leT, jg_leF, jg_eqT, jg_eqF, cond_true, cond_false, ne_eq, not_true_eq_false, not_false_eq_true, decide_true, decide_false, if_true, if_false, and_true, true_and, and_false, false_and, or_true, true_or, or_false, false_or, Nat.reduceEqDiff, reduceIte, Nat.reduceMul, Nat.reduceAdd, Nat.reduceSub, Nat.add_zero, Nat.zero_add, Nat.mul_zero, eq_self_iff_true, jg_not_lt, jg_not_le, h4, g, Bool.and_true]
    · have lv : liveB (vlW V) k = true := decide_eq_true c
      rw [if_neg c] at g
      have g : jm_sem false (d + 6) jn_X10_isGone [.inr (.inr (.inl (12, 0, k)))] m = some (.inl (nI 0), m) := g
      obtain ⟨m1, a1, a2, a3⟩ := sx_follow ho hk h d
      obtain ⟨m2, b1, b2, b3⟩ := sx_reach h6 (f := chF V k) a2 (fun q hq => by rw [(a3 33 0 0 q (by unfold P34; omega)).2]; exact hx q hq) (d + 4)
      have f2 : fr PHe m m2 := (a3.wk (fun K i j q z => by unfold P34 at z; unfold PHe; omega)).tr (b3.wk (fun K i j q z => by unfold PHe; omega))
      have r36 : ∀ s, s < 2 ^ hs.length → m2.1 36 0 0 s = nI (cnt (liveB (vlW V)) (chF V) k (sel s hs) σ0) := fun s hs' => by
        rw [(b3 36 0 0 s (show ¬ ((36 : Nat) = 35) by decide)).1, (a3 36 0 0 s (by unfold P34; omega)).1]; exact hp s hs'
      obtain ⟨m3, c1, c2, c3⟩ := sx_addWord (R := fun s => cnt (liveB (vlW V)) (chF V) k (sel s hs) σ0) (E := fun p => (rnS (chF V k) (sel p hs) (some 0)).isSome) p1 (by omega) r36 (fun p hp' => by
        rw [b2 p hp', rI_40 (fun a ha => rn_le _ _ a (fun b hb => by have := Option.some.inj hb; omega) ha)]) (d + 5)
      have f3 : fr PHe m m3 := f2.tr (c3.wk (fun K i j q z => by unfold PHe; omega))
      have v3 : xV V 0 m3 := xV_fr h h12 f3 (fun K j q hK hj z => by unfold PHe at z; omega)
      obtain ⟨m', e1, e2, e3⟩ := sx_he_loop ho h6 d r (k + 1) m3 (by omega) v3 (fun q hq => by rw [(f3 33 0 0 q (by unfold PHe; omega)).2]; exact hx q hq) (fun s hs' => by
        rw [c2 s hs', cnt_step lv h6 hs']
        rfl)
      refine ⟨m', ?_, e2, f3.tr e3⟩
      rw [← e1]
      refine (l_X1_countRows_43 _ _ _ _ _).trans ?_
      generalize 2 ^ hs.length = N at *
      simp (disch := omega) only [jg_lit, jg_litL, jg_m1, jg_m1L, nI_add, lN_add, pk_mul, jg_sub, jg_subM, jg_addM, jg_addM', jg_negM, jt_in, jt_ix, jt_bi, jt_bl, jt_bv, jt_lt, jg_dT, jg_dF, jt_c, jt_cd, ru_I, ru_L, jg_leI, jg_ltI, jg_eqI, jg_M1, jg_M2, jg_M3, jg_M4, jg_M5, jg_M6, jg_ltT, jg_ltF, jg_leT, jg_leF, jg_eqT, jg_eqF, cond_true, cond_false, ne_eq, not_true_eq_false, not_false_eq_true, decide_true, decide_false, if_true, if_false, and_true, true_and, and_false, false_and, or_true, true_or, or_false, false_or, Nat.reduceEqDiff, reduceIte, Nat.reduceMul, Nat.reduceAdd, Nat.reduceSub, Nat.add_zero, Nat.zero_add, Nat.mul_zero, eq_self_iff_true, jg_not_lt, jg_not_le, h4, g, a1, b1, c1, Bool.and_true]
theorem cnt_00 {lv : Nat → Bool} {f : Nat → Nat → Int64} {hs : List Int64} (h6 : hs.length ≤ 6) {s : Nat} (h : s < 2 ^ hs.length) : cnt lv f 0 (sel s hs) σ0 = if s = 0 then 1 else 0 := by
  by_cases c : s = 0
  · subst c; rw [sel_0]; rfl
  · rw [if_neg c, sel_top hs s h6 (by omega) h]
    cases sel (s ^^^ 2 ^ Nat.log2 s) hs with
    | nil => rfl
    | cons x t => rfl
theorem sx_he_ini {N : Nat} (hN : N ≤ 64) (d : Nat) : ∀ (r k : Nat) (m : jm_M), k + r = N → (∀ s, s < k → m.1 36 0 0 s = nI (if s = 0 then 1 else 0)) → ∃ m', jm_ev false d 1 1 jc_X1_countRows 9 [.inr (.inr (.inl (32, 0, 0))), .inr (.inr (.inl (10, 0, 0))), .inl (nI N), .inl (nI k)] [] m = jm_ev false d 1 1 jc_X1_countRows 43 [.inr (.inr (.inl (32, 0, 0))), .inr (.inr (.inl (10, 0, 0))), .inl (nI N), .inl (nI 0)] [] m' ∧ (∀ s, s < N → m'.1 36 0 0 s = nI (if s = 0 then 1 else 0)) ∧ fr (fun K _ _ _ => K = 36) m m'
  | 0, k, m, hr, h => by
    refine ⟨m, ?_, fun s hs => h s (by omega), .rf⟩
    refine (l_X1_countRows_9 _ _ _ _ _).trans ?_
    simp (disch := omega) only [jg_lit, jg_litL, jg_m1, jg_m1L, nI_add, lN_add, pk_mul, jg_sub, jg_subM, jg_addM, jg_addM', jg_negM, jt_in, jt_ix, jt_bi, jt_bl, jt_bv, jt_lt, jg_dT, jg_dF, jt_c, jt_cd, ru_I, ru_L, jg_leI, jg_ltI, jg_eqI, jg_M1, jg_M2, jg_M3, jg_M4, jg_M5, jg_M6, jg_ltT, jg_ltF, jg_leT, jg_leF, jg_eqT, jg_eqF, cond_true, cond_false, ne_eq, not_true_eq_false, not_false_eq_true, decide_true, decide_false, if_true, if_false, and_true, true_and, and_false, false_and, or_true, true_or, or_false, false_or, Nat.reduceEqDiff, reduceIte, Nat.reduceMul, Nat.reduceAdd, Nat.reduceSub, Nat.add_zero, Nat.zero_add, Nat.mul_zero, eq_self_iff_true, jg_not_lt, jg_not_le]
  | r + 1, k, m, hr, h => by
    obtain ⟨m', e1, e2, e3⟩ := sx_he_ini hN d r (k + 1) (jm_sI m 36 0 0 k (nI (if k = 0 then 1 else 0))) (by omega) (fun s hs => by
      rw [rd_II]
      by_cases e : s = k
      · rw [if_pos ⟨rfl, rfl, rfl, e⟩, e]
      · rw [if_neg (by omega)]; exact h s (by omega))
    refine ⟨m', ?_, e2, (fr_I rfl).tr e3⟩
    rw [← e1]
    refine (l_X1_countRows_9 _ _ _ _ _).trans ?_
    by_cases c : k = 0
    · subst c
      simp (disch := omega) only [jg_lit, jg_litL, jg_m1, jg_m1L, nI_add, lN_add, pk_mul, jg_sub, jg_subM, jg_addM, jg_addM', jg_negM, jt_in, jt_ix, jt_bi, jt_bl, jt_bv, jt_lt, jg_dT, jg_dF, jt_c, jt_cd, ru_I, ru_L, jg_leI, jg_ltI, jg_eqI, jg_M1, jg_M2, jg_M3, jg_M4, jg_M5, jg_M6, jg_ltT, jg_ltF, jg_leT, jg_leF, jg_eqT, jg_eqF, cond_true, cond_false, ne_eq, not_true_eq_false, not_false_eq_true, decide_true, decide_false, if_true, if_false, and_true, true_and, and_false, false_and, or_true, true_or, or_false, false_or, Nat.reduceEqDiff, reduceIte, Nat.reduceMul, Nat.reduceAdd, Nat.reduceSub, Nat.add_zero, Nat.zero_add, Nat.mul_zero, eq_self_iff_true, jg_not_lt, jg_not_le]
    · rw [if_neg c]
      simp (disch := omega) only [jg_lit, jg_litL, jg_m1, jg_m1L, nI_add, lN_add, pk_mul, jg_sub, jg_subM, jg_addM, jg_addM', jg_negM, jt_in, jt_ix, jt_bi, jt_bl, jt_bv, jt_lt, jg_dT, jg_dF, jt_c, jt_cd, ru_I, ru_L, jg_leI, jg_ltI, jg_eqI, jg_M1, jg_M2, jg_M3, jg_M4, jg_M5, jg_M6, jg_ltT, jg_ltF, jg_leT, jg_leF, jg_eqT, jg_eqF, cond_true, cond_false, ne_eq, not_true_eq_false, not_false_eq_true, decide_true, decide_false, if_true, if_false, and_true, true_and, and_false, false_and, or_true, true_or, or_false, false_or, Nat.reduceEqDiff, reduceIte, Nat.reduceMul, Nat.reduceAdd, Nat.reduceSub, Nat.add_zero, Nat.zero_add, Nat.mul_zero, eq_self_iff_true, jg_not_lt, jg_not_le]
theorem sx_countHe {V : Vl} (ho : okV V) {hs : List Int64} (h6 : hs.length ≤ 6) {m : jm_M} (h : xV V 0 m) (h4 : m.1 32 0 0 4 = nI hs.length) (hx : ∀ q, q < hs.length → m.2 33 0 0 q = hs.getD q 0) (d : Nat) : ∃ m', jm_sem false (d + 7) jn_X1_countRows [.inr (.inr (.inl (32, 0, 0))), .inr (.inr (.inl (10, 0, 0)))] m = some (.inl (nI (cnt (liveB (vlW V)) (chF V) (vlW V).length hs σ0)), m') ∧ xV V 0 m' ∧ fr PHe m m' := by
  have p6 : 2 ^ hs.length ≤ 2 ^ 6 := Nat.pow_le_pow_right (by decide) h6
  obtain ⟨m1, a1, a2, a3⟩ := sx_he_ini (N := 2 ^ hs.length) (by omega) (d + 6) (2 ^ hs.length) 0 m (by omega) (fun s hs => by omega)
  obtain ⟨m2, b1, b2, b3⟩ := sx_he_loop ho h6 d (vlW V).length 0 m1 (by omega) (xV_n h a3 (fun K _ _ _ z => by omega)) (fun q hq => by rw [(a3 33 0 0 q (show ¬ ((33 : Nat) = 36) by decide)).2]; exact hx q hq) (fun s hs' => by rw [a2 s hs', cnt_00 h6 hs'])
  refine ⟨m2, ?_, b2, (a3.wk (fun K i j q z => by unfold PHe; omega)).tr b3⟩
  have sh := shl_n hs.length (by omega)
  rw [e_X1_countRows]
  simp (disch := omega) only [jg_lit, jg_litL, jg_m1, jg_m1L, nI_add, lN_add, pk_mul, jg_sub, jg_subM, jg_addM, jg_addM', jg_negM, jt_in, jt_ix, jt_bi, jt_bl, jt_bv, jt_lt, jg_dT, jg_dF, jt_c, jt_cd, ru_I, ru_L, jg_leI, jg_ltI, jg_eqI, jg_M1, jg_M2, jg_M3, jg_M4, jg_M5, jg_M6, jg_ltT, jg_ltF, jg_leT, jg_leF, jg_eqT, jg_eqF, cond_true, cond_false, ne_eq, not_true_eq_false, not_false_eq_true, decide_true, decide_false, if_true, if_false, and_true, true_and, and_false, false_and, or_true, true_or, or_false, false_or, Nat.reduceEqDiff, reduceIte, Nat.reduceMul, Nat.reduceAdd, Nat.reduceSub, Nat.add_zero, Nat.zero_add, Nat.mul_zero, eq_self_iff_true, jg_not_lt, jg_not_le, h4, sh]
  rw [← b1]
  exact a1
