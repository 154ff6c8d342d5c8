/-! ===== does a rule hold (class) ===== -/
def encB : List Bool → Nat
  | [] => 0
  | b :: t => 2 * encB t + (if b then 1 else 0)
theorem encB_lt : ∀ (st : List Bool), encB st < 2 ^ st.length
  | [] => by decide
  | b :: t => by
    have := encB_lt t
    show 2 * encB t + (if b then 1 else 0) < 2 ^ (t.length + 1)
    rw [Nat.pow_succ]
    split <;> omega
theorem encB_28 {st : List Bool} (h : st.length ≤ 28) : encB st < 2 ^ 28 := Nat.lt_of_lt_of_le (encB_lt st) (Nat.pow_le_pow_right (by decide) h)
theorem seg_s {C : List Ck} {k r : Nat} (h : k < C.length) : (C.drop k).take (r + 1) = C.getD k (0, 0) :: (C.drop (k + 1)).take r := by
  rw [List.drop_eq_getElem_cons h, List.take_succ_cons]
  simp [List.getD, List.getElem?_eq_getElem h]
theorem jt_and1 (n : Nat) : nI n &&& (1 : Int32) = nI (n % 2) := by
  rw [show (1 : Int32) = nI (2 ^ 1 - 1) from rfl, fb_andI, Nat.and_two_pow_sub_one_eq_mod]
theorem jt_shr1 {n : Nat} (h : n < 2 ^ 31) : nI n >>> ((1 : Int32) &&& 31) = nI (n / 2) := pk_shrN h _ 1 (by decide)
theorem jt_shr2 {n : Nat} (h : n < 2 ^ 31) : nI n >>> ((2 : Int32) &&& 31) = nI (n / 4) := pk_shrN h _ 2 (by decide)
theorem jt_shl1 {n : Nat} (h : n < 2 ^ 31) : nI n <<< ((1 : Int32) &&& 31) = nI (n * 2) := pk_shlN _ 1 (by decide) (by omega)
theorem jt_or2 (t : Nat) {x : Nat} (h : x < 2) : nI (t * 2) ||| nI x = nI (t * 2 + x) := by
  rw [fb_orI, Nat.mul_comm, show 2 * t = 2 ^ 1 * t from rfl, Nat.two_pow_add_eq_or_of_lt (i := 1) h]
theorem jt_ex (b : Bool) (t : Nat) : nI (2 * t + (if b then 1 else 0)) ^^^ (1 : Int32) = nI (2 * t + (if !b then 1 else 0)) := by
  rw [show (1 : Int32) = nI 1 from rfl, fb_xorI]
  congr 1
  have h := Nat.two_pow_add_eq_or_of_lt (i := 1) (b := if b then 1 else 0) (by split <;> decide) t
  have h' := Nat.two_pow_add_eq_or_of_lt (i := 1) (b := if !b then 1 else 0) (by split <;> decide) t
  have e : (2 : Nat) ^ 1 = 2 := rfl
  rw [e] at h h'
  apply Nat.eq_of_testBit_eq
  intro k
  cases k with
  | zero => cases b <;> simp [Nat.testBit_xor, Nat.testBit_zero] <;> omega
  | succ k =>
    rw [Nat.testBit_xor, Nat.testBit_succ, Nat.testBit_succ, Nat.testBit_succ]
    have e1 : (2 * t + (if b then 1 else 0)) / 2 = t := by split <;> omega
    have e2 : (2 * t + (if !b then 1 else 0)) / 2 = t := by split <;> omega
    rw [e1, e2]
    simp
/-- the pieces of a LAW in the class -/
def xC (C : List Ck) (i : Nat) (μ : jm_M) : Prop := ∀ k, k < C.length → μ.1 14 i 0 k = nI (C.getD k (0, 0)).1 ∧ μ.1 15 i 0 k = nI (wantX (C.getD k (0, 0)))
theorem getD_mem {C : List Ck} {k : Nat} (h : k < C.length) : C.getD k (0, 0) ∈ C := by
  simp only [List.getD, List.getElem?_eq_getElem h, Option.getD_some]
  exact List.getElem_mem h
theorem encB_n (x y : Bool) (t : List Bool) : encB (x :: y :: t) / 4 = encB t ∧ encB (x :: y :: t) % 2 = (if x then 1 else 0) ∧ encB (x :: y :: t) / 2 % 2 = (if y then 1 else 0) := by
  have e4 : encB (x :: y :: t) = 2 * (2 * encB t + (if y then 1 else 0)) + (if x then 1 else 0) := rfl
  rw [e4]
  cases x <;> cases y <;> simp only [Bool.false_eq_true, reduceIte, if_false] <;> omega
theorem evB_cons (ask : Ck → Bool) (c : Ck) (t : List Ck) (st : List Bool) : evB ask (c :: t) st = evB ask t (stepB ask st c) := rfl
theorem sx_holds_loop {w : Wd} {i j : Nat} {m : jm_M} (h : xW w i j m) (ho : okL (wL w)) (h26 : ∀ c ∈ wL w, c ≤ 26) (h8 : (wL w).length ≤ 8) (hn : wL w ≠ []) (hM : wM w < 4096) {C : List Ck} (hC : C.length ≤ 150) (hk : ∀ c ∈ C, okCk c) {i0 : Nat} (hx : xC C i0 m) (day : Int32) (z1 : jm_V) {e : Nat} (he : e ≤ C.length) (d : Nat) : ∀ (r k : Nat) (st : List Bool) (z7 z8 z9 : jm_V), k + r = e → st.length ≤ 28 → dep ((C.drop k).take r) st.length = some 1 → jm_ev false (d + 2) 2 2 jc_X2_holds 6 [.inr (.inr (.inl (13, i0, 0))), z1, .inl (nI e), .inr (.inr (.inl (12, i, j))), .inl day, .inl (nI (encB st)), .inl (nI k), z7, z8, z9] [] m = some (.inl (bI ((evB (askB (wL w) (shB (wM w)) (wS w) (mn99 day) (mn99 (day - lat (wT w)))) ((C.drop k).take r) st).headD false)), m)
  | 0, k, st, z7, z8, z9, hr, hs, hd => by
    rw [List.take_zero] at hd ⊢
    have h1 : st.length = 1 := by simpa [dep] using hd
    obtain ⟨b, rfl⟩ := List.length_eq_one_iff.mp h1
    rw [l_X2_holds_6, jt_dt (nI_le (show e ≤ k by omega) (by omega)), cond_true]
    cases b
    · rw [jt_dt (show nI (encB [false]) &&& (1 : Int32) ≠ 1 by decide)]; rfl
    · rw [jt_df (show ¬ (nI (encB [true]) &&& (1 : Int32) ≠ 1) by decide)]; rfl
  | r + 1, k, st, z7, z8, z9, hr, hs, hd => by
    have hkC : k < C.length := by omega
    have hok := hk _ (getD_mem hkC)
    obtain ⟨x1, x2⟩ := hx k hkC
    rw [seg_s hkC] at hd ⊢
    have ih := sx_holds_loop h ho h26 h8 hn hM hC hk hx day z1 he d r (k + 1)
    rw [l_X2_holds_6, jt_df (nI_ge (show k < e by omega) (by omega)), cond_false, jt_df (show ¬ (150 : Int32) ≤ nI k from nI_ge (b := 150) (by omega) (by decide)), cond_false, jt_in (show k < 150 by omega) (by decide), cond_true, jt_ix (show k < 2 ^ 31 by omega), x1, x2]
    generalize C.getD k (0, 0) = c at hd hok ⊢
    obtain ⟨a, b⟩ := c
    have ha : a ≤ 10 := hok.1
    have h28 := encB_28 hs
    rw [evB_cons]
    unfold dep at hd
    dsimp only at hd
    unfold stepB
    dsimp only
    rw [nI_1]
    by_cases a8 : a = 8
    · subst a8
      rw [if_pos rfl] at hd ⊢
      cases st with
      | nil => rw [if_neg (by decide)] at hd; exact absurd hd (by simp)
      | cons x t =>
        rw [if_pos (by simp)] at hd
        rw [show decide (nI 8 = 8) = true from by decide, cond_true]
        show jm_ev false (d + 2) 2 2 jc_X2_holds 6 [_, _, _, _, _, .inl (nI (2 * encB t + (if x then 1 else 0)) ^^^ (1 : Int32)), _, _, _, _] [] m = _
        rw [jt_ex]
        exact ih ((!x) :: t) _ _ _ (by omega) hs hd
    · rw [if_neg a8] at hd ⊢
      rw [show decide (nI a = 8) = false from decide_eq_false (by rw [show (8 : Int32) = nI 8 from rfl, nI_eq (by omega) (by decide)]; exact a8), cond_false]
      by_cases a9 : a = 9
      · subst a9
        rw [if_pos (Or.inl rfl)] at hd
        rw [if_pos rfl, show decide (nI 9 = 9) = true from by decide, cond_true]
        match st, hs, hd, h28 with
        | [], _, hd, _ => rw [if_neg (by decide)] at hd; exact absurd hd (by simp)
        | [_], _, hd, _ => rw [if_neg (by simp)] at hd; exact absurd hd (by simp)
        | x :: y :: t, hs, hd, h28 =>
          rw [if_pos (by simp)] at hd
          obtain ⟨n1, n2, n3⟩ := encB_n x y t
          rw [jt_shr2 (by omega), jt_shr1 (by omega), jt_shl1 (by omega), jt_and1, jt_and1, fb_andI, n1, n2, n3, jt_or2 _ (by cases x <;> cases y <;> decide)]
          have e5 : encB t * 2 + ((if x = true then 1 else 0) &&& (if y = true then 1 else 0)) = encB ((y && x) :: t) := by
            show _ = 2 * encB t + (if (y && x) = true then 1 else 0)
            cases x <;> cases y <;> simp <;> omega
          rw [e5]
          exact ih ((y && x) :: t) _ _ _ (by omega) (by simp only [List.length_cons] at hs ⊢; omega) hd
      · rw [if_neg a9, show decide (nI a = 9) = false from decide_eq_false (by rw [show (9 : Int32) = nI 9 from rfl, nI_eq (by omega) (by decide)]; exact a9), cond_false]
        by_cases a10 : a = 10
        · subst a10
          rw [if_pos (Or.inr rfl)] at hd
          rw [if_pos rfl, show decide (nI 10 = 10) = true from by decide, cond_true]
          match st, hs, hd, h28 with
          | [], _, hd, _ => rw [if_neg (by decide)] at hd; exact absurd hd (by simp)
          | [_], _, hd, _ => rw [if_neg (by simp)] at hd; exact absurd hd (by simp)
          | x :: y :: t, hs, hd, h28 =>
            rw [if_pos (by simp)] at hd
            obtain ⟨n1, n2, n3⟩ := encB_n x y t
            rw [jt_shr2 (by omega), jt_shr1 (by omega), jt_shl1 (by omega), jt_and1, jt_and1, n1, n2, n3, fb_orI, fb_orI, Nat.or_assoc, ← fb_orI, jt_or2 _ (by cases x <;> cases y <;> decide)]
            have e5 : encB t * 2 + ((if x = true then 1 else 0) ||| (if y = true then 1 else 0)) = encB ((y || x) :: t) := by
              show _ = 2 * encB t + (if (y || x) = true then 1 else 0)
              cases x <;> cases y <;> simp <;> omega
            rw [e5]
            exact ih ((y || x) :: t) _ _ _ (by omega) (by simp only [List.length_cons] at hs ⊢; omega) hd
        · rw [if_neg (by omega)] at hd
          by_cases h28' : st.length < 28
          · rw [if_pos h28'] at hd
            rw [if_neg a10, show decide (nI a = 10) = false from decide_eq_false (by rw [show (10 : Int32) = nI 10 from rfl, nI_eq (by omega) (by decide)]; exact a10), cond_false, sx_isSo (c := (a, b)) h ho h26 h8 hn hM hok (show a < 8 by omega) day d, jt_bi, jt_shl1 (by omega)]
            have hs' : encB st * 2 < 2 ^ 31 := by omega
            cases hb : askB (wL w) (shB (wM w)) (wS w) (mn99 day) (mn99 (day - lat (wT w))) (a, b) with
            | false =>
              rw [show decide (bI false = 0) = true from by decide, cond_true, show (0 : Int32) = nI 0 from rfl, jt_or2 _ (by decide), show encB st * 2 + 0 = encB (false :: st) by show _ = 2 * encB st + 0; omega]
              exact ih (false :: st) _ _ _ (by omega) (by simp only [List.length_cons]; omega) hd
            | true =>
              rw [show decide (bI true = 0) = false from by decide, cond_false, show (1 : Int32) = nI 1 from rfl, jt_or2 _ (by decide), show encB st * 2 + 1 = encB (true :: st) by show _ = 2 * encB st + 1; omega]
              exact ih (true :: st) _ _ _ (by omega) (by simp only [List.length_cons]; omega) hd
          · rw [if_neg h28'] at hd; exact absurd hd (by simp)
theorem sx_holds {w : Wd} {i j : Nat} {m : jm_M} (h : xW w i j m) (ho : okL (wL w)) (h26 : ∀ c ∈ wL w, c ≤ 26) (h8 : (wL w).length ≤ 8) (hn : wL w ≠ []) (hM : wM w < 4096) {C : List Ck} (hC : C.length ≤ 150) (hk : ∀ c ∈ C, okCk c) {i0 : Nat} (hx : xC C i0 m) (day : Int32) {a e : Nat} (hae : a ≤ e) (he : e ≤ C.length) (hd : dep ((C.drop a).take (e - a)) 0 = some 1) (d : Nat) : jm_sem false (d + 3) jn_X2_holds [.inr (.inr (.inl (13, i0, 0))), .inl (nI a), .inl (nI e), .inr (.inr (.inl (12, i, j))), .inl day] m = some (.inl (bI ((evB (askB (wL w) (shB (wM w)) (wS w) (mn99 day) (mn99 (day - lat (wT w)))) ((C.drop a).take (e - a)) []).headD false)), m) := by
  rw [e_X2_holds]
  exact sx_holds_loop h ho h26 h8 hn hM hC hk hx day _ he d (e - a) a [] _ _ _ (by omega) (by decide) hd
