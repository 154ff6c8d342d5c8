/-! ===== the place lost (class) ===== -/
def xS (S : Sf) (i : Nat) (μ : jm_M) : Prop := ∀ c, 1 ≤ c → c ≤ 26 → μ.1 19 i 0 c = nI (rkX S c)
theorem rkX_lt {S : Sf} (h : okS S) {c : Nat} (hc : c ≤ 26) : rkX S c < 64 := by
  unfold rkX
  cases e : S c with
  | none => dsimp only; omega
  | some k => have := h c k e; dsimp only; omega
theorem rkM_lt {S : Sf} (h : okS S) {c : Nat} (hc : c ≤ 26) : rkM S c < 128 := by
  unfold rkM
  cases e : S c with
  | none => dsimp only; omega
  | some k => have := h c k e; dsimp only; omega
theorem let_ok {ls : List Nat} (ho : okL ls) (h26 : ∀ c ∈ ls, c ≤ 26) {k : Nat} (hk : k < ls.length) : 1 ≤ ls.getD k 0 ∧ ls.getD k 0 ≤ 26 := by
  have : ls.getD k 0 ∈ ls := by
    simp only [List.getD, List.getElem?_eq_getElem hk, Option.getD_some]
    exact List.getElem_mem hk
  exact ⟨(ho _ this).1, h26 _ this⟩
theorem sx_soft_loop {w : Wd} {i j : Nat} {m : jm_M} (h : xW w i j m) (ho : okL (wL w)) (h26 : ∀ c ∈ wL w, c ≤ 26) (h8 : (wL w).length ≤ 8) {S : Sf} (hS : okS S) {i1 : Nat} (hx : xS S i1 m) (d : Nat) : ∀ (r k : Nat) (z : jm_V), k + r = (wL w).length → 1 ≤ k → jm_ev false (d + 1) 2 1 jc_X2_softestPlace 8 [.inr (.inr (.inl (12, i, j))), .inr (.inr (.inl (19, i1, 0))), .inl (nI (amin (fun p => rkX S ((wL w).getD p 0)) (k - 1))), .inl (nI (rkX S ((wL w).getD (amin (fun p => rkX S ((wL w).getD p 0)) (k - 1)) 0))), .inl (nI k), z] [] m = some (.inl (nI (amin (fun p => rkX S ((wL w).getD p 0)) ((wL w).length - 1))), m)
  | 0, k, z, hk, h1 => by
    rw [l_X2_softestPlace_8, h.2.1, jt_dt (nI_le (show (wL w).length ≤ k by omega) (by omega)), cond_true, show k = (wL w).length by omega]
  | r + 1, k, z, hk, h1 => by
    have hk' : k < (wL w).length := by omega
    obtain ⟨l1, l2⟩ := let_ok ho h26 hk'
    obtain ⟨a1, a2⟩ := let_ok ho h26 (show amin (fun p => rkX S ((wL w).getD p 0)) (k - 1) < (wL w).length by have := (amin_c (fun p => rkX S ((wL w).getD p 0)) (k - 1)).1; omega)
    have b1 := rkX_lt hS l2
    have b2 := rkX_lt hS a2
    have es : amin (fun p => rkX S ((wL w).getD p 0)) k = if rkX S ((wL w).getD k 0) < rkX S ((wL w).getD (amin (fun p => rkX S ((wL w).getD p 0)) (k - 1)) 0) then k else amin (fun p => rkX S ((wL w).getD p 0)) (k - 1) := by
      obtain ⟨q, rfl⟩ : ∃ q, k = q + 1 := ⟨k - 1, by omega⟩
      rfl
    have ih := sx_soft_loop h ho h26 h8 hS hx d r (k + 1) (.inl (nI (rkX S ((wL w).getD k 0)))) (by omega) (by omega)
    rw [Nat.add_sub_cancel, es] at ih
    rw [l_X2_softestPlace_8, h.2.1, jt_df (nI_ge hk' (by omega)), cond_false, sx_letter h ho h8 (by omega), jt_bi, jt_in (show (wL w).getD k 0 < 32 by omega) (by decide), cond_true, jt_ix (by omega), hx _ l1 l2, nI_1]
    by_cases c : rkX S ((wL w).getD k 0) < rkX S ((wL w).getD (amin (fun p => rkX S ((wL w).getD p 0)) (k - 1)) 0)
    · rw [if_pos c] at ih
      rw [jt_df (nI_ge c (by omega)), cond_false]
      exact ih
    · rw [if_neg c] at ih
      rw [jt_dt (nI_le (by omega) (by omega)), cond_true]
      exact ih
theorem sx_soft {w : Wd} {i j : Nat} {m : jm_M} (h : xW w i j m) (ho : okL (wL w)) (h26 : ∀ c ∈ wL w, c ≤ 26) (h8 : (wL w).length ≤ 8) (hn : wL w ≠ []) {S : Sf} (hS : okS S) {i1 : Nat} (hx : xS S i1 m) (d : Nat) : jm_sem false (d + 2) jn_X2_softestPlace [.inr (.inr (.inl (12, i, j))), .inr (.inr (.inl (19, i1, 0)))] m = some (.inl (nI (amin (fun p => rkM S ((wL w).getD p 0)) ((wL w).length - 1))), m) := by
  have hl : 0 < (wL w).length := List.length_pos_iff.mpr hn
  obtain ⟨l1, l2⟩ := let_ok ho h26 hl
  have b1 := rkX_lt hS l2
  rw [← amin_X hS, e_X2_softestPlace, l_X2_softestPlace_8, h.2.1, show (0 : Int32) = nI 0 from rfl, jt_df (nI_ge hl (by omega)), cond_false, sx_letter h ho h8 (by omega), jt_bi, jt_in (show (wL w).getD 0 0 < 32 by omega) (by decide), cond_true, jt_ix (by omega), hx _ l1 l2, jt_df (show ¬ (64 : Int32) ≤ nI (rkX S ((wL w).getD 0 0)) from nI_ge (b := 64) (by omega) (by decide)), cond_false]
  exact sx_soft_loop h ho h26 h8 hS hx d ((wL w).length - 1) 1 _ (by omega) (by omega)
theorem sx_hard_loop {w : Wd} {i j : Nat} {m : jm_M} (h : xW w i j m) (ho : okL (wL w)) (h26 : ∀ c ∈ wL w, c ≤ 26) (h8 : (wL w).length ≤ 8) {S : Sf} (hS : okS S) {i1 : Nat} (hx : xS S i1 m) (d : Nat) : ∀ (r k : Nat) (z : jm_V), k + r = (wL w).length → 1 ≤ k → jm_ev false (d + 1) 2 1 jc_X2_hardestPlace 7 [.inr (.inr (.inl (12, i, j))), .inr (.inr (.inl (19, i1, 0))), .inl (nI (amax (fun p => rkX S ((wL w).getD p 0)) (k - 1))), .inl (nI (rkX S ((wL w).getD (amax (fun p => rkX S ((wL w).getD p 0)) (k - 1)) 0))), .inl (nI k), z] [] m = some (.inl (nI (amax (fun p => rkX S ((wL w).getD p 0)) ((wL w).length - 1))), m)
  | 0, k, z, hk, h1 => by
    rw [l_X2_hardestPlace_7, h.2.1, jt_dt (nI_le (show (wL w).length ≤ k by omega) (by omega)), cond_true, show k = (wL w).length by omega]
  | r + 1, k, z, hk, h1 => by
    have hk' : k < (wL w).length := by omega
    obtain ⟨l1, l2⟩ := let_ok ho h26 hk'
    obtain ⟨a1, a2⟩ := let_ok ho h26 (show amax (fun p => rkX S ((wL w).getD p 0)) (k - 1) < (wL w).length by have := (amax_c (fun p => rkX S ((wL w).getD p 0)) (k - 1)).1; omega)
    have b1 := rkX_lt hS l2
    have b2 := rkX_lt hS a2
    have es : amax (fun p => rkX S ((wL w).getD p 0)) k = if rkX S ((wL w).getD (amax (fun p => rkX S ((wL w).getD p 0)) (k - 1)) 0) ≤ rkX S ((wL w).getD k 0) then k else amax (fun p => rkX S ((wL w).getD p 0)) (k - 1) := by
      obtain ⟨q, rfl⟩ : ∃ q, k = q + 1 := ⟨k - 1, by omega⟩
      rfl
    have ih := sx_hard_loop h ho h26 h8 hS hx d r (k + 1) (.inl (nI (rkX S ((wL w).getD k 0)))) (by omega) (by omega)
    rw [Nat.add_sub_cancel, es] at ih
    rw [l_X2_hardestPlace_7, h.2.1, jt_df (nI_ge hk' (by omega)), cond_false, sx_letter h ho h8 (by omega), jt_bi, jt_in (show (wL w).getD k 0 < 32 by omega) (by decide), cond_true, jt_ix (by omega), hx _ l1 l2, nI_1]
    by_cases c : rkX S ((wL w).getD (amax (fun p => rkX S ((wL w).getD p 0)) (k - 1)) 0) ≤ rkX S ((wL w).getD k 0)
    · rw [if_pos c] at ih
      rw [jt_df (nI_nlt c (by omega)), cond_false]
      exact ih
    · rw [if_neg c] at ih
      rw [jt_dt (nI_lt (by omega) (by omega)), cond_true]
      exact ih
theorem sx_hard {w : Wd} {i j : Nat} {m : jm_M} (h : xW w i j m) (ho : okL (wL w)) (h26 : ∀ c ∈ wL w, c ≤ 26) (h8 : (wL w).length ≤ 8) (hn : wL w ≠ []) {S : Sf} (hS : okS S) {i1 : Nat} (hx : xS S i1 m) (d : Nat) : jm_sem false (d + 2) jn_X2_hardestPlace [.inr (.inr (.inl (12, i, j))), .inr (.inr (.inl (19, i1, 0)))] m = some (.inl (nI (amax (fun p => rkM S ((wL w).getD p 0)) ((wL w).length - 1))), m) := by
  have hl : 0 < (wL w).length := List.length_pos_iff.mpr hn
  obtain ⟨l1, l2⟩ := let_ok ho h26 hl
  have b1 := rkX_lt hS l2
  rw [← amax_X hS, e_X2_hardestPlace, l_X2_hardestPlace_7, h.2.1, show (0 : Int32) = nI 0 from rfl, jt_df (nI_ge hl (by omega)), cond_false, sx_letter h ho h8 (by omega), jt_bi, jt_in (show (wL w).getD 0 0 < 32 by omega) (by decide), cond_true, jt_ix (by omega), hx _ l1 l2, jt_df (nI_nlt (Nat.zero_le _) (by omega)), cond_false]
  exact sx_hard_loop h ho h26 h8 hS hx d ((wL w).length - 1) 1 _ (by omega) (by omega)
theorem sx_isVowel {c : Nat} (hc : 1 ≤ c) (h : c < 32) (d : Nat) (m : jm_M) : jm_sem false (d + 1) jn_X4_isVowel [.inl (nI c)] m = some (.inl (bI (isVow c)), m) := by
  rw [e_X4_isVowel, vow_bit c h]
  simp (disch := omega) only [jg_lit, jg_litL, jg_m1, jg_m1L, nI_add, lN_add, pk_mul, jg_sub, jg_subM, jg_addM, jg_addM', jg_negM, jt_in, jt_ix, jt_bi, jt_bl, jt_bv, jt_lt, jg_dT, jg_dF, jt_c, jt_cd, ru_I, ru_L, jg_leI, jg_ltI, jg_eqI, jg_M1, jg_M2, jg_M3, jg_M4, jg_M5, jg_M6, jg_ltT, jg_ltF, jg_leT, jg_leF, jg_eqT, jg_eqF, cond_true, cond_false, ne_eq, not_true_eq_false, not_false_eq_true, decide_true, decide_false, if_true, if_false, and_true, true_and, and_false, false_and, or_true, true_or, or_false, false_or, Nat.reduceEqDiff, reduceIte, Nat.reduceMul, Nat.reduceAdd, Nat.reduceSub, Nat.add_zero, Nat.zero_add, Nat.mul_zero, eq_self_iff_true, jg_not_lt, jg_not_le]
  cases isVow c <;> rfl
theorem sx_vow_loop {w : Wd} {i j : Nat} {m : jm_M} (h : xW w i j m) (ho : okL (wL w)) (h26 : ∀ c ∈ wL w, c ≤ 26) (h8 : (wL w).length ≤ 8) (hn : wL w ≠ []) (d : Nat) : ∀ (k : Nat), k ≤ (wL w).length → jm_ev false (d + 1) 2 1 jc_X2_lastVowelPlace 7 [.inr (.inr (.inl (12, i, j))), .inl (nI k - 1)] [] m = some (.inl (nI (lvow (wL w) k)), m)
  | 0, _ => by
    have hl : 0 < (wL w).length := List.length_pos_iff.mpr hn
    rw [l_X2_lastVowelPlace_7, show decide (nI 0 - 1 < 0) = true from by decide, cond_true, h.2.1, jt_sub1 hl]
    rfl
  | k + 1, hk => by
    have hl : 0 < (wL w).length := List.length_pos_iff.mpr hn
    obtain ⟨l1, l2⟩ := let_ok ho h26 (show k < (wL w).length by omega)
    rw [nI_pred, l_X2_lastVowelPlace_7, jt_cd, if_neg (nI_pos (by omega)), sx_letter h ho h8 (by omega), jt_bi, sx_isVowel l1 (by omega), jt_bi]
    unfold lvow
    cases hv : isVow ((wL w).getD k 0) with
    | false =>
      rw [show decide (bI false = 0) = true from by decide, cond_true, if_neg (by decide)]
      have := sx_vow_loop h ho h26 h8 hn d k (by omega)
      rw [show nI k + -1 = nI k - 1 from (Int32.sub_eq_add_neg _ _).symm]
      exact this
    | true =>
      rw [show decide (bI true = 0) = false from by decide, cond_false, if_pos rfl]
theorem sx_placeOf {w : Wd} {i j : Nat} {m : jm_M} (h : xW w i j m) (ho : okL (wL w)) (h26 : ∀ c ∈ wL w, c ≤ 26) (h8 : (wL w).length ≤ 8) (hn : wL w ≠ []) {S : Sf} (hS : okS S) {i1 : Nat} (hx : xS S i1 m) {wh : Nat} (hw : wh ≤ 6) (d : Nat) : jm_sem false (d + 3) jn_X2_placeOf [.inl (nI wh), .inr (.inr (.inl (12, i, j))), .inr (.inr (.inl (19, i1, 0)))] m = some (.inl (jpl (placeP S (wL w) wh)), m) := by
  have hl : 0 < (wL w).length := List.length_pos_iff.mpr hn
  have hc : wh = 0 ∨ wh = 1 ∨ wh = 2 ∨ wh = 3 ∨ wh = 4 ∨ wh = 5 ∨ wh = 6 := by omega
  rcases hc with rfl | rfl | rfl | rfl | rfl | rfl | rfl
  · rw [e_X2_placeOf]; rfl
  · rw [e_X2_placeOf, h.2.1, jt_sub1 hl]; rfl
  · rw [e_X2_placeOf, sx_soft h ho h26 h8 hn hS hx, jt_bi]; rfl
  · rw [e_X2_placeOf, sx_hard h ho h26 h8 hn hS hx, jt_bi]; rfl
  · rw [e_X2_placeOf, h.2.1, jt_dt (by decide), cond_true, show (2 : Int32) = nI 2 from rfl, pk_div (by omega) (by decide) (by decide)]; rfl
  · rw [e_X2_placeOf, e_X2_lastVowelPlace, h.2.1, sx_vow_loop h ho h26 h8 hn _ _ (Nat.le_refl _), jt_bi]; rfl
  · rw [e_X2_placeOf]; rfl
/-- a LAW in the class -/
def xL (R : List Rl) (i : Nat) (μ : jm_M) : Prop := μ.1 13 i 0 4 = nI (cs R).length ∧ μ.1 13 i 0 5 = nI R.length ∧ μ.1 13 i 0 6 = jb (R.any (fun r => r.2 == 6)) ∧ xC (cs R) i μ ∧ ∀ r, r < R.length → μ.1 16 i 0 r = nI (en R (r + 1)) ∧ μ.1 17 i 0 r = nI (R.getD r ([], 0)).2
theorem cs_app (a b : List Rl) : cs (a ++ b) = cs a ++ cs b := by unfold cs; rw [List.flatMap_append]
theorem R_split {R : List Rl} {r : Nat} (h : r < R.length) : R = R.take r ++ (R.getD r ([], 0) :: R.drop (r + 1)) := by
  have e : R.drop r = R.getD r ([], 0) :: R.drop (r + 1) := by
    rw [List.drop_eq_getElem_cons h]
    simp [List.getD, List.getElem?_eq_getElem h]
  rw [← e, List.take_append_drop]
theorem en_s {R : List Rl} {r : Nat} (h : r < R.length) : en R (r + 1) = en R r + (R.getD r ([], 0)).1.length := by
  unfold en
  have : R.take (r + 1) = R.take r ++ [R.getD r ([], 0)] := by
    rw [List.take_succ_eq_append_getElem h]
    simp [List.getD, List.getElem?_eq_getElem h]
  rw [this, cs_app, List.length_append]
  simp [cs]
theorem en_seg {R : List Rl} {r : Nat} (h : r < R.length) : ((cs R).drop (en R r)).take (en R (r + 1) - en R r) = (R.getD r ([], 0)).1 := by
  rw [en_s h, Nat.add_sub_cancel_left]
  have e : cs R = cs (R.take r) ++ ((R.getD r ([], 0)).1 ++ cs (R.drop (r + 1))) := by
    conv => lhs; rw [R_split h]
    rw [cs_app]
    simp [cs]
  rw [e]
  unfold en
  rw [List.drop_left, List.take_left]
theorem en_le {R : List Rl} (r : Nat) : en R r ≤ (cs R).length := by
  unfold en
  have : cs R = cs (R.take r) ++ cs (R.drop r) := by rw [← cs_app, List.take_append_drop]
  rw [this, List.length_append]
  omega
theorem okR_c {R : List Rl} (h : okR R) : ∀ c ∈ cs R, okCk c := fun c hc => by
  obtain ⟨r, hr, hcr⟩ := List.mem_flatMap.mp hc
  exact (h.2.2 r hr).1 c hcr
theorem okR_g {R : List Rl} (h : okR R) {r : Nat} (hr : r < R.length) : okRl (R.getD r ([], 0)) := by
  refine h.2.2 _ ?_
  simp only [List.getD, List.getElem?_eq_getElem hr, Option.getD_some]
  exact List.getElem_mem hr
theorem sx_lost_loop {w : Wd} {i j : Nat} {m : jm_M} (h : xW w i j m) (ho : okL (wL w)) (h26 : ∀ c ∈ wL w, c ≤ 26) (h8 : (wL w).length ≤ 8) (hn : wL w ≠ []) (hM : wM w < 4096) {S : Sf} (hS : okS S) {i1 : Nat} (hx : xS S i1 m) {R : List Rl} (hR : okR R) {i0 : Nat} (hL : xL R i0 m) (day : Int32) (d : Nat) : ∀ (q r : Nat), r + q = R.length → jm_ev false (d + 3) 2 1 jc_X2_placeLost 6 [.inr (.inr (.inl (13, i0, 0))), .inr (.inr (.inl (12, i, j))), .inl day, .inr (.inr (.inl (19, i1, 0))), .inl (nI (en R r)), .inl (nI r)] [] m = some (.inl (jpl (goP S (wL w) (shB (wM w)) (wS w) (mn99 day) (mn99 (day - lat (wT w))) (R.drop r))), m)
  | 0, r, hq => by
    have hl : 0 < (wL w).length := List.length_pos_iff.mpr hn
    have := hR.1
    rw [l_X2_placeLost_6, hL.2.1, jt_dt (nI_le (show R.length ≤ r by omega) (by omega)), cond_true, h.2.1, jt_sub1 hl, List.drop_eq_nil_of_le (by omega)]
    rfl
  | q + 1, r, hq => by
    have h12 := hR.1
    have hr : r < R.length := by omega
    have hg := okR_g hR hr
    have hc := hL.2.2.2.2 r hr
    have e1 : R.drop r = R.getD r ([], 0) :: R.drop (r + 1) := by
      rw [List.drop_eq_getElem_cons hr]
      simp [List.getD, List.getElem?_eq_getElem hr]
    rw [l_X2_placeLost_6, hL.2.1, jt_df (nI_ge hr (by omega)), cond_false, jt_df (show ¬ (12 : Int32) ≤ nI r from nI_ge (b := 12) (by omega) (by decide)), cond_false, jt_in (show r < 12 by omega) (by decide), cond_true, jt_ix (show r < 2 ^ 31 by omega), hc.1, sx_holds h ho h26 h8 hn hM hR.2.1 (okR_c hR) hL.2.2.2.1 day (by rw [en_s hr]; omega) (en_le _) (by rw [en_seg hr]; exact hg.2.1), jt_bi, en_seg hr, e1, hc.1, hc.2, nI_1]
    unfold goP
    cases hb : (evB (askB (wL w) (shB (wM w)) (wS w) (mn99 day) (mn99 (day - lat (wT w)))) (R.getD r ([], 0)).1 []).headD false with
    | false =>
      rw [show decide (bI false = 0) = true from by decide, cond_true, cond_true, if_neg (by decide)]
      exact sx_lost_loop h ho h26 h8 hn hM hS hx hR hL day d q (r + 1) (by omega)
    | true =>
      rw [show decide (bI true = 0) = false from by decide, cond_false, cond_true, if_pos rfl, sx_placeOf h ho h26 h8 hn hS hx hg.2.2, jt_bi]
theorem sx_placeLost {w : Wd} {i j : Nat} {m : jm_M} (h : xW w i j m) (ho : okL (wL w)) (h26 : ∀ c ∈ wL w, c ≤ 26) (h8 : (wL w).length ≤ 8) (hn : wL w ≠ []) (hM : wM w < 4096) {S : Sf} (hS : okS S) {i1 : Nat} (hx : xS S i1 m) {R : List Rl} (hR : okR R) {i0 : Nat} (hL : xL R i0 m) (day : Int32) (d : Nat) : jm_sem false (d + 4) jn_X2_placeLost [.inr (.inr (.inl (13, i0, 0))), .inr (.inr (.inl (12, i, j))), .inl day, .inr (.inr (.inl (19, i1, 0)))] m = some (.inl (jpl (goP S (wL w) (shB (wM w)) (wS w) (mn99 day) (mn99 (day - lat (wT w))) R)), m) := by
  rw [e_X2_placeLost]
  exact sx_lost_loop h ho h26 h8 hn hM hS hx hR hL day d R.length 0 (by omega)
