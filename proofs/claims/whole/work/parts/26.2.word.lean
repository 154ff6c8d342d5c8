/-! ===== words: what was lost comes back (class) ===== -/
theorem enc8_lt : ∀ (l : List (Nat × Nat)), (∀ q ∈ l, q.1 < 32 ∧ q.2 < 8) → enc8 l < 256 ^ l.length
  | [], _ => by decide
  | q :: t, h => by
    have h1 := enc8_lt t (fun x hx => h x (List.mem_cons_of_mem _ hx))
    have h2 := h q List.mem_cons_self
    show enc8 t * 256 + (q.1 * 8 + q.2) < 256 ^ (t.length + 1)
    rw [Nat.pow_succ]
    omega
theorem okW_lost {w : Wd} (h : okW w) : ∀ q ∈ wX w, q.1 < 32 ∧ q.2 ≤ 8 := by
  intro q hq
  obtain ⟨n, hn⟩ := List.getElem?_of_mem hq
  have h1 := h.2.2.1 n q hn
  have h2 := (List.getElem?_eq_some_iff.mp hn).1
  have h3 := h.2.1
  exact ⟨h1.2.1, by omega⟩
theorem okW_lost7 {w : Wd} (h : okW w) (hn : wL w ≠ []) : ∀ q ∈ wX w, q.1 < 32 ∧ q.2 < 8 := by
  intro q hq
  obtain ⟨n, hn'⟩ := List.getElem?_of_mem hq
  have h1 := h.2.2.1 n q hn'
  have h2 := (List.getElem?_eq_some_iff.mp hn').1
  have h3 := h.2.1
  exact ⟨h1.2.1, by omega⟩
def wBack (w : Wd) : Wd := match wX w with
  | [] => w
  | q :: t => ((wL w).take q.2 ++ [q.1] ++ (wL w).drop q.2, wM w, wS w, wT w, wC w, t, wF w)
theorem okW_8 {w : Wd} (h : okW w) : (wL w).length ≤ 8 := by have := h.2.1; omega
theorem sx_canRegain {w : Wd} {i j : Nat} {m : jm_M} (h : xW w i j m) (ho : okW w) (d : Nat) : jm_sem false (d + 1) jn_X10_canRegain [.inr (.inr (.inl (12, i, j)))] m = some (.inl (if wL w ≠ [] ∧ wX w ≠ [] ∧ wC w = false then 1 else 0), m) := by
  have h8 := ho.2.1
  rw [e_X10_canRegain, h.2.1, h.2.2.2.2.2.1, h.2.2.2.2.2.2.2.1, jb_1]
  simp only [jt_cd, jt_c]
  by_cases a : wL w = []
  · rw [if_pos (by rw [a]; decide), if_neg (fun z => z.1 a)]
  · have al : 0 < (wL w).length := List.length_pos_iff.mpr a
    rw [if_neg (nI_nle al (by omega))]
    by_cases b : wX w = []
    · have e : (if (8 : Int32) ≤ nI (wL w).length then some (.inl 0, m) else if nI (wX w).length ≤ 0 then some (.inl 0, m) else if jb (wC w) ≠ 0 then some (.inl 0, m) else some (.inl 1, m)) = (some (.inl 0, m) : Option (jm_V × jm_M)) := by
        by_cases c : (8 : Int32) ≤ nI (wL w).length
        · rw [if_pos c]
        · rw [if_neg c, if_pos (by rw [b]; decide)]
      rw [e, if_neg (fun z => z.2.1 b)]
    · have bl : 0 < (wX w).length := List.length_pos_iff.mpr b
      rw [if_neg (show ¬ (8 : Int32) ≤ nI (wL w).length by rw [show (8 : Int32) = nI 8 from rfl, nI_leI (by decide) (by omega)]; omega), if_neg (nI_nle bl (by omega))]
      cases c : wC w with
      | true => rw [if_pos (by decide), if_neg (fun z => by have := z.2.2; simp at this)]
      | false => rw [if_neg (by decide), if_pos ⟨a, b, rfl⟩]
theorem jt_and7 (n : Nat) : (lN n &&& (7 : Int64)).toInt32 = nI (n % 8) := by
  rw [show (7 : Int64) = lN (2 ^ 3 - 1) from rfl, fb_maskL, lN_i]
theorem jt_sh3 {n : Nat} (h : n < 2 ^ 62) : ((lN n >>> ((3 : Int32).toInt64 &&& 63)) &&& (31 : Int64)).toInt32 = nI (n / 8 % 32) := by
  have e : (3 : Int32).toInt64 &&& 63 = lN 3 := by decide
  rw [e, pf_shr (jt_smod (by decide)) h, show (31 : Int64) = lN (2 ^ 5 - 1) from rfl, fb_maskL, lN_i]
theorem sx_regained {w : Wd} {i j : Nat} {m : jm_M} (h : xW w i j m) (ho : okW w) (hn : wL w ≠ []) (hX : wX w ≠ []) (d : Nat) : jm_sem false (d + 3) jn_X10_regained [.inr (.inr (.inl (12, i, j)))] m = some (.inr (.inl (lN (enc (wL (wBack w))))), m) := by
  have h8 := ho.2.1
  have al : 0 < (wL w).length := List.length_pos_iff.mpr hn
  cases hx : wX w with
  | nil => exact absurd hx hX
  | cons q t =>
    have hq := okW_lost7 ho hn
    have hlt := enc8_lt (wX w) hq
    have hl : (wX w).length = t.length + 1 := by rw [hx]; rfl
    have hp := ho.2.2.1 0 q (by rw [hx]; rfl)
    have hq1 := hq q (by rw [hx]; exact List.mem_cons_self)
    have h62 : enc8 (wX w) < 2 ^ 62 := by
      have h1 : 256 ^ (wX w).length ≤ 256 ^ 7 := Nat.pow_le_pow_right (by decide) (by omega)
      have h2 : (256 : Nat) ^ 7 < 2 ^ 62 := by decide
      omega
    have e8 : enc8 (wX w) = enc8 t * 256 + (q.1 * 8 + q.2) := by rw [hx]; rfl
    have n1 : enc8 (wX w) % 8 = q.2 := by rw [e8]; omega
    have n2 : enc8 (wX w) / 8 % 32 = q.1 := by rw [e8]; omega
    rw [e_X10_regained, h.1, h.2.1, h.2.2.2.2.2.2.1, jt_and7, jt_sh3 h62, n1, n2, sx_with ho.1 (by omega) (by omega) hq1.1, jt_bl]
    unfold wBack
    rw [hx]
theorem sx_regain {w : Wd} {i j : Nat} {m : jm_M} (h : xW w i j m) (ho : okW w) (hn : wL w ≠ []) (hX : wX w ≠ []) (d : Nat) : ∃ m', jm_sem false (d + 4) jn_X10_regain [.inr (.inr (.inl (12, i, j)))] m = some (jm_j, m') ∧ xW (wBack w) i j m' ∧ jc 12 i j m m' := by
  have h8 := ho.2.1
  have al : 0 < (wL w).length := List.length_pos_iff.mpr hn
  have e := e_X10_regain (d + 3) i j m
  rw [sx_regained h ho hn hX, jt_bl, jt_lt] at e
  refine ⟨_, e, ?_, (((jc_L).tr jc_I).tr jc_L).tr jc_I⟩
  cases hx : wX w with
  | nil => exact absurd hx hX
  | cons q t =>
    have hq := okW_lost7 ho hn
    have hq1 := hq q (by rw [hx]; exact List.mem_cons_self)
    have hp := ho.2.2.1 0 q (by rw [hx]; rfl)
    have hlt := enc8_lt (wX w) hq
    have hl : (wX w).length = t.length + 1 := by rw [hx]; rfl
    have h62 : enc8 (wX w) < 2 ^ 62 := by
      have h1 : 256 ^ (wX w).length ≤ 256 ^ 7 := Nat.pow_le_pow_right (by decide) (by omega)
      have h2 : (256 : Nat) ^ 7 < 2 ^ 62 := by decide
      omega
    have e8 : enc8 (wX w) = enc8 t * 256 + (q.1 * 8 + q.2) := by rw [hx]; rfl
    have s8 : ((lN (enc8 (wX w))).toUInt64 >>> ((8 : Int32).toInt64.toUInt64 &&& Int64.toUInt64 63)).toInt64 = lN (enc8 t) := by
      rw [show (8 : Int32) = nI 8 from rfl, wb_shr (by omega) (by decide), e8]
      congr 1
      omega
    have eb : wBack w = ((wL w).take q.2 ++ [q.1] ++ (wL w).drop q.2, wM w, wS w, wT w, wC w, t, wF w) := by unfold wBack; rw [hx]
    obtain ⟨h0, h1, h2, h3, h4, h5, h6, h7, h8', h9⟩ := h
    rw [eb]
    unfold xW
    simp only [ru_I, ru_L, true_and, and_true, and_false, reduceIte, Nat.reduceEqDiff, h1, h2, h3, h4, h5, h6, h7, h8', h9, s8]
    refine ⟨?_, ?_⟩
    · rw [nI_1]
      have el : ((wL w).take q.2 ++ [q.1] ++ (wL w).drop q.2).length = (wL w).length + 1 := by
        simp only [List.length_append, List.length_take, List.length_drop, List.length_cons, List.length_nil]
        omega
      show nI ((wL w).length + 1) = nI ((wL w).take q.2 ++ [q.1] ++ (wL w).drop q.2).length
      rw [el]
    · rw [hl]
      exact nI_pred _
