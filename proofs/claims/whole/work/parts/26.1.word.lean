/-! ===== words: copies, a word said, a letter regained (class) ===== -/
theorem jb_1 (b : Bool) : jb b &&& 1 = jb b := by cases b <;> decide
theorem sx_copyW {w : Wd} {i j i' j' : Nat} {m : jm_M} (h : xW w i' j' m) (d : Nat) : ∃ m', jm_sem false (d + 1) jn_X10_copyFrom [.inr (.inr (.inl (12, i, j))), .inr (.inr (.inl (12, i', j')))] m = some (jm_j, m') ∧ xW w i j m' ∧ jc 12 i j m m' := by
  obtain ⟨h0, h1, h2, h3, h4, h5, h6, h7, h8, h9⟩ := h
  have e := e_X10_copyFrom d i j i' j' m
  simp only [jt_lt, ru_I, ru_L, h0, h1, h2, h3, h4, h5, h6, h7, h8, h9, true_and, and_true, and_false, if_false, jb_1, decide_true, cond_true, Nat.reduceEqDiff, reduceIte] at e
  refine ⟨_, e, ?_, ?_⟩
  · unfold xW
    simp only [ru_I, ru_L]
    simp
  · exact (((((((((jc_L).tr jc_I).tr jc_I).tr jc_I).tr jc_I).tr jc_I).tr jc_L).tr jc_I).tr jc_L).tr jc_I
def wSaid (w : Wd) (day : Int32) : Wd := (wL w, wM w, wS w + 1, day, true, wX w, wF w)
/-- a word is said: it loses the letter at a place, or none -/
def wWear (w : Wd) (p : Option Nat) (day : Int32) : Wd := match p with
  | none => wSaid w day
  | some p => if (wL w).eraseIdx p = [] then ([], 0, wS w + 1, day, true, [], wF w) else ((wL w).eraseIdx p, wM w, wS w + 1, day, true, ((wL w).getD p 0, p) :: wX w, wF w)
def jpl (p : Option Nat) : Int32 := match p with
  | none => -1
  | some p => nI p
theorem jt_lost {a c p : Nat} (hc : c < 32) (hp : p < 8) : ((lN a <<< ((8 : Int32).toInt64 &&& 63)) ||| (nI c <<< ((3 : Int32) &&& 31)).toInt64) ||| (nI p).toInt64 = lN (a * 256 + (c * 8 + p)) := by
  rw [show (8 : Int32) = nI 8 from rfl, wb_shl a (by decide), pk_shlN (n := c) _ 3 (by decide) (by omega), nI_l (show c * 2 ^ 3 < 2 ^ 31 by omega), nI_l (show p < 2 ^ 31 by omega), Nat.mul_comm a, fb_or_sumL a (show c * 2 ^ 3 < 2 ^ 8 by omega), show 2 ^ 8 * a + c * 2 ^ 3 = 2 ^ 3 * (32 * a + c) by omega, fb_or_sumL (32 * a + c) (show p < 2 ^ 3 by omega)]
  congr 1
  omega
theorem sx_wear {w : Wd} {i j : Nat} {m : jm_M} (h : xW w i j m) (ho : okL (wL w)) (h8 : (wL w).length ≤ 8) (hne : wL w ≠ []) {p : Option Nat} (hp : ∀ q, p = some q → q < (wL w).length) (day : Int32) (d : Nat) : ∃ m', jm_sem false (d + 3) jn_X10_wear [.inr (.inr (.inl (12, i, j))), .inl (jpl p), .inl day] m = some (jm_j, m') ∧ xW (wWear w p day) i j m' ∧ jc 12 i j m m' := by
  have hl : (wL w).length ≠ 0 := fun y => hne (List.length_eq_zero_iff.mp y)
  have e := e_X10_wear (d + 2) i j (jpl p) day m
  have h3 := h.2.2.2.1
  rw [h3] at e
  generalize hm3 : jm_sI (jm_sI (jm_sI m 12 i j 3 (wS w + 1)) 12 i j 4 day) 12 i j 5 1 = m3 at e
  have hx3 : xW (wSaid w day) i j m3 := by
    obtain ⟨h0, h1, h2, h3, h4, h5, h6, h7, h8, h9⟩ := h
    rw [← hm3]
    unfold xW wSaid
    simp only [ru_I, ru_L]
    simp [jb, h0, h1, h2, h6, h7, h8, h9]
  have hc3 : jc 12 i j m m3 := by rw [← hm3]; exact ((jc_I).tr jc_I).tr jc_I
  have hs3 : m3.1 12 i j 1 = nI (wL w).length := hx3.2.1
  cases p with
  | none =>
    refine ⟨m3, ?_, hx3, hc3⟩
    rw [e, jt_cd, if_pos (show jpl none < 0 by decide), hs3, jt_cd, if_pos (nI_ne0 (by omega) (by omega))]
  | some p =>
    have hp : p < (wL w).length := hp p rfl
    have hc := ho _ (List.getElem_mem hp)
    have hcd : (wL w).getD p 0 = (wL w)[p] := by simp [List.getD, List.getElem?_eq_getElem hp]
    rw [← hcd] at hc
    rw [show jpl (some p) = nI p from rfl, jt_cd, if_neg (nI_pos (by omega)), hs3, jt_df (nI_ge hp (by omega)), cond_false, sx_letter hx3 ho h8 (by omega), jt_bi, jt_lt, hx3.2.2.2.2.2.2.1] at e
    rw [show enc8 (wX (wSaid w day)) = enc8 (wX w) from rfl, show wL (wSaid w day) = wL w from rfl, jt_lost hc.2 (by omega)] at e
    generalize hm5 : jm_sI (jm_sL m3 12 i j 6 (lN (enc8 (wX w) * 256 + ((wL w).getD p 0 * 8 + p)))) 12 i j 7 ((jm_sL m3 12 i j 6 (lN (enc8 (wX w) * 256 + ((wL w).getD p 0 * 8 + p)))).1 12 i j 7 + 1) = m5 at e
    have hx5 : xW (wL w, wM w, wS w + 1, day, true, ((wL w).getD p 0, p) :: wX w, wF w) i j m5 := by
      obtain ⟨h0, h1, h2, h3, h4, h5, h6, h7, h8, h9⟩ := hx3
      rw [← hm5]
      unfold xW
      simp only [ru_I, ru_L]
      simp [enc8, h0, h1, h2, h3, h4, h5, h7, h8, h9]
      exact ⟨rfl, rfl, rfl, rfl, rfl, rfl, nI_1 _, rfl, rfl⟩
    have hc5 : jc 12 i j m m5 := by rw [← hm5]; exact (hc3.tr jc_L).tr jc_I
    rw [hx5.1, hx5.2.1, sx_without ho h8 hp, jt_bl] at e
    have hel : ((wL w).eraseIdx p).length = (wL w).length - 1 := by rw [List.length_eraseIdx, if_pos hp]
    generalize hm6 : jm_sI (jm_sL m5 12 i j 0 (lN (enc ((wL w).eraseIdx p)))) 12 i j 1 ((jm_sL m5 12 i j 0 (lN (enc ((wL w).eraseIdx p)))).1 12 i j 1 - 1) = m6 at e
    have hx6 : xW ((wL w).eraseIdx p, wM w, wS w + 1, day, true, ((wL w).getD p 0, p) :: wX w, wF w) i j m6 := by
      obtain ⟨h0, h1, h2, h3, h4, h5, h6, h7, h8, h9⟩ := hx5
      rw [← hm6]
      unfold xW
      simp only [ru_I, ru_L]
      simp only [true_and, and_true, and_false, reduceIte, Nat.reduceEqDiff]
      exact ⟨by rw [h1, hel]; exact jt_sub1 (n := (wL w).length) (by omega), h2, h3, h4, h5, h6, h7, h8, h9⟩
    have hc6 : jc 12 i j m m6 := by rw [← hm6]; exact (hc5.tr jc_L).tr jc_I
    rw [hx6.2.1, hel] at e
    unfold wWear
    dsimp only
    by_cases z : (wL w).eraseIdx p = []
    · have z1 : (wL w).length - 1 = 0 := by rw [← hel, z]; rfl
      obtain ⟨m7, e7, hx7, hc7⟩ := sx_goAway hx6 d
      rw [if_pos z]
      refine ⟨m7, ?_, hx7, hc6.tr hc7⟩
      rw [show jpl (some p) = nI p from rfl, e, jt_cd, if_neg (by rw [z1]; decide), e7, jt_bv]
    · have z1 : (wL w).length - 1 ≠ 0 := fun y => z (List.length_eq_zero_iff.mp (by rw [hel, y]))
      rw [if_neg z]
      refine ⟨m6, ?_, hx6, hc6⟩
      rw [show jpl (some p) = nI p from rfl, e, jt_cd, if_pos (nI_ne0 (by omega) (by omega))]
