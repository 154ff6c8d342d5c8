/-! ===== trays ===== -/
theorem jt_cd {α : Type} (p : Prop) [Decidable p] (a b : α) : cond (decide p) a b = if p then a else b := by
  by_cases h : p
  · rw [decide_eq_true h, if_pos h]; rfl
  · rw [decide_eq_false h, if_neg h]; rfl
/-- the trays of both are the same -/
def RT1 (μ : jm_M) (t : Nat) : Prop := (μ.1 2 t 0 1 = -1 ∧ μ.1 44 0 0 t = -1) ∨ (∃ so sz : Nat, so < 4 ∧ sz ≤ 60 ∧ μ.1 2 t 0 1 = nI so ∧ μ.1 43 0 0 t = nI so ∧ μ.1 2 t 0 2 = nI sz ∧ μ.1 44 0 0 t = nI sz ∧ ∀ k, k < sz → μ.2 3 t 0 k = μ.2 45 0 0 (60 * t + k))
def RT (μ : jm_M) : Prop := ∀ t, t < 4 → RT1 μ t
theorem jt_t4 (x : Int32) : (x < 0 ∨ 4 ≤ x) ∨ ∃ t : Nat, t < 4 ∧ x = nI t := by
  rcases jt_ix3 x (n := 4) (by decide) with h | h | ⟨j, h1, h2⟩
  · exact Or.inl (Or.inl h)
  · exact Or.inl (Or.inr h)
  · exact Or.inr ⟨j, h1, h2⟩
theorem s_X11_isTray (d : Nat) (x : Int32) (m : jm_M) : jm_sem false (d + 1) jn_X11_isTray [.inl x] m = if x < 0 ∨ 4 ≤ x then some (.inl 0, m) else some (.inl 1, m) := by
  rw [e_X11_isTray, jt_c, jt_cd, jt_cd]
  by_cases h1 : x < 0
  · simp [h1]
  · simp [h1]
theorem s_X12_isTray (d : Nat) (x : Int32) (m : jm_M) : jm_sem false (d + 1) jn_X12_isTray [.inl x] m = if x < 0 ∨ 4 ≤ x then some (.inl 0, m) else some (.inl 1, m) := by
  rw [e_X12_isTray, jt_c, jt_cd, jt_cd]
  by_cases h1 : x < 0
  · simp [h1]
  · simp [h1]
theorem jt_4n {t : Nat} (h : t < 4) : ¬ (nI t < 0 ∨ 4 ≤ nI t) := by
  have := nI_toInt (n := t) (by omega)
  simp only [Int32.lt_iff_toInt_lt, Int32.le_iff_toInt_le, this, show (0 : Int32).toInt = 0 by decide, show (4 : Int32).toInt = 4 by decide]
  omega
/-- a place in a tray is wrong for both alike -/
theorem s_wrongPlace {μ : jm_M} (h : RT μ) (d : Nat) (x1 x2 : Int32) : ∃ r : Int32, jm_sem false (d + 2) jn_X11_wrongPlace [vX, .inl x1, .inl x2] μ = some (.inl r, μ) ∧ jm_sem false (d + 2) jn_X12_wrongPlace [vM, .inl x1, .inl x2] μ = some (.inl r, μ) ∧
    ((r = 1 ∨ r = 2 ∨ r = 3) ∨ (r = 0 ∧ ∃ t p so sz : Nat, t < 4 ∧ p < sz ∧ x1 = nI t ∧ x2 = nI p ∧ so < 4 ∧ sz ≤ 60 ∧ μ.1 2 t 0 1 = nI so ∧ μ.1 43 0 0 t = nI so ∧ μ.1 2 t 0 2 = nI sz ∧ μ.1 44 0 0 t = nI sz ∧ ∀ k, k < sz → μ.2 3 t 0 k = μ.2 45 0 0 (60 * t + k))) := by
  rcases jt_t4 x1 with hx | ⟨t, ht, rfl⟩
  · refine ⟨1, ?_, ?_, Or.inl (Or.inl rfl)⟩
    · simp only [e_X11_wrongPlace, s_X11_isTray, if_pos hx, jt_bi]
      rfl
    · simp only [e_X12_wrongPlace, s_X12_isTray, if_pos hx, jt_bi]
      rfl
  · have h4 := jt_4n ht
    have hin := jt_in ht (by decide)
    have hix := jt_ix (n := t) (by omega)
    rcases h t ht with ⟨h1, h2⟩ | ⟨so, sz, hso, hsz, h1, h2, h3, h5, h6⟩
    · refine ⟨2, ?_, ?_, Or.inl (Or.inr (Or.inl rfl))⟩
      · simp only [e_X11_wrongPlace, s_X11_isTray, if_neg h4, jt_bi, hin, hix, e_X7_isMissing, h1, jt_c, jt_cd, Bool.and_true]
        rfl
      · simp only [e_X12_wrongPlace, s_X12_isTray, if_neg h4, jt_bi, hin, hix, h2, jt_c, jt_cd]
        rfl
    · have hm1 : nI so ≠ -1 := by
        intro z
        have := congrArg Int32.toInt z
        rw [nI_toInt (by omega), show (-1 : Int32).toInt = -1 by decide] at this
        omega
      have hm2 : nI sz ≠ -1 := by
        intro z
        have := congrArg Int32.toInt z
        rw [nI_toInt (by omega), show (-1 : Int32).toInt = -1 by decide] at this
        omega
      have t0 : (0 : Int32).toInt = 0 := by decide
      have t1 : (1 : Int32).toInt = 1 := by decide
      have tz := nI_toInt (n := sz) (by omega)
      have hX : jm_sem false (d + 2) jn_X11_wrongPlace [vX, .inl (nI t), .inl x2] μ = (if x2 < 0 then some (.inl 3, μ) else if nI sz < 1 then some (.inl 3, μ) else if nI sz - 1 < x2 then some (.inl 3, μ) else some (.inl 0, μ)) := by
        simp only [e_X11_wrongPlace, s_X11_isTray, if_neg h4, jt_bi, hin, hix, e_X7_isMissing, e_X7_hasRun, h1, h3, jt_c, jt_cd, Bool.and_true, cond_true, if_pos hm1, ne_eq, show ¬ ((1 : Int32) = 0) by decide, not_false_eq_true, if_true, show ¬ ((1 : Int32) < 0) by decide, if_false]
        by_cases a : x2 < 0
        · simp [a, jt_bi]
        · by_cases b : nI sz < 1
          · simp [a, b, jt_bi]
          · by_cases c : nI sz - 1 < x2
            · simp [a, b, c, jt_bi]
            · simp [a, b, c, jt_bi]
      have hM : jm_sem false (d + 2) jn_X12_wrongPlace [vM, .inl (nI t), .inl x2] μ = (if x2 < 0 then some (.inl 3, μ) else if x2 < nI sz then some (.inl 0, μ) else some (.inl 3, μ)) := by
        simp only [e_X12_wrongPlace, s_X12_isTray, if_neg h4, jt_bi, hin, hix, h5, jt_c, jt_cd, cond_true, if_pos hm2, ne_eq, show ¬ ((1 : Int32) = 0) by decide, not_false_eq_true, if_true]
      rcases jt_ix3 x2 (n := sz) (by omega) with a | a | ⟨p, hp, rfl⟩
      · exact ⟨3, by rw [hX, if_pos a], by rw [hM, if_pos a], Or.inl (Or.inr (Or.inr rfl))⟩
      · have a0 : ¬ x2 < 0 := by
          rw [Int32.lt_iff_toInt_lt, t0]
          rw [Int32.le_iff_toInt_le, tz] at a
          omega
        have a1 : ¬ x2 < nI sz := by
          rw [Int32.lt_iff_toInt_lt, tz]
          rw [Int32.le_iff_toInt_le, tz] at a
          omega
        refine ⟨3, ?_, by rw [hM, if_neg a0, if_neg a1], Or.inl (Or.inr (Or.inr rfl))⟩
        rw [hX, if_neg a0]
        by_cases b : nI sz < 1
        · rw [if_pos b]
        · rw [if_neg b]
          cases sz with
          | zero => exact absurd (show nI 0 < 1 by decide) b
          | succ z =>
            have c : nI (z + 1) - 1 < x2 := by
              rw [nI_pred, Int32.lt_iff_toInt_lt, nI_toInt (by omega)]
              rw [Int32.le_iff_toInt_le, tz] at a
              omega
            rw [if_pos c]
      · have a0 : ¬ nI p < 0 := nI_pos (by omega)
        refine ⟨0, ?_, by rw [hM, if_neg a0, if_pos (nI_lt hp (by omega))], Or.inr ⟨rfl, t, p, so, sz, ht, hp, rfl, rfl, hso, hsz, h1, h2, h3, h5, h6⟩⟩
        rw [hX, if_neg a0]
        cases sz with
        | zero => omega
        | succ z =>
          rw [if_neg (by rw [Int32.lt_iff_toInt_lt, tz, t1]; omega), nI_pred, if_neg (nI_nlt (by omega) (by omega))]
