/-! ===== tray ===== -/
theorem jt_60n {k : Nat} (h : k < 60) : ¬ (60 : Int32) ≤ nI k := by
  rw [show (60 : Int32) = nI 60 from rfl, nI_leI (by decide) (by omega)]; omega
theorem sx_lay_loop (t d : Nat) (z1 z2 : jm_V) : ∀ (n k : Nat) (m : jm_M), k + n = 60 → ∃ m', jm_ev false d 6 0 jc_X7_lay 21 [.inr (.inr (.inl (2, t, 0))), z1, z2, .inl (nI k)] [] m = some (jm_j, m') ∧ m'.1 = m.1 ∧ ∀ K i j q, m'.2 K i j q = if K = 3 ∧ i = t ∧ j = 0 ∧ k ≤ q ∧ q < 60 then 0 else m.2 K i j q
  | 0, k, m, h => by
    have : k = 60 := by omega
    subst this
    refine ⟨m, ?_, rfl, fun K i j q => by rw [if_neg (by omega)]⟩
    rw [l_X7_lay_21, jt_dt (show (60 : Int32) ≤ nI 60 by decide)]
    rfl
  | n + 1, k, m, h => by
    obtain ⟨m', e1, e2, e3⟩ := sx_lay_loop t d z1 z2 n (k + 1) (jm_sL m 3 t 0 k 0) (by omega)
    refine ⟨m', ?_, e2, fun K i j q => ?_⟩
    · rw [l_X7_lay_21, jt_df (jt_60n (by omega)), cond_false, jt_in (show k < 60 by omega) (by decide), cond_true, nI_1, jt_ix (by omega)]
      exact e1
    · rw [e3, rd_LL]
      by_cases a : K = 3 ∧ i = t ∧ j = 0 ∧ k + 1 ≤ q ∧ q < 60
      · rw [if_pos a, if_pos (by omega)]
      · by_cases b : K = 3 ∧ i = t ∧ j = 0 ∧ q = k
        · rw [if_neg a, if_pos b, if_pos (by omega)]
        · rw [if_neg a, if_neg b, if_neg (by omega)]
def trLay (T : Tr) (t so sz : Nat) : Tr := fun t' => if t' = t then some (so, sz, fun _ => 0) else T t'
def trOk (x1 x2 x3 : Int32) : Prop := (¬ (x1 < 0 ∨ 4 ≤ x1)) ∧ ¬ x2 < 0 ∧ ¬ 3 < x2 ∧ ¬ x3 < 0 ∧ x3 ≤ 60
theorem trOk_n {x1 x2 x3 : Int32} (h : trOk x1 x2 x3) : ∃ t so sz : Nat, t < 4 ∧ so < 4 ∧ sz ≤ 60 ∧ x1 = nI t ∧ x2 = nI so ∧ x3 = nI sz := by
  obtain ⟨h1, h2, h3, h4, h5⟩ := h
  obtain ⟨t, ht, e1⟩ : ∃ t : Nat, t < 4 ∧ x1 = nI t := by
    rcases jt_t4 x1 with z | z
    · exact absurd z h1
    · exact z
  obtain ⟨so, hso, rfl⟩ := nI_of h2
  obtain ⟨sz, hsz, rfl⟩ := nI_of h4
  refine ⟨t, so, sz, ht, ?_, ?_, e1, rfl, rfl⟩
  · rcases Nat.lt_or_ge so 4 with z | z
    · exact z
    · exact absurd (show (3 : Int32) < nI so by rw [show (3 : Int32) = nI 3 from rfl, nI_ltI (by decide) hso]; omega) h3
  · rw [show (60 : Int32) = nI 60 from rfl, nI_leI hsz (by decide)] at h5
    exact h5
theorem sx_tray {T : Tr} {μ : jm_M} (h : xT T μ) (d : Nat) (x1 x2 x3 : Int32) : (trOk x1 x2 x3 → ∃ μ', jm_sem false (d + 3) jn_X11_tray [vX, .inl x1, .inl x2, .inl x3] μ = some (.inl 1, μ') ∧ xT (trLay T (jm_ix x1) (jm_ix x2) (jm_ix x3)) μ' ∧ μ'.1 0 0 0 14 = 0 ∧ jk PX_t μ μ') ∧
    (¬ trOk x1 x2 x3 → jm_sem false (d + 3) jn_X11_tray [vX, .inl x1, .inl x2, .inl x3] μ = some (.inl 0, jm_sI μ 0 0 0 14 1)) := by
  constructor
  · intro hok
    obtain ⟨t, so, sz, ht, hso, hsz, rfl, rfl, rfl⟩ := trOk_n hok
    rw [jt_ix (show t < 2 ^ 31 by omega), jt_ix (show so < 2 ^ 31 by omega), jt_ix (show sz < 2 ^ 31 by omega)]
    obtain ⟨h1, h2, h3, h4, h5⟩ := hok
    have hz : (if (0 : Int32) < (if (60 : Int32) < nI sz then (60 : Int32) else nI sz) then (if (60 : Int32) < nI sz then (60 : Int32) else nI sz) else (0 : Int32)) = nI sz := by
      rw [if_neg (show ¬ (60 : Int32) < nI sz from Int32.not_lt.mpr h5)]
      by_cases z : (0 : Int32) < nI sz
      · rw [if_pos z]
      · rw [if_neg z]
        cases sz with
        | zero => rfl
        | succ q => exact absurd (show (0 : Int32) < nI (q + 1) by rw [show (0 : Int32) = nI 0 from rfl, nI_ltI (by decide) (by omega)]; omega) z
    obtain ⟨m', e1, e2, e3⟩ := sx_lay_loop t (d + 1) (.inl (nI so)) (.inl (nI sz)) 60 0 (jm_sI (jm_sI μ 2 t 0 1 (nI so)) 2 t 0 2 (nI sz)) (by omega)
    refine ⟨jm_sI m' 0 0 0 14 0, ?_, ?_, by rw [rd_II, if_pos ⟨rfl, rfl, rfl, rfl⟩], ?_⟩
    · simp only [e_X11_tray, s_X11_isTray, if_neg h1, jt_bi, jt_cd, jt_c, if_neg h2, if_neg h3, if_neg h4, if_pos h5, show ¬ ((1 : Int32) = 0) by decide, if_false, jt_in ht (show 4 < 2 ^ 31 by decide), jt_ix (show t < 2 ^ 31 by omega), Bool.and_true, cond_true, e_X7_lay, jt_lt, hz]
      rw [show (.inl 0 : jm_V) = .inl (nI 0) from rfl, e1]
      simp only [jt_bv, e_X11_allow, jt_bi]
      rfl
    · intro t' ht'
      have hq' := h t' ht'
      unfold trLay
      by_cases e : t' = t
      · subst e
        rw [if_pos rfl]
        refine ⟨hso, hsz, ?_, ?_, fun k hk => ?_⟩
        · rw [rd_II, if_neg (by omega), e2, rd_II, if_neg (by omega), rd_II, if_pos (by omega)]
        · rw [rd_II, if_neg (by omega), e2, rd_II, if_pos (by omega)]
        · rw [rd_IL, e3, if_pos (by omega)]
      · rw [if_neg e]
        have f1 : ∀ k, (jm_sI m' 0 0 0 14 0).1 2 t' 0 k = μ.1 2 t' 0 k := fun k => by rw [rd_II, if_neg (by omega), e2, rd_II, if_neg (by omega), rd_II, if_neg (by omega)]
        have f2 : ∀ k, (jm_sI m' 0 0 0 14 0).2 3 t' 0 k = μ.2 3 t' 0 k := fun k => by rw [rd_IL, e3, if_neg (by omega)]
        unfold xT1 at hq' ⊢
        split
        · rename_i e; rw [e] at hq'; rw [f1]; exact hq'
        · rename_i e; rw [e] at hq'
          exact ⟨hq'.1, hq'.2.1, by rw [f1]; exact hq'.2.2.1, by rw [f1]; exact hq'.2.2.2.1, fun k hk => by rw [f2]; exact hq'.2.2.2.2 k hk⟩
    · intro K k hn i j
      unfold PX_t at hn
      refine ⟨?_, ?_⟩
      · rw [rd_II, if_neg (by omega), e2, rd_II, if_neg (by omega), rd_II, if_neg (by omega)]
      · rw [rd_IL, e3, if_neg (by omega)]
  · intro hok
    unfold trOk at hok
    simp only [e_X11_tray, s_X11_isTray, jt_c, jt_cd, e_X11_refuse, jt_bi, show (0 : Int32) &&& 1 = 0 by decide, if_true]
    by_cases h1 : x1 < 0 ∨ 4 ≤ x1
    · simp [h1, jt_bi]
    · by_cases h2 : x2 < 0
      · simp [h1, h2, jt_bi]
      · by_cases h3 : 3 < x2
        · simp [h1, h2, h3, jt_bi]
        · by_cases h4 : x3 < 0
          · simp [h1, h2, h3, h4, jt_bi]
          · have h5 : ¬ x3 ≤ 60 := fun z => hok ⟨h1, h2, h3, h4, z⟩
            simp [h1, h2, h3, h4, h5, jt_bi]
theorem sm_tray_loop (t sz d : Nat) (ht : t < 4) (hz : sz ≤ 60) (z2 : jm_V) : ∀ (n k : Nat) (m : jm_M), k + n = sz → ∃ m', jm_ev false (d + 1) 11 2 jc_X12_tray 49 [.inr (.inr (.inl (40, 0, 0))), .inl (nI t), z2, .inl (nI sz), .inl (nI k)] [] m = some (.inl 1, jm_sI m' 40 0 0 2 0) ∧ m'.1 = m.1 ∧ ∀ K i j q, m'.2 K i j q = if K = 45 ∧ i = 0 ∧ j = 0 ∧ 60 * t + k ≤ q ∧ q < 60 * t + sz then 0 else m.2 K i j q
  | 0, k, m, h => by
    have : k = sz := by omega
    subst this
    refine ⟨m, ?_, rfl, fun K i j q => by rw [if_neg (by omega)]⟩
    rw [l_X12_tray_49, jt_dt (nI_le (Nat.le_refl _) (by omega)), cond_true, sm_is0]
    rfl
  | n + 1, k, m, h => by
    obtain ⟨m', e1, e2, e3⟩ := sm_tray_loop t sz d ht hz z2 n (k + 1) (jm_sL m 45 0 0 (60 * t + k) 0) (by omega)
    obtain ⟨e6, h240⟩ := jt_60 ht (show k < sz by omega) hz
    refine ⟨m', ?_, e2, fun K i j q => ?_⟩
    · rw [l_X12_tray_49, jt_df (nI_ge (by omega) (by omega)), cond_false, e6, jt_in h240 (by decide), cond_true, nI_1, jt_ix (by omega)]
      exact e1
    · rw [e3, rd_LL]
      by_cases a : K = 45 ∧ i = 0 ∧ j = 0 ∧ 60 * t + (k + 1) ≤ q ∧ q < 60 * t + sz
      · rw [if_pos a, if_pos (by omega)]
      · by_cases b : K = 45 ∧ i = 0 ∧ j = 0 ∧ q = 60 * t + k
        · rw [if_neg a, if_pos b, if_pos (by omega)]
        · rw [if_neg a, if_neg b, if_neg (by omega)]
theorem sm_tray {T : Tr} {μ : jm_M} (h : mT T μ) (d : Nat) (x1 x2 x3 : Int32) : (trOk x1 x2 x3 → ∃ μ', jm_sem false (d + 3) jn_X12_tray [vM, .inl x1, .inl x2, .inl x3] μ = some (.inl 1, μ') ∧ mT (trLay T (jm_ix x1) (jm_ix x2) (jm_ix x3)) μ' ∧ μ'.1 40 0 0 2 = 0 ∧ jk PM_t μ μ') ∧
    (¬ trOk x1 x2 x3 → jm_sem false (d + 3) jn_X12_tray [vM, .inl x1, .inl x2, .inl x3] μ = some (.inl 0, jm_sI μ 40 0 0 2 1)) := by
  constructor
  · intro hok
    obtain ⟨t, so, sz, ht, hso, hsz, rfl, rfl, rfl⟩ := trOk_n hok
    rw [jt_ix (show t < 2 ^ 31 by omega), jt_ix (show so < 2 ^ 31 by omega), jt_ix (show sz < 2 ^ 31 by omega)]
    obtain ⟨h1, h2, h3, h4, h5⟩ := hok
    obtain ⟨m', e1, e2, e3⟩ := sm_tray_loop t sz (d + 1) ht hsz (.inl (nI so)) sz 0 (jm_sI (jm_sI μ 43 0 0 t (nI so)) 44 0 0 t (nI sz)) (by omega)
    refine ⟨jm_sI m' 40 0 0 2 0, ?_, ?_, by rw [rd_II, if_pos ⟨rfl, rfl, rfl, rfl⟩], ?_⟩
    · simp only [e_X12_tray, s_X12_isTray, if_neg h1, jt_bi, jt_cd, jt_c, if_neg h2, if_neg h3, if_neg h4, if_pos h5, show ¬ ((1 : Int32) = 0) by decide, if_false, jt_in ht (show 4 < 2 ^ 31 by decide), jt_ix (show t < 2 ^ 31 by omega), cond_true]
      exact e1
    · intro t' ht'
      have hq' := h t' ht'
      unfold trLay
      by_cases e : t' = t
      · subst e
        rw [if_pos rfl]
        refine ⟨hso, hsz, ?_, ?_, fun k hk => ?_⟩
        · rw [rd_II, if_neg (by omega), e2, rd_II, if_neg (by omega), rd_II, if_pos (by omega)]
        · rw [rd_II, if_neg (by omega), e2, rd_II, if_pos (by omega)]
        · rw [rd_IL, e3, if_pos (by omega)]
      · rw [if_neg e]
        unfold mT1 at hq' ⊢
        split
        · rename_i e; rw [e] at hq'; rw [rd_II, if_neg (by omega), e2, rd_II, if_neg (by omega), rd_II, if_neg (by omega)]; exact hq'
        · rename_i e; rw [e] at hq'
          refine ⟨hq'.1, hq'.2.1, ?_, ?_, fun k hk => ?_⟩
          · rw [rd_II, if_neg (by omega), e2, rd_II, if_neg (by omega), rd_II, if_neg (by omega)]; exact hq'.2.2.1
          · rw [rd_II, if_neg (by omega), e2, rd_II, if_neg (by omega), rd_II, if_neg (by omega)]; exact hq'.2.2.2.1
          · have := hq'.2.1
            rw [rd_IL, e3, if_neg (by omega)]; exact hq'.2.2.2.2 k hk
    · intro K k hn i j
      unfold PM_t at hn
      refine ⟨?_, ?_⟩
      · rw [rd_II, if_neg (by omega), e2, rd_II, if_neg (by omega), rd_II, if_neg (by omega)]
      · rw [rd_IL, e3, if_neg (by omega)]
  · intro hok
    unfold trOk at hok
    simp only [e_X12_tray, s_X12_isTray, jt_c, jt_cd, sm_is1 _ (show (1 : Int32) ≠ 0 by decide), jt_bi, show (0 : Int32) &&& 1 = 0 by decide, if_true]
    by_cases h1 : x1 < 0 ∨ 4 ≤ x1
    · simp [h1, jt_bi]
    · by_cases h2 : x2 < 0
      · simp [h1, h2, jt_bi]
      · by_cases h3 : 3 < x2
        · simp [h1, h2, h3, jt_bi]
        · by_cases h4 : x3 < 0
          · simp [h1, h2, h3, h4, jt_bi]
          · have h5 : ¬ x3 ≤ 60 := fun z => hok ⟨h1, h2, h3, h4, z⟩
            simp [h1, h2, h3, h4, h5, jt_bi]
