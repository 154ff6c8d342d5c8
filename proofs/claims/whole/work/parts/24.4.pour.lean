/-! ===== pour: the reference ===== -/
/-- which places are done behind i rounds -/
def poDone (p a n i k : Nat) : Prop := (p < a ∧ n - i ≤ k ∧ k < n) ∨ (a ≤ p ∧ k < i ∧ k < n)
theorem sm_pour_loop (d t p u a n : Nat) (ht : t < 4) (hu : u < 4) (hp : p + n ≤ 60) (ha : a + n ≤ 60) (hpb : p < 2 ^ 31) (hab : a < 2 ^ 31) (hn : n ≤ 60) (m0 : jm_M) : ∀ (r i : Nat) (z7 : jm_V) (m : jm_M), i + r = n → m.1 = m0.1 →
    (∀ K i' j q, (¬ (K = 45 ∧ i' = 0 ∧ j = 0)) → m.2 K i' j q = m0.2 K i' j q) →
    (∀ q, (∀ k, poDone p a n i k → q ≠ 60 * u + a + k) → m.2 45 0 0 q = m0.2 45 0 0 q) →
    (∀ k, poDone p a n i k → m.2 45 0 0 (60 * u + a + k) = m0.2 45 0 0 (60 * t + p + k)) →
    ∃ m', jm_ev false (d + 1) 11 2 jc_X12_pour 118 [.inr (.inr (.inl (40, 0, 0))), .inl (nI t), .inl (nI p), .inl (nI u), .inl (nI a), .inl (nI n), .inl (nI i), z7] [] m = some (.inl 1, jm_sI m' 40 0 0 2 0) ∧ m'.1 = m0.1 ∧ (∀ K i' j q, (¬ (K = 45 ∧ i' = 0 ∧ j = 0)) → m'.2 K i' j q = m0.2 K i' j q) ∧
      (∀ q, (∀ k, k < n → q ≠ 60 * u + a + k) → m'.2 45 0 0 q = m0.2 45 0 0 q) ∧ ∀ k, k < n → m'.2 45 0 0 (60 * u + a + k) = m0.2 45 0 0 (60 * t + p + k)
  | 0, i, z7, m, h, h1, h2, h3, h4 => by
    have : i = n := by omega
    subst this
    refine ⟨m, ?_, h1, h2, fun q hq => h3 q (fun k hk => hq k (by unfold poDone at hk; omega)), fun k hk => h4 k (by unfold poDone; omega)⟩
    rw [l_X12_pour_118, jt_dt (nI_le (Nat.le_refl _) (by omega)), cond_true, sm_is0]
    rfl
  | r + 1, i, z7, m, h, h1, h2, h3, h4 => by
    have hi : i < n := by omega
    have e60 : ∀ x b k : Nat, (60 : Int32) * nI x + nI b + nI k = nI (60 * x + b + k) := fun x b k => by
      rw [show (60 : Int32) = nI 60 from rfl, pk_mul, nI_add, nI_add]
    have step : ∀ k : Nat, k < n → ((p < a ∧ k = n - 1 - i) ∨ (a ≤ p ∧ k = i)) → ∀ z : jm_V, ∃ m', jm_ev false (d + 1) 11 2 jc_X12_pour 118 [.inr (.inr (.inl (40, 0, 0))), .inl (nI t), .inl (nI p), .inl (nI u), .inl (nI a), .inl (nI n), .inl (nI (i + 1)), z] [] (jm_sL m 45 0 0 (60 * u + a + k) (m.2 45 0 0 (60 * t + p + k))) = some (.inl 1, jm_sI m' 40 0 0 2 0) ∧ m'.1 = m0.1 ∧ (∀ K i' j q, (¬ (K = 45 ∧ i' = 0 ∧ j = 0)) → m'.2 K i' j q = m0.2 K i' j q) ∧ (∀ q, (∀ k, k < n → q ≠ 60 * u + a + k) → m'.2 45 0 0 q = m0.2 45 0 0 q) ∧ ∀ k, k < n → m'.2 45 0 0 (60 * u + a + k) = m0.2 45 0 0 (60 * t + p + k) := by
      intro k hk hc z
      have src : m.2 45 0 0 (60 * t + p + k) = m0.2 45 0 0 (60 * t + p + k) := h3 _ (fun k' hk' e => by unfold poDone at hk'; omega)
      refine sm_pour_loop d t p u a n ht hu hp ha hpb hab hn m0 r (i + 1) z _ (by omega) h1 (fun K i' j q hq => ?_) (fun q hq => ?_) (fun k' hk' => ?_)
      · rw [rd_LL, if_neg (by omega)]; exact h2 K i' j q hq
      · rw [rd_LL, if_neg]
        · exact h3 q (fun k' hk' => hq k' (by unfold poDone at hk' ⊢; omega))
        · rintro ⟨-, -, -, e⟩
          exact hq k (by unfold poDone; omega) e
      · rw [rd_LL]
        by_cases ek : k' = k
        · rw [if_pos ⟨rfl, rfl, rfl, by omega⟩, src, ek]
        · rw [if_neg (by omega)]
          exact h4 k' (by unfold poDone at hk' ⊢; omega)
    rw [l_X12_pour_118, jt_df (nI_ge hi (by omega)), cond_false]
    by_cases c : a ≤ p
    · rw [jt_dt (nI_le c hpb), cond_true, e60, e60, jt_in (show 60 * t + p + i < 240 by omega) (by decide), cond_true, jt_in (show 60 * u + a + i < 240 by omega) (by decide), cond_true, nI_1, jt_ix (show 60 * t + p + i < 2 ^ 31 by omega), jt_ix (show 60 * u + a + i < 2 ^ 31 by omega)]
      exact step i hi (Or.inr ⟨c, rfl⟩) _
    · have e7 : nI n - 1 - nI i = nI (n - 1 - i) := by
        rw [show (1 : Int32) = nI 1 from rfl, pk_sub (by omega), pk_sub (by omega)]
      rw [jt_df (show ¬ nI a ≤ nI p by rw [nI_leI hab hpb]; exact c), cond_false, e7, e60, e60, jt_in (show 60 * t + p + (n - 1 - i) < 240 by omega) (by decide), cond_true, jt_in (show 60 * u + a + (n - 1 - i) < 240 by omega) (by decide), cond_true, nI_1, jt_ix (show 60 * t + p + (n - 1 - i) < 2 ^ 31 by omega), jt_ix (show 60 * u + a + (n - 1 - i) < 2 ^ 31 by omega)]
      exact step (n - 1 - i) (by omega) (Or.inl ⟨by omega, rfl⟩) _
theorem sm_pour {T : Tr} {μ : jm_M} (h : mT T μ) (d : Nat) {t p u a n : Nat} (ht : t < 4) (hu : u < 4) (hp : p < 2 ^ 31) (ha : a < 2 ^ 31) (hn : n < 2 ^ 31) : ∃ μ', jm_sem false (d + 3) jn_X12_pour [vM, .inl (nI t), .inl (nI p), .inl (nI u), .inl (nI a), .inl (nI n)] μ = some (.inl (if poWhy T t p u a n = 0 then 1 else 0), μ') ∧ mT (if poWhy T t p u a n = 0 then trPour T t p u a n else T) μ' ∧ μ'.1 40 0 0 2 = poWhy T t p u a n ∧ jk PM_t μ μ' := by
  have refused : ∀ w : Int32, w ≠ 0 → poWhy T t p u a n = w → jm_sem false (d + 3) jn_X12_pour [vM, .inl (nI t), .inl (nI p), .inl (nI u), .inl (nI a), .inl (nI n)] μ = some (.inl 0, jm_sI μ 40 0 0 2 w) → ∃ μ', jm_sem false (d + 3) jn_X12_pour [vM, .inl (nI t), .inl (nI p), .inl (nI u), .inl (nI a), .inl (nI n)] μ = some (.inl (if poWhy T t p u a n = 0 then 1 else 0), μ') ∧ mT (if poWhy T t p u a n = 0 then trPour T t p u a n else T) μ' ∧ μ'.1 40 0 0 2 = poWhy T t p u a n ∧ jk PM_t μ μ' := by
    intro w hw e hs
    rw [e, if_neg hw, if_neg hw]
    exact ⟨_, hs, mT_k h (fun i j k => by rw [rd_II, if_neg (by omega)]) (fun i j k => by rw [rd_II, if_neg (by omega)]) (fun i j k => rfl), by rw [rd_II, if_pos ⟨rfl, rfl, rfl, rfl⟩], jk_I (Or.inl ⟨rfl, rfl⟩)⟩
  have hq := h t ht
  have hr := h u hu
  have hb := e_X12_pour (d + 2) (nI t) (nI p) (nI u) (nI a) (nI n) μ
  simp only [s_X12_isTray, if_neg (jt_4n ht), if_neg (jt_4n hu), jt_bi, jt_cd, show ¬ ((1 : Int32) = 0) by decide, if_false, if_neg (nI_pos hp), if_neg (nI_pos ha), if_pos (nI_pos' hn), jt_in ht (show 4 < 2 ^ 31 by decide), jt_in hu (show 4 < 2 ^ 31 by decide), cond_true, jt_ix (show t < 2 ^ 31 by omega), jt_ix (show u < 2 ^ 31 by omega), sm_is1 _ (show (1 : Int32) ≠ 0 by decide), sm_is1 _ (show (2 : Int32) ≠ 0 by decide), sm_is1 _ (show (3 : Int32) ≠ 0 by decide), sm_is1 _ (show (8 : Int32) ≠ 0 by decide), jt_c, show (0 : Int32) &&& 1 = 0 by decide, if_true, ne_eq] at hb
  cases hT : T t with
  | none =>
    rw [hT] at hq
    have hq : μ.1 44 0 0 t = -1 := hq
    simp only [hq, if_true, jt_bi] at hb
    exact refused 2 (by decide) (by unfold poWhy; rw [hT]) hb
  | some q1 =>
    obtain ⟨so, sz, f⟩ := q1
    rw [hT] at hq
    obtain ⟨hso, hsz, h1, h3, h6⟩ := hq
    simp only [h3, jt_m1 (show sz < 2 ^ 31 by omega), if_false, jt_bi] at hb
    cases hU : T u with
    | none =>
      rw [hU] at hr
      have hr : μ.1 44 0 0 u = -1 := hr
      simp only [hr, not_true_eq_false, if_false, jt_bi] at hb
      exact refused 2 (by decide) (by unfold poWhy; rw [hT, hU]) hb
    | some q2 =>
      obtain ⟨so2, sz2, g⟩ := q2
      rw [hU] at hr
      obtain ⟨hso2, hsz2, k1, k3, k6⟩ := hr
      have r1 : (nI sz - nI p < nI n) ↔ sz < p + n := by
        rw [Int32.lt_iff_toInt_lt, jt_sub hsz hp, nI_toInt hn]; omega
      have r2 : (nI n ≤ nI sz2 - nI a) ↔ ¬ sz2 < a + n := by
        rw [Int32.le_iff_toInt_le, jt_sub hsz2 ha, nI_toInt hn]; omega
      simp only [h1, h3, k1, k3, jt_m1 (show sz2 < 2 ^ 31 by omega), not_false_eq_true, if_true, nI_eq (show so < 2 ^ 31 by omega) (show so2 < 2 ^ 31 by omega), r1, r2] at hb
      have ew : poWhy T t p u a n = if so ≠ so2 then 8 else if sz < p + n ∨ sz2 < a + n then 3 else 0 := by unfold poWhy; rw [hT, hU]
      by_cases s1 : so = so2
      · by_cases b1 : sz < p + n
        · simp only [s1, if_true, b1, jt_bi] at hb
          exact refused 3 (by decide) (by rw [ew, if_neg (fun z => z s1), if_pos (Or.inl b1)]) hb
        · by_cases b2 : sz2 < a + n
          · simp only [s1, if_true, b1, b2, if_false, jt_bi, not_true_eq_false] at hb
            exact refused 3 (by decide) (by rw [ew, if_neg (fun z => z s1), if_pos (Or.inr b2)]) hb
          · have w0 : poWhy T t p u a n = 0 := by rw [ew, if_neg (fun z => z s1), if_neg (by omega)]
            simp only [s1, if_true, b1, b2, if_false, not_false_eq_true] at hb
            obtain ⟨m', e1, e2, e3, e4, e5⟩ := sm_pour_loop (d + 1) t p u a n ht hu (by omega) (by omega) hp ha (by omega) μ n 0 jm_j μ (by omega) rfl (fun _ _ _ _ _ => rfl) (fun _ _ => rfl) (fun k hk => by unfold poDone at hk; omega)
            rw [show (.inl 0 : jm_V) = .inl (nI 0) from rfl, e1] at hb
            rw [w0, if_pos rfl, if_pos rfl]
            refine ⟨_, hb, ?_, by rw [rd_II, if_pos ⟨rfl, rfl, rfl, rfl⟩], ?_⟩
            · intro t' ht'
              have hq' := h t' ht'
              unfold trPour
              rw [hT, hU]
              dsimp only
              by_cases e : t' = u
              · subst e
                rw [if_pos rfl]
                refine ⟨hso2, hsz2, ?_, ?_, fun k hk => ?_⟩
                · rw [rd_II, if_neg (by omega), e2]; exact k1
                · rw [rd_II, if_neg (by omega), e2]; exact k3
                · rw [rd_IL]
                  dsimp only
                  by_cases c : a ≤ k ∧ k < a + n
                  · rw [if_pos c, ← h6 _ (show p + (k - a) < sz by omega)]
                    have := e5 (k - a) (by omega)
                    rw [show 60 * t' + a + (k - a) = 60 * t' + k by omega, show 60 * t + p + (k - a) = 60 * t + (p + (k - a)) by omega] at this
                    exact this
                  · rw [if_neg c, ← k6 k hk]
                    exact e4 _ (fun q hq => by omega)
              · rw [if_neg e]
                unfold mT1 at hq' ⊢
                split
                · rename_i e; rw [e] at hq'; rw [rd_II, if_neg (by omega), e2]; exact hq'
                · rename_i e; rw [e] at hq'
                  have := hq'.2.1
                  exact ⟨hq'.1, hq'.2.1, by rw [rd_II, if_neg (by omega), e2]; exact hq'.2.2.1, by rw [rd_II, if_neg (by omega), e2]; exact hq'.2.2.2.1, fun k hk => by rw [rd_IL, e4 _ (fun q hq => by omega)]; exact hq'.2.2.2.2 k hk⟩
            · intro K k hk i j
              unfold PM_t at hk
              exact ⟨by rw [rd_II, if_neg (by omega), e2], by rw [rd_IL, e3 K i j k (by omega)]⟩
      · simp only [s1, if_false, jt_bi] at hb
        exact refused 8 (by decide) (by rw [ew, if_pos s1]) hb
