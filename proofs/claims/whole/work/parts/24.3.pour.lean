/-! ===== pour ===== -/
theorem jt_sub {a b : Nat} (ha : a ≤ 60) (hb : b < 2 ^ 31) : (nI a - nI b).toInt = (a : Int) - b := by
  rw [Int32.toInt_sub, nI_toInt (by omega), nI_toInt hb]
  exact Int.bmod_eq_of_le (by omega) (by omega)
/-- is a run of places wrong -/
theorem sx_hasRun {μ : jm_M} {t sz p n : Nat} (h : μ.1 2 t 0 2 = nI sz) (hz : sz ≤ 60) (hp : p < 2 ^ 31) (hn : n < 2 ^ 31) (d : Nat) : jm_sem false (d + 1) jn_X7_hasRun [.inr (.inr (.inl (2, t, 0))), .inl (nI p), .inl (nI n)] μ = some (.inl (if sz < p + n then 0 else 1), μ) := by
  rw [e_X7_hasRun, jt_cd, if_neg (nI_pos hp), jt_cd, if_neg (nI_pos hn), h, jt_c, jt_cd, jt_c, jt_cd]
  by_cases a : sz < n
  · rw [if_pos (nI_lt a hn), if_pos (by omega)]
  · rw [if_neg (nI_nlt (by omega) (by omega)), pk_sub (by omega)]
    by_cases b : sz - n < p
    · rw [if_pos (nI_lt b hp), if_pos (by omega)]
    · rw [if_neg (nI_nlt (by omega) (by omega)), if_neg (by omega)]
def poArg (x1 x2 x3 x4 x5 : Int32) : Prop := (¬ (x1 < 0 ∨ 4 ≤ x1)) ∧ (¬ (x3 < 0 ∨ 4 ≤ x3)) ∧ ¬ x2 < 0 ∧ ¬ x4 < 0 ∧ 0 ≤ x5
def poWhy (T : Tr) (t p u a n : Nat) : Int32 := match T t, T u with
  | some (so, sz, _), some (so2, sz2, _) => if so ≠ so2 then 8 else if sz < p + n ∨ sz2 < a + n then 3 else 0
  | _, _ => 2
def trPour (T : Tr) (t p u a n : Nat) : Tr := match T t, T u with
  | some (_, _, f), some (so2, sz2, g) => fun t' => if t' = u then some (so2, sz2, fun k => if a ≤ k ∧ k < a + n then f (p + (k - a)) else g k) else T t'
  | _, _ => T
theorem poArg_n {x1 x2 x3 x4 x5 : Int32} (h : poArg x1 x2 x3 x4 x5) : ∃ t p u a n : Nat, t < 4 ∧ u < 4 ∧ p < 2 ^ 31 ∧ a < 2 ^ 31 ∧ n < 2 ^ 31 ∧ x1 = nI t ∧ x2 = nI p ∧ x3 = nI u ∧ x4 = nI a ∧ x5 = nI n := by
  obtain ⟨h1, h2, h3, h4, h5⟩ := h
  obtain ⟨t, ht, e1⟩ : ∃ t : Nat, t < 4 ∧ x1 = nI t := by
    rcases jt_t4 x1 with z | z
    · exact absurd z h1
    · exact z
  obtain ⟨u, hu, e3⟩ : ∃ t : Nat, t < 4 ∧ x3 = nI t := by
    rcases jt_t4 x3 with z | z
    · exact absurd z h2
    · exact z
  obtain ⟨p, hp, e2⟩ := nI_of h3
  obtain ⟨a, ha, e4⟩ := nI_of h4
  obtain ⟨n, hn, e5⟩ := nI_of (Int32.not_lt.mpr h5)
  exact ⟨t, p, u, a, n, ht, hu, hp, ha, hn, e1, e2, e3, e4, e5⟩
theorem sx_pour {T : Tr} {μ : jm_M} (h : xT T μ) (d : Nat) {t p u a n : Nat} (ht : t < 4) (hu : u < 4) (hp : p < 2 ^ 31) (ha : a < 2 ^ 31) (hn : n < 2 ^ 31) : ∃ μ', jm_sem false (d + 3) jn_X11_pour [vX, .inl (nI t), .inl (nI p), .inl (nI u), .inl (nI a), .inl (nI n)] μ = some (.inl (if poWhy T t p u a n = 0 then 1 else 0), μ') ∧ xT (if poWhy T t p u a n = 0 then trPour T t p u a n else T) μ' ∧ μ'.1 0 0 0 14 = poWhy T t p u a n ∧ jk PX_t μ μ' := by
  have refused : ∀ w : Int32, w ≠ 0 → poWhy T t p u a n = w → jm_sem false (d + 3) jn_X11_pour [vX, .inl (nI t), .inl (nI p), .inl (nI u), .inl (nI a), .inl (nI n)] μ = some (.inl 0, jm_sI μ 0 0 0 14 w) → ∃ μ', jm_sem false (d + 3) jn_X11_pour [vX, .inl (nI t), .inl (nI p), .inl (nI u), .inl (nI a), .inl (nI n)] μ = some (.inl (if poWhy T t p u a n = 0 then 1 else 0), μ') ∧ xT (if poWhy T t p u a n = 0 then trPour T t p u a n else T) μ' ∧ μ'.1 0 0 0 14 = poWhy T t p u a n ∧ jk PX_t μ μ' := by
    intro w hw e hs
    rw [e, if_neg hw, if_neg hw]
    exact ⟨_, hs, xT_k h (fun i j k => by rw [rd_II, if_neg (by omega)]) (fun i j k => rfl), by rw [rd_II, if_pos ⟨rfl, rfl, rfl, rfl⟩], jk_I (Or.inl ⟨rfl, rfl⟩)⟩
  have hq := h t ht
  have hr := h u hu
  have base := fun (z : Nat) => e_X11_pour (d + 2) (nI t) (nI p) (nI u) (nI a) (nI n) μ
  have hb := base 0
  simp only [s_X11_isTray, if_neg (jt_4n ht), if_neg (jt_4n hu), jt_bi, jt_cd, show ¬ ((1 : Int32) = 0) by decide, if_false, if_neg (nI_pos hp), if_neg (nI_pos ha), if_pos (nI_pos' hn), jt_in ht (show 4 < 2 ^ 31 by decide), jt_in hu (show 4 < 2 ^ 31 by decide), Bool.and_true, cond_true, jt_ix (show t < 2 ^ 31 by omega), jt_ix (show u < 2 ^ 31 by omega), jt_ix hp, jt_ix ha, jt_ix hn, e_X7_isMissing, e_X11_refuse, e_X11_allow, jt_c, show (0 : Int32) &&& 1 = 0 by decide, show (1 : Int32) &&& 1 = 1 by decide, if_true, ne_eq] at hb
  cases hT : T t with
  | none =>
    rw [hT] at hq
    have hq : μ.1 2 t 0 1 = -1 := hq
    simp only [hq, not_true_eq_false, if_false, jt_bi, show ¬ ((1 : Int32) = 0) by decide, not_false_eq_true, if_true] at hb
    exact refused 2 (by decide) (by unfold poWhy; rw [hT]) hb
  | some q1 =>
    obtain ⟨so, sz, f⟩ := q1
    rw [hT] at hq
    obtain ⟨hso, hsz, h1, h3, h6⟩ := hq
    simp only [h1, jt_m1 (show so < 2 ^ 31 by omega), not_false_eq_true, if_true, jt_bi, not_true_eq_false, if_false] at hb
    cases hU : T u with
    | none =>
      rw [hU] at hr
      have hr : μ.1 2 u 0 1 = -1 := hr
      simp only [hr, not_true_eq_false, if_false, jt_bi, show ¬ ((1 : Int32) = 0) by decide] at hb
      exact refused 2 (by decide) (by unfold poWhy; rw [hT, hU]) hb
    | some q2 =>
      obtain ⟨so2, sz2, g⟩ := q2
      rw [hU] at hr
      obtain ⟨hso2, hsz2, k1, k3, k6⟩ := hr
      simp only [h1, k1, jt_m1 (show so2 < 2 ^ 31 by omega), not_false_eq_true, if_true, jt_bi, nI_eq (show so < 2 ^ 31 by omega) (show so2 < 2 ^ 31 by omega), sx_hasRun h3 hsz hp hn, sx_hasRun k3 hsz2 ha hn] at hb
      have ew : poWhy T t p u a n = if so ≠ so2 then 8 else if sz < p + n ∨ sz2 < a + n then 3 else 0 := by unfold poWhy; rw [hT, hU]
      by_cases s1 : so = so2
      · by_cases b1 : sz < p + n
        · simp only [h1, k1, nI_eq (show so < 2 ^ 31 by omega) (show so2 < 2 ^ 31 by omega), s1, if_true, b1, jt_bi] at hb
          exact refused 3 (by decide) (by rw [ew, if_neg (fun z => z s1), if_pos (Or.inl b1)]) hb
        · by_cases b2 : sz2 < a + n
          · simp only [h1, k1, nI_eq (show so < 2 ^ 31 by omega) (show so2 < 2 ^ 31 by omega), s1, if_true, b1, b2, if_false, jt_bi, show ¬ ((1 : Int32) = 0) by decide, not_true_eq_false] at hb
            exact refused 3 (by decide) (by rw [ew, if_neg (fun z => z s1), if_pos (Or.inr b2)]) hb
          · have w0 : poWhy T t p u a n = 0 := by rw [ew, if_neg (fun z => z s1), if_neg (by omega)]
            have hg : (0 : Int32) ≤ nI p ∧ (0 : Int32) ≤ nI a ∧ (0 : Int32) ≤ nI n ∧ p + n ≤ 60 ∧ a + n ≤ 60 := ⟨nI_pos' hp, nI_pos' ha, nI_pos' hn, by omega, by omega⟩
            simp only [h1, k1, nI_eq (show so < 2 ^ 31 by omega) (show so2 < 2 ^ 31 by omega), s1, if_true, b1, b2, if_false, jt_bi, show ¬ ((1 : Int32) = 0) by decide, not_false_eq_true, if_pos hg] at hb
            rw [w0, if_pos rfl, if_pos rfl]
            refine ⟨_, hb, ?_, by rw [rd_II, if_pos ⟨rfl, rfl, rfl, rfl⟩], ?_⟩
            · intro t' ht'
              have hq' := h t' ht'
              unfold trPour
              rw [hT, hU]
              dsimp only
              by_cases e : t' = u
              · subst e
                rw [if_pos rfl]
                refine ⟨hso2, hsz2, ?_, ?_, fun k hk => ?_⟩
                · rw [rd_II, if_neg (by omega)]; exact k1
                · rw [rd_II, if_neg (by omega)]; exact k3
                · show jm_cL μ.2 (3, t, 0) (3, t', 0) p a n 3 t' 0 k = _
                  rw [jx_cL_at μ.2 (3, t, 0) (3, t', 0) p a n]
                  unfold va_cpy
                  dsimp only
                  by_cases c : a ≤ k ∧ k < a + n
                  · rw [if_pos c, if_pos c]; exact h6 _ (by omega)
                  · rw [if_neg c, if_neg c]; exact k6 k hk
              · rw [if_neg e]
                have f1 : ∀ k, (jm_sI (μ.1, jm_cL μ.2 (3, t, 0) (3, u, 0) p a n) 0 0 0 14 0).1 2 t' 0 k = μ.1 2 t' 0 k := fun k => by rw [rd_II, if_neg (by omega)]
                have f2 : ∀ k, (jm_sI (μ.1, jm_cL μ.2 (3, t, 0) (3, u, 0) p a n) 0 0 0 14 0).2 3 t' 0 k = μ.2 3 t' 0 k := fun k => by
                  show jm_cL μ.2 (3, t, 0) (3, u, 0) p a n 3 t' 0 k = _
                  rw [jx_cL_ne (fun z => e z.2.1)]
                unfold xT1 at hq' ⊢
                split
                · rename_i e; rw [e] at hq'; rw [f1]; exact hq'
                · rename_i e; rw [e] at hq'
                  exact ⟨hq'.1, hq'.2.1, by rw [f1]; exact hq'.2.2.1, by rw [f1]; exact hq'.2.2.2.1, fun k hk => by rw [f2]; exact hq'.2.2.2.2 k hk⟩
            · intro K k hk i j
              unfold PX_t at hk
              refine ⟨by rw [rd_II, if_neg (by omega)], ?_⟩
              show jm_cL μ.2 (3, t, 0) (3, u, 0) p a n K i j k = _
              rw [jx_cL_ne (fun z => by have := z.1; omega)]
      · simp only [h1, k1, nI_eq (show so < 2 ^ 31 by omega) (show so2 < 2 ^ 31 by omega), s1, if_false, jt_bi] at hb
        exact refused 8 (by decide) (by rw [ew, if_pos s1]) hb
