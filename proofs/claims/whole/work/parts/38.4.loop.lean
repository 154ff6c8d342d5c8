/-! ===== the law's loop: all of it ===== -/
theorem jl_sw {L i : Nat} {xs : Nat → Int32} (hL : L ≤ 3072) (hi : i + 6 ≤ L) {s : St} {m : jm_M} (h : Inv L xs s m) : ∃ s' m', jm_ev false 100 13 2 jc_L_law 18 [v70, vX, vM, .inl (nI i)] [] m = jm_ev false 100 13 2 jc_L_law 1596 [v70, vX, vM, .inl (nI i)] [] m' ∧ Inv L xs s' m' := by
  have hx := h.2.2.2.1
  have hl := h.2.2.2.2
  have e6 : (Int32.ofNat L) - 6 = nI (L - 6) := jg_sub (a := L) (b := 6) (by omega)
  rw [l_L_law_18, hl, e6, jt_df (nI_nlt (a := L - 6) (b := i) (by omega) (by omega)), cond_false, jt_in (show i < L by omega) (by omega), cond_true, jt_ix (show i < 2 ^ 31 by omega), hx]
  by_cases k0 : xs i &&& (63 : Int32) = 0
  · rw [decide_eq_true k0, cond_true]
    exact jl_c0 hL hi h
  rw [decide_eq_false k0, cond_false]
  by_cases k1 : xs i &&& (63 : Int32) = 1
  · rw [decide_eq_true k1, cond_true]
    exact jl_c1 hL hi h
  rw [decide_eq_false k1, cond_false]
  by_cases k2 : xs i &&& (63 : Int32) = 2
  · rw [decide_eq_true k2, cond_true]
    exact jl_c2 hL hi h
  rw [decide_eq_false k2, cond_false]
  by_cases k3 : xs i &&& (63 : Int32) = 3
  · rw [decide_eq_true k3, cond_true]
    exact jl_c3 hL hi h
  rw [decide_eq_false k3, cond_false]
  by_cases k4 : xs i &&& (63 : Int32) = 4
  · rw [decide_eq_true k4, cond_true]
    exact jl_c4 hL hi h
  rw [decide_eq_false k4, cond_false]
  by_cases k5 : xs i &&& (63 : Int32) = 5
  · rw [decide_eq_true k5, cond_true]
    exact jl_c5 hL hi h
  rw [decide_eq_false k5, cond_false]
  by_cases k6 : xs i &&& (63 : Int32) = 6
  · rw [decide_eq_true k6, cond_true]
    exact jl_c6 hL hi h
  rw [decide_eq_false k6, cond_false]
  by_cases k7 : xs i &&& (63 : Int32) = 7
  · rw [decide_eq_true k7, cond_true]
    exact jl_c7 hL hi h
  rw [decide_eq_false k7, cond_false]
  by_cases k8 : xs i &&& (63 : Int32) = 8
  · rw [decide_eq_true k8, cond_true]
    exact jl_c8 hL hi h
  rw [decide_eq_false k8, cond_false]
  by_cases k9 : xs i &&& (63 : Int32) = 9
  · rw [decide_eq_true k9, cond_true]
    exact jl_c9 hL hi h
  rw [decide_eq_false k9, cond_false]
  by_cases k10 : xs i &&& (63 : Int32) = 10
  · rw [decide_eq_true k10, cond_true]
    exact jl_c10 hL hi h
  rw [decide_eq_false k10, cond_false]
  by_cases k11 : xs i &&& (63 : Int32) = 11
  · rw [decide_eq_true k11, cond_true]
    exact jl_c11 hL hi h
  rw [decide_eq_false k11, cond_false]
  by_cases k12 : xs i &&& (63 : Int32) = 12
  · rw [decide_eq_true k12, cond_true]
    exact jl_c12 hL hi h
  rw [decide_eq_false k12, cond_false]
  by_cases k13 : xs i &&& (63 : Int32) = 13
  · rw [decide_eq_true k13, cond_true]
    exact jl_c13 hL hi h
  rw [decide_eq_false k13, cond_false]
  by_cases k14 : xs i &&& (63 : Int32) = 14
  · rw [decide_eq_true k14, cond_true]
    exact jl_c14 hL hi h
  rw [decide_eq_false k14, cond_false]
  by_cases k15 : xs i &&& (63 : Int32) = 15
  · rw [decide_eq_true k15, cond_true]
    exact jl_c15 hL hi h
  rw [decide_eq_false k15, cond_false]
  by_cases k16 : xs i &&& (63 : Int32) = 16
  · rw [decide_eq_true k16, cond_true]
    exact jl_c16 hL hi h
  rw [decide_eq_false k16, cond_false]
  by_cases k17 : xs i &&& (63 : Int32) = 17
  · rw [decide_eq_true k17, cond_true]
    exact jl_c17 hL hi h
  rw [decide_eq_false k17, cond_false]
  by_cases k18 : xs i &&& (63 : Int32) = 18
  · rw [decide_eq_true k18, cond_true]
    exact jl_c18 hL hi h
  rw [decide_eq_false k18, cond_false]
  by_cases k19 : xs i &&& (63 : Int32) = 19
  · rw [decide_eq_true k19, cond_true]
    exact jl_c19 hL hi h
  rw [decide_eq_false k19, cond_false]
  by_cases k20 : xs i &&& (63 : Int32) = 20
  · rw [decide_eq_true k20, cond_true]
    exact jl_c20 hL hi h
  rw [decide_eq_false k20, cond_false]
  by_cases k21 : xs i &&& (63 : Int32) = 21
  · rw [decide_eq_true k21, cond_true]
    exact jl_c21 hL hi h
  rw [decide_eq_false k21, cond_false]
  by_cases k22 : xs i &&& (63 : Int32) = 22
  · rw [decide_eq_true k22, cond_true]
    exact jl_c22 hL hi h
  rw [decide_eq_false k22, cond_false]
  by_cases k23 : xs i &&& (63 : Int32) = 23
  · rw [decide_eq_true k23, cond_true]
    exact jl_c23 hL hi h
  rw [decide_eq_false k23, cond_false]
  by_cases k24 : xs i &&& (63 : Int32) = 24
  · rw [decide_eq_true k24, cond_true]
    exact jl_c24 hL hi h
  rw [decide_eq_false k24, cond_false]
  by_cases k25 : xs i &&& (63 : Int32) = 25
  · rw [decide_eq_true k25, cond_true]
    exact jl_c25 hL hi h
  rw [decide_eq_false k25, cond_false]
  by_cases k26 : xs i &&& (63 : Int32) = 26
  · rw [decide_eq_true k26, cond_true]
    exact jl_c26 hL hi h
  rw [decide_eq_false k26, cond_false]
  by_cases k27 : xs i &&& (63 : Int32) = 27
  · rw [decide_eq_true k27, cond_true]
    exact jl_c27 hL hi h
  rw [decide_eq_false k27, cond_false]
  by_cases k28 : xs i &&& (63 : Int32) = 28
  · rw [decide_eq_true k28, cond_true]
    exact jl_c28 hL hi h
  rw [decide_eq_false k28, cond_false]
  by_cases k29 : xs i &&& (63 : Int32) = 29
  · rw [decide_eq_true k29, cond_true]
    exact jl_c29 hL hi h
  rw [decide_eq_false k29, cond_false]
  by_cases k30 : xs i &&& (63 : Int32) = 30
  · rw [decide_eq_true k30, cond_true]
    exact jl_c30 hL hi h
  rw [decide_eq_false k30, cond_false]
  by_cases k31 : xs i &&& (63 : Int32) = 31
  · rw [decide_eq_true k31, cond_true]
    exact jl_c31 hL hi h
  rw [decide_eq_false k31, cond_false]
  by_cases k32 : xs i &&& (63 : Int32) = 32
  · rw [decide_eq_true k32, cond_true]
    exact jl_c32 hL hi h
  rw [decide_eq_false k32, cond_false]
  by_cases k33 : xs i &&& (63 : Int32) = 33
  · rw [decide_eq_true k33, cond_true]
    exact jl_c33 hL hi h
  rw [decide_eq_false k33, cond_false]
  by_cases k34 : xs i &&& (63 : Int32) = 34
  · rw [decide_eq_true k34, cond_true]
    exact jl_c34 hL hi h
  rw [decide_eq_false k34, cond_false]
  by_cases k35 : xs i &&& (63 : Int32) = 35
  · rw [decide_eq_true k35, cond_true]
    exact jl_c35 hL hi h
  rw [decide_eq_false k35, cond_false]
  by_cases k36 : xs i &&& (63 : Int32) = 36
  · rw [decide_eq_true k36, cond_true]
    exact jl_c36 hL hi h
  rw [decide_eq_false k36, cond_false]
  by_cases k37 : xs i &&& (63 : Int32) = 37
  · rw [decide_eq_true k37, cond_true]
    exact jl_c37 hL hi h
  rw [decide_eq_false k37, cond_false]
  by_cases k38 : xs i &&& (63 : Int32) = 38
  · rw [decide_eq_true k38, cond_true]
    exact jl_c38 hL hi h
  rw [decide_eq_false k38, cond_false]
  by_cases k39 : xs i &&& (63 : Int32) = 39
  · rw [decide_eq_true k39, cond_true]
    exact jl_c39 hL hi h
  rw [decide_eq_false k39, cond_false]
  by_cases k40 : xs i &&& (63 : Int32) = 40
  · rw [decide_eq_true k40, cond_true]
    exact jl_c40 hL hi h
  rw [decide_eq_false k40, cond_false]
  by_cases k41 : xs i &&& (63 : Int32) = 41
  · rw [decide_eq_true k41, cond_true]
    exact jl_c41 hL hi h
  rw [decide_eq_false k41, cond_false]
  by_cases k42 : xs i &&& (63 : Int32) = 42
  · rw [decide_eq_true k42, cond_true]
    exact jl_c42 hL hi h
  rw [decide_eq_false k42, cond_false]
  by_cases k43 : xs i &&& (63 : Int32) = 43
  · rw [decide_eq_true k43, cond_true]
    exact jl_c43 hL hi h
  rw [decide_eq_false k43, cond_false]
  by_cases k44 : xs i &&& (63 : Int32) = 44
  · rw [decide_eq_true k44, cond_true]
    exact jl_c44 hL hi h
  rw [decide_eq_false k44, cond_false]
  by_cases k45 : xs i &&& (63 : Int32) = 45
  · rw [decide_eq_true k45, cond_true]
    exact jl_c45 hL hi h
  rw [decide_eq_false k45, cond_false]
  exact ⟨s, m, rfl, h⟩
theorem jl_loop {L : Nat} {xs : Nat → Int32} (hL : L ≤ 3072) : ∀ (r i : Nat) (s : St) (m : jm_M), L ≤ i + r → i ≤ L + 6 → Inv L xs s m → ∃ μ', jm_ev false 100 13 2 jc_L_law 18 [v70, vX, vM, .inl (nI i)] [] m = some (.inl 1, μ')
  | r, i, s, m, hr, hi, h => by
    by_cases c : i + 6 ≤ L
    · match r, hr with
      | 0, hr => exact absurd hr (by omega)
      | r + 1, hr =>
        obtain ⟨s', m', e1, e2⟩ := jl_sw hL c h
        obtain ⟨μ', e3⟩ := jl_loop hL r (i + 6) s' m' (by omega) (by omega) e2
        refine ⟨μ', e1.trans ?_⟩
        rw [l_L_law_1596, show nI i + 6 = nI (i + 6) from nI_add i 6]
        exact e3
    · refine ⟨m, ?_⟩
      have hl := h.2.2.2.2
      rw [l_L_law_18, hl]
      have lt : (Int32.ofNat L) - 6 < nI i := by
        by_cases c6 : 6 ≤ L
        · have e6 : (Int32.ofNat L) - 6 = nI (L - 6) := jg_sub (a := L) (b := 6) c6
          rw [e6]
          exact nI_lt (by omega) (by omega)
        · have z : (Int32.ofNat L) - 6 < 0 := by
            rcases (show L = 0 ∨ L = 1 ∨ L = 2 ∨ L = 3 ∨ L = 4 ∨ L = 5 by omega) with rfl | rfl | rfl | rfl | rfl | rfl <;> decide
          exact Int32.lt_of_lt_of_le z (nI_le (a := 0) (b := i) (Nat.zero_le i) (by omega))
      rw [jt_dt lt, cond_true]
