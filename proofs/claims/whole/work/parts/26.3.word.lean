/-! ===== letters in the reference: a row of 'at', and the row 'letter' ===== -/
/-- a row's letters -/
def mR (ls : List Nat) (b : Nat) (μ : jm_M) : Prop := ls.length ≤ 8 ∧ μ.1 41 0 0 b = nI ls.length ∧ ∀ k, k < ls.length → μ.1 41 0 0 (b + 1 + k) = nI (ls.getD k 0)
/-- the letters at hand -/
def mH (ls : List Nat) (μ : jm_M) : Prop := ls.length ≤ 8 ∧ μ.1 40 0 0 26 = nI ls.length ∧ ∀ k, k < ls.length → μ.1 49 0 0 k = nI (ls.getD k 0)
def PM_h (K k : Nat) : Prop := (K = 40 ∧ k = 26) ∨ K = 49
theorem sm_loads_loop {ls : List Nat} {b : Nat} (hb : b + 9 ≤ 8600) (d : Nat) : ∀ (r k : Nat) (m : jm_M), k + r = ls.length → mR ls b m → m.1 40 0 0 26 = nI ls.length → (∀ q, q < k → m.1 49 0 0 q = nI (ls.getD q 0)) → ∃ m', jm_ev false d 11 0 jc_X12_loads 12 [vM, .inl (nI b), .inl (nI k)] [] m = some (jm_j, m') ∧ mH ls m' ∧ jk PM_h m m'
  | 0, k, m, hk, hR, hl, hq => by
    have h8 := hR.1
    refine ⟨m, ?_, ⟨h8, hl, fun q h => hq q (by omega)⟩, .rf⟩
    rw [l_X12_loads_12, hl, jt_dt (nI_le (show ls.length ≤ k by omega) (by omega))]
    rfl
  | r + 1, k, m, hk, hR, hl, hq => by
    have h8 := hR.1
    obtain ⟨m', e1, e2, e3⟩ := sm_loads_loop hb d r (k + 1) (jm_sI m 49 0 0 k (nI (ls.getD k 0))) (by omega) ⟨h8, by rw [rd_II, if_neg (by omega)]; exact hR.2.1, fun q h => by rw [rd_II, if_neg (by omega)]; exact hR.2.2 q h⟩ (by rw [rd_II, if_neg (by omega)]; exact hl) (fun q h => by
      rw [rd_II]
      by_cases e : q = k
      · rw [if_pos ⟨rfl, rfl, rfl, e⟩, e]
      · rw [if_neg (fun z => e z.2.2.2)]; exact hq q (by omega))
    refine ⟨m', ?_, e2, (jk_I (Or.inr rfl)).tr e3⟩
    have ea : nI b + 1 + nI k = nI (b + 1 + k) := by rw [nI_1, nI_add]
    rw [l_X12_loads_12, hl, jt_df (nI_ge (show k < ls.length by omega) (by omega)), cond_false, ea, jt_in (show b + 1 + k < 8600 by omega) (by decide), cond_true, jt_in (show k < 8 by omega) (by decide), cond_true, nI_1, jt_ix (show b + 1 + k < 2 ^ 31 by omega), jt_ix (show k < 2 ^ 31 by omega), hR.2.2 k (by omega)]
    exact e1
theorem sm_loads {ls : List Nat} {b : Nat} {m : jm_M} (h : mR ls b m) (hb : b + 9 ≤ 8600) (d : Nat) : ∃ m', jm_sem false (d + 1) jn_X12_loads [vM, .inl (nI b)] m = some (jm_j, m') ∧ mH ls m' ∧ jk PM_h m m' := by
  obtain ⟨m', e1, e2, e3⟩ := sm_loads_loop (ls := ls) hb d ls.length 0 (jm_sI m 40 0 0 26 (nI ls.length)) (by omega) ⟨h.1, by rw [rd_II, if_neg (by omega)]; exact h.2.1, fun q hq => by rw [rd_II, if_neg (by omega)]; exact h.2.2 q hq⟩ (by rw [rd_II, if_pos ⟨rfl, rfl, rfl, rfl⟩]) (fun q hq => by omega)
  refine ⟨m', ?_, e2, (jk_I (Or.inl ⟨rfl, rfl⟩)).tr e3⟩
  rw [e_X12_loads, jt_in (show b < 8600 by omega) (by decide), cond_true, jt_ix (show b < 2 ^ 31 by omega), h.2.1]
  exact e1
theorem take_snoc {ls : List Nat} {k : Nat} (h : k < ls.length) : ls.take (k + 1) = ls.take k ++ [ls.getD k 0] := by
  rw [List.take_succ_eq_append_getElem h]
  simp [List.getD, List.getElem?_eq_getElem h]
theorem sm_number_loop {ls : List Nat} (ho : okL ls) (d : Nat) (m : jm_M) (h : mH ls m) : ∀ (r k : Nat), k + r = ls.length → jm_ev false d 11 5 jc_X12_numberHere 4 [vM, .inr (.inl (lN (enc (ls.take k)))), jm_j, .inl (nI k)] [] m = some (.inr (.inl (lN (enc ls))), m)
  | 0, k, hk => by
    have h8 := h.1
    rw [l_X12_numberHere_4, h.2.1, jt_dt (nI_le (show ls.length ≤ k by omega) (by omega)), cond_true, List.take_of_length_le (by omega)]
  | r + 1, k, hk => by
    have h8 := h.1
    have hk' : k < ls.length := by omega
    have h32 := okL_31 ho k
    rw [l_X12_numberHere_4, h.2.1, jt_df (nI_ge hk' (by omega)), cond_false, jt_in (show k < 8 by omega) (by decide), cond_true, nI_1, jt_ix (show k < 2 ^ 31 by omega), h.2.2 k hk', nI_l (show ls.getD k 0 < 2 ^ 31 by omega), show (32 : Int64) = lN 32 from rfl, lN_mul, lN_add, ← enc_snoc, ← take_snoc hk']
    exact sm_number_loop ho d m h r (k + 1) (by omega)
theorem sm_numberHere {ls : List Nat} (ho : okL ls) {m : jm_M} (h : mH ls m) (d : Nat) : jm_sem false (d + 1) jn_X12_numberHere [vM] m = some (.inr (.inl (lN (enc ls))), m) := by
  rw [e_X12_numberHere]
  exact sm_number_loop ho d m h ls.length 0 (by omega)
theorem sm_rowOf (d : Nat) (s w : Nat) (m : jm_M) : jm_sem false (d + 1) jn_X12_rowOf [.inl (nI s), .inl (nI w)] m = some (.inl (nI (s + 10 + 40 * w)), m) := by
  rw [e_X12_rowOf, show (40 : Int32) = nI 40 from rfl, pk_mul, show (10 : Int32) = nI 10 from rfl, nI_add, nI_add]
theorem sm_formOf {ls : List Nat} (ho : okL ls) {s w : Nat} {m : jm_M} (h : mR ls (s + 10 + 40 * w) m) (hb : s + 10 + 40 * w + 9 ≤ 8600) (d : Nat) : ∃ m', jm_sem false (d + 2) jn_X12_formOf [vM, .inl (nI s), .inl (nI w)] m = some (.inr (.inl (lN (enc ls))), m') ∧ mH ls m' ∧ jk PM_h m m' := by
  obtain ⟨m', e1, e2, e3⟩ := sm_loads h hb d
  refine ⟨m', ?_, e2, e3⟩
  rw [e_X12_formOf, sm_rowOf, jt_bi, e1, jt_bv, sm_numberHere ho e2, jt_bl]
/-- two rows are alike -/
theorem sm_like_loop {a c : List Nat} (ha : okL a) (hc : okL c) {b1 b2 : Nat} (h1 : b1 + 9 ≤ 8600) (h2 : b2 + 9 ≤ 8600) (d : Nat) (m : jm_M) (r1 : mR a b1 m) (r2 : mR c b2 m) (hl : a.length = c.length) : ∀ (r k : Nat), k + r = a.length → a.take k = c.take k → jm_ev false d 11 2 jc_X12_areLike 24 [vM, .inl (nI b1), .inl (nI b2), .inl 1, .inl (nI k)] [] m = some (.inl (if a = c then 1 else 0), m)
  | 0, k, hk, he => by
    have h8 := r1.1
    rw [l_X12_areLike_24, jt_in (show b1 < 8600 by omega) (by decide), cond_true, jt_ix (show b1 < 2 ^ 31 by omega), r1.2.1, jt_dt (nI_le (show a.length ≤ k by omega) (by omega)), cond_true, jt_cd, if_pos (by decide), if_pos]
    rw [← List.take_of_length_le (show a.length ≤ k by omega), he, List.take_of_length_le (by omega)]
  | r + 1, k, hk, he => by
    have h8 := r1.1
    have ka : k < a.length := by omega
    have kc : k < c.length := by omega
    have e1 : nI b1 + 1 + nI k = nI (b1 + 1 + k) := by rw [nI_1, nI_add]
    have e2 : nI b2 + 1 + nI k = nI (b2 + 1 + k) := by rw [nI_1, nI_add]
    have a32 := okL_31 ha k
    have c32 := okL_31 hc k
    rw [l_X12_areLike_24, jt_in (show b1 < 8600 by omega) (by decide), cond_true, jt_ix (show b1 < 2 ^ 31 by omega), r1.2.1, jt_df (nI_ge ka (by omega)), cond_false, jt_cd, if_neg (show ¬ ((1 : Int32) = 0) by decide), e1, e2, jt_in (show b1 + 1 + k < 8600 by omega) (by decide), cond_true, jt_in (show b2 + 1 + k < 8600 by omega) (by decide), cond_true, jt_ix (show b1 + 1 + k < 2 ^ 31 by omega), jt_ix (show b2 + 1 + k < 2 ^ 31 by omega), r1.2.2 k ka, r2.2.2 k kc, nI_1, jt_c, jt_cd]
    by_cases e : a.getD k 0 = c.getD k 0
    · rw [if_neg (by rw [e]; simp)]
      exact sm_like_loop ha hc h1 h2 d m r1 r2 hl r (k + 1) (by omega) (by rw [take_snoc ka, take_snoc kc, he, e])
    · rw [if_pos (by rw [ne_eq, nI_eq (by omega) (by omega)]; exact e), if_neg (fun z => e (by rw [z])), l_X12_areLike_24, jt_in (show b1 < 8600 by omega) (by decide), cond_true, jt_ix (show b1 < 2 ^ 31 by omega), r1.2.1]
      by_cases y : nI a.length ≤ nI (k + 1)
      · rw [jt_dt y]; rfl
      · rw [jt_df y]; rfl
theorem sm_areLike {a c : List Nat} (ha : okL a) (hc : okL c) {b1 b2 : Nat} (h1 : b1 + 9 ≤ 8600) (h2 : b2 + 9 ≤ 8600) {m : jm_M} (r1 : mR a b1 m) (r2 : mR c b2 m) (d : Nat) : jm_sem false (d + 1) jn_X12_areLike [vM, .inl (nI b1), .inl (nI b2)] m = some (.inl (if a = c then 1 else 0), m) := by
  have h8 := r1.1
  have h8' := r2.1
  rw [e_X12_areLike, jt_in (show b1 < 8600 by omega) (by decide), cond_true, jt_in (show b2 < 8600 by omega) (by decide), cond_true, jt_ix (show b1 < 2 ^ 31 by omega), jt_ix (show b2 < 2 ^ 31 by omega), r1.2.1, r2.2.1, jt_c, jt_cd]
  by_cases e : a.length = c.length
  · rw [if_neg (by rw [e]; simp)]
    exact sm_like_loop ha hc h1 h2 d m r1 r2 e a.length 0 (by omega) rfl
  · rw [if_pos (by rw [ne_eq, nI_eq (by omega) (by omega)]; exact e), if_neg (fun z => e (by rw [z])), l_X12_areLike_24, jt_in (show b1 < 8600 by omega) (by decide), cond_true, jt_ix (show b1 < 2 ^ 31 by omega), r1.2.1]
    by_cases y : nI a.length ≤ 0
    · rw [jt_dt y]; rfl
    · rw [jt_df y]; rfl
