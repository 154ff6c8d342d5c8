/-! ===== mark, back ===== -/
def PC1 (t k0 K _i _j k : Nat) : Prop := K = 41 ∧ 770 * t + k0 ≤ k ∧ k < 770 * t + 770
def PC2 (t k0 K _i _j k : Nat) : Prop := K = 42 ∧ 64 * t + k0 ≤ k ∧ k < 64 * t + 64
theorem sm_copies_2 {f t : Nat} (hf : f ≤ 3) (ht : t ≤ 3) (hft : f ≠ t) (d : Nat) : ∀ (r k : Nat) (m : jm_M), k + r = 64 → ∃ m', jm_ev false d 11 0 jc_X12_copies 41 [vM, .inl (nI f), .inl (nI t), .inl (nI k)] [] m = some (jm_j, m') ∧ (∀ q, k ≤ q → q < 64 → m'.2 42 0 0 (64 * t + q) = m.2 42 0 0 (64 * f + q)) ∧ fr (PC2 t k) m m'
  | 0, k, m, hk => by
    refine ⟨m, ?_, fun q h1 h2 => by omega, .rf⟩
    rw [l_X12_copies_41]
    simp (disch := omega) only [jg_lit, jg_litL, jg_m1, jg_m1L, nI_add, lN_add, pk_mul, jg_sub, jg_subM, jg_addM, jg_addM', jg_negM, jt_in, jt_ix, jt_bi, jt_bl, jt_bv, jt_lt, jg_dT, jg_dF, jt_c, jt_cd, ru_I, ru_L, jg_leI, jg_ltI, jg_eqI, jg_M1, jg_M2, jg_M3, jg_M4, jg_M5, jg_M6, jg_ltT, jg_ltF, jg_leT, jg_leF, jg_eqT, jg_eqF, cond_true, cond_false, ne_eq, not_true_eq_false, not_false_eq_true, decide_true, decide_false, if_true, if_false, and_true, true_and, and_false, false_and, or_true, true_or, or_false, false_or, Nat.reduceEqDiff, reduceIte, Nat.reduceMul, Nat.reduceAdd, Nat.reduceSub, Nat.add_zero, Nat.zero_add, Nat.mul_zero, eq_self_iff_true, jg_not_lt, jg_not_le]
  | r + 1, k, m, hk => by
    obtain ⟨m', e1, e2, e4⟩ := sm_copies_2 hf ht hft d r (k + 1) (jm_sL m 42 0 0 (64 * t + k) (m.2 42 0 0 (64 * f + k))) (by omega)
    refine ⟨m', ?_, fun q h1 h2 => ?_, (fr_L (show PC2 t k 42 0 0 (64 * t + k) from ⟨rfl, by omega, by omega⟩)).tr (e4.wk (fun K i j q z => ⟨z.1, by have := z.2; omega, z.2.2⟩))⟩
    · rw [l_X12_copies_41]
      simp (disch := omega) only [jg_lit, jg_litL, jg_m1, jg_m1L, nI_add, lN_add, pk_mul, jg_sub, jg_subM, jg_addM, jg_addM', jg_negM, jt_in, jt_ix, jt_bi, jt_bl, jt_bv, jt_lt, jg_dT, jg_dF, jt_c, jt_cd, ru_I, ru_L, jg_leI, jg_ltI, jg_eqI, jg_M1, jg_M2, jg_M3, jg_M4, jg_M5, jg_M6, jg_ltT, jg_ltF, jg_leT, jg_leF, jg_eqT, jg_eqF, cond_true, cond_false, ne_eq, not_true_eq_false, not_false_eq_true, decide_true, decide_false, if_true, if_false, and_true, true_and, and_false, false_and, or_true, true_or, or_false, false_or, Nat.reduceEqDiff, reduceIte, Nat.reduceMul, Nat.reduceAdd, Nat.reduceSub, Nat.add_zero, Nat.zero_add, Nat.mul_zero, eq_self_iff_true, jg_not_lt, jg_not_le]
      exact e1
    · by_cases e : q = k
      · subst e
        rw [(e4 42 0 0 (64 * t + q) (fun z => by have := z.2.1; omega)).2, rd_LL, if_pos ⟨rfl, rfl, rfl, rfl⟩]
      · rw [e2 q (by omega) h2, rd_LL, if_neg (by omega)]
theorem sm_copies_1 {f t : Nat} (hf : f ≤ 3) (ht : t ≤ 3) (hft : f ≠ t) (d : Nat) : ∀ (r k : Nat) (m : jm_M), k + r = 770 → ∃ m', jm_ev false d 11 0 jc_X12_copies 2 [vM, .inl (nI f), .inl (nI t), .inl (nI k)] [] m = jm_ev false d 11 0 jc_X12_copies 41 [vM, .inl (nI f), .inl (nI t), .inl (nI 0)] [] m' ∧ (∀ q, k ≤ q → q < 770 → m'.1 41 0 0 (770 * t + q) = m.1 41 0 0 (770 * f + q)) ∧ fr (PC1 t k) m m'
  | 0, k, m, hk => by
    refine ⟨m, ?_, fun q h1 h2 => by omega, .rf⟩
    rw [l_X12_copies_2]
    simp (disch := omega) only [jg_lit, jg_litL, jg_m1, jg_m1L, nI_add, lN_add, pk_mul, jg_sub, jg_subM, jg_addM, jg_addM', jg_negM, jt_in, jt_ix, jt_bi, jt_bl, jt_bv, jt_lt, jg_dT, jg_dF, jt_c, jt_cd, ru_I, ru_L, jg_leI, jg_ltI, jg_eqI, jg_M1, jg_M2, jg_M3, jg_M4, jg_M5, jg_M6, jg_ltT, jg_ltF, jg_leT, jg_leF, jg_eqT, jg_eqF, cond_true, cond_false, ne_eq, not_true_eq_false, not_false_eq_true, decide_true, decide_false, if_true, if_false, and_true, true_and, and_false, false_and, or_true, true_or, or_false, false_or, Nat.reduceEqDiff, reduceIte, Nat.reduceMul, Nat.reduceAdd, Nat.reduceSub, Nat.add_zero, Nat.zero_add, Nat.mul_zero, eq_self_iff_true, jg_not_lt, jg_not_le]
  | r + 1, k, m, hk => by
    obtain ⟨m', e1, e2, e4⟩ := sm_copies_1 hf ht hft d r (k + 1) (jm_sI m 41 0 0 (770 * t + k) (m.1 41 0 0 (770 * f + k))) (by omega)
    refine ⟨m', ?_, fun q h1 h2 => ?_, (fr_I (show PC1 t k 41 0 0 (770 * t + k) from ⟨rfl, by omega, by omega⟩)).tr (e4.wk (fun K i j q z => ⟨z.1, by have := z.2; omega, z.2.2⟩))⟩
    · rw [l_X12_copies_2]
      simp (disch := omega) only [jg_lit, jg_litL, jg_m1, jg_m1L, nI_add, lN_add, pk_mul, jg_sub, jg_subM, jg_addM, jg_addM', jg_negM, jt_in, jt_ix, jt_bi, jt_bl, jt_bv, jt_lt, jg_dT, jg_dF, jt_c, jt_cd, ru_I, ru_L, jg_leI, jg_ltI, jg_eqI, jg_M1, jg_M2, jg_M3, jg_M4, jg_M5, jg_M6, jg_ltT, jg_ltF, jg_leT, jg_leF, jg_eqT, jg_eqF, cond_true, cond_false, ne_eq, not_true_eq_false, not_false_eq_true, decide_true, decide_false, if_true, if_false, and_true, true_and, and_false, false_and, or_true, true_or, or_false, false_or, Nat.reduceEqDiff, reduceIte, Nat.reduceMul, Nat.reduceAdd, Nat.reduceSub, Nat.add_zero, Nat.zero_add, Nat.mul_zero, eq_self_iff_true, jg_not_lt, jg_not_le]
      exact e1
    · by_cases e : q = k
      · subst e
        rw [(e4 41 0 0 (770 * t + q) (fun z => by have := z.2.1; omega)).1, rd_II, if_pos ⟨rfl, rfl, rfl, rfl⟩]
      · rw [e2 q (by omega) h2, rd_II, if_neg (by omega)]
def PCp (t K _i _j k : Nat) : Prop := (K = 41 ∧ 770 * t ≤ k ∧ k < 770 * t + 770) ∨ (K = 42 ∧ 64 * t ≤ k ∧ k < 64 * t + 64)
theorem sm_copies {f t : Nat} (hf : f ≤ 3) (ht : t ≤ 3) (hft : f ≠ t) (d : Nat) (m : jm_M) : ∃ m', jm_sem false (d + 1) jn_X12_copies [vM, .inl (nI f), .inl (nI t)] m = some (jm_j, m') ∧ (∀ q, q < 770 → m'.1 41 0 0 (770 * t + q) = m.1 41 0 0 (770 * f + q)) ∧ (∀ q, q < 64 → m'.2 42 0 0 (64 * t + q) = m.2 42 0 0 (64 * f + q)) ∧ fr (PCp t) m m' := by
  obtain ⟨m1, e1, e2, e3⟩ := sm_copies_1 hf ht hft d 770 0 m (by omega)
  obtain ⟨m2, f1, f2, f3⟩ := sm_copies_2 hf ht hft d 64 0 m1 (by omega)
  refine ⟨m2, ?_, fun q hq => ?_, fun q hq => ?_, (e3.wk (fun K i j k z => Or.inl ⟨z.1, by have := z.2.1; omega, z.2.2⟩)).tr (f3.wk (fun K i j k z => Or.inr ⟨z.1, by have := z.2.1; omega, z.2.2⟩))⟩
  · rw [e_X12_copies]
    exact e1.trans f1
  · rw [(f3 41 0 0 _ (fun z => by have := z.1; omega)).1]; exact e2 q (Nat.zero_le _) hq
  · rw [f2 q (Nat.zero_le _) hq, (e3 42 0 0 _ (fun z => by have := z.1; omega)).2]
def stM (s : St) (V : Vl) (L : List Vl) (x : Int32) : St := (V, x, aT s, aP s, L, aB s, aG s, aF s, aX s)
theorem xA_M {s : St} {μ m : jm_M} (h : xA s μ) {V : Vl} {L : List Vl} (hv : xV V 0 m) (h13 : m.1 0 0 0 13 = nI L.length) (hL : ∀ k, k < L.length → xV (gm L k) (2 + k) m) (hf : ∀ K i j k, (K = 0 ∧ k ≠ 13) ∨ K = 2 ∨ K = 3 ∨ K = 4 ∨ K = 22 ∨ K = 23 ∨ K = 37 → m.1 K i j k = μ.1 K i j k ∧ m.2 K i j k = μ.2 K i j k) (x : Int32) : xA (stM s V L x) (jm_sI m 0 0 0 14 x) := by
  obtain ⟨-, h1, h2, h3, h4, h5, h6, h7, h8, h9, h10, h11, h12⟩ := h
  have ne : ∀ K i j k, ¬ (K = 0 ∧ k = 14) → (jm_sI m 0 0 0 14 x).1 K i j k = m.1 K i j k := fun K i j k hn => by rw [rd_II, if_neg (fun z => hn ⟨z.1, z.2.2.2⟩)]
  have k0 := fun k (hk : k ≠ 13 ∧ k ≠ 14) => (ne 0 0 0 k (by omega)).trans (hf 0 0 0 k (by omega)).1
  have k0L := fun k (hk : k ≠ 13) => (hf 0 0 0 k (by omega)).2
  refine ⟨xV_st hv x, by rw [rd_II, if_pos ⟨rfl, rfl, rfl, rfl⟩]; rfl, xT_k h2 (fun i j k => (ne _ _ _ _ (by omega)).trans (hf 2 i j k (by omega)).1) (fun i j k => (hf 3 i j k (by omega)).2), xP_k h3 (k0 12 (by omega)) (fun i j k => (ne _ _ _ _ (by omega)).trans (hf 4 i j k (by omega)).1), by rw [ne _ _ _ _ (by omega)]; exact h13, fun k hk => xV_st (hL k hk) x, by rw [ne _ _ _ _ (by omega), (hf 22 0 0 1 (by omega)).1]; exact h6, fun k hk => by rw [ne _ _ _ _ (by omega), (hf 23 0 0 k (by omega)).1]; exact h7 k hk, ?_, (k0L 18 (by omega)).trans h9, (k0L 19 (by omega)).trans h10, (k0 15 (by omega)).trans h11, (k0 16 (by omega)).trans h12⟩
  have k37 := fun k => (ne 37 0 0 k (by omega)).trans (hf 37 0 0 k (by omega)).1
  show xG (aG s) _
  unfold xG at h8 ⊢
  split at h8
  · rw [k0 17 (by omega)]; exact h8
  · rw [k0 17 (by omega), k37, k37, k37, k37]; exact h8
theorem mA_M {s : St} {μ m : jm_M} (h : mA s μ) {V : Vl} (hV : okV V) {L : List Vl} (hv : mF V m) (h47 : m.1 40 0 0 47 = nI L.length) (hL : ∀ k, k < L.length → mK (gm L k) (770 * (k + 1)) (64 * (k + 1)) m) (hf : ∀ K i j k, (K = 40 ∧ k ≠ 47) ∨ K = 43 ∨ K = 44 ∨ K = 45 ∨ K = 46 ∨ K = 55 ∨ K = 59 → m.1 K i j k = μ.1 K i j k ∧ m.2 K i j k = μ.2 K i j k) (x : Int32) : mA (stM s V L x) (jm_sI m 40 0 0 2 x) := by
  obtain ⟨-, h1, h2, h3, h4, h5, h6, h7, h8, h9, h10, h11, h12⟩ := h
  have ne : ∀ K i j k, ¬ (K = 40 ∧ k = 2) → (jm_sI m 40 0 0 2 x).1 K i j k = m.1 K i j k := fun K i j k hn => by rw [rd_II, if_neg (fun z => hn ⟨z.1, z.2.2.2⟩)]
  have k0 := fun k (hk : k ≠ 47 ∧ k ≠ 2) => (ne 40 0 0 k (by omega)).trans (hf 40 0 0 k (by omega)).1
  have k0L := fun k (hk : k ≠ 47) => (hf 40 0 0 k (by omega)).2
  refine ⟨mF_st hv hV x, by rw [rd_II, if_pos ⟨rfl, rfl, rfl, rfl⟩]; rfl, mT_k h2 (fun i j k => (ne _ _ _ _ (by omega)).trans (hf 43 i j k (by omega)).1) (fun i j k => (ne _ _ _ _ (by omega)).trans (hf 44 i j k (by omega)).1) (fun i j k => (hf 45 i j k (by omega)).2), mP_k h3 (k0 10 (by omega)) (fun i j k => (ne _ _ _ _ (by omega)).trans (hf 46 i j k (by omega)).1), by rw [ne _ _ _ _ (by omega)]; exact h47, fun k hk => ?_, (k0 37 (by omega)).trans h6, fun k hk => by rw [ne _ _ _ _ (by omega), (hf 55 0 0 k (by omega)).1]; exact h7 k hk, ?_, (k0L 3 (by omega)).trans h9, (k0L 4 (by omega)).trans h10, (k0 16 (by omega)).trans h11, (k0 17 (by omega)).trans h12⟩
  · obtain ⟨ν, n1, n2, n3⟩ := hL k hk
    exact ⟨ν, n1, fun c hc => by rw [ne _ _ _ _ (by omega)]; exact n2 c hc, n3⟩
  · have k59 := fun k => (ne 59 0 0 k (by omega)).trans (hf 59 0 0 k (by omega)).1
    show mG (aG s) _
    unfold mG at h8 ⊢
    split at h8
    · rw [k0 46 (by omega)]; exact h8
    · rw [k0 46 (by omega), k59, k59, k59, k59]; exact h8
theorem xV_k0 {V : Vl} {i : Nat} {μ : jm_M} {x : Int32} {q : Nat} (h : xV V i μ) : xV V i (jm_sI μ 0 0 0 q x) := ⟨xH_k h.1 (fun K k hK => ⟨by rw [rd_II, if_neg (by omega)], rfl⟩), fun j hj => xW_k (h.2 j hj) (fun k => by rw [rd_II, if_neg (by omega)]) (fun k => rfl)⟩
theorem gm_lo {L : List Vl} {k : Nat} (h : k < L.length) (V : Vl) : gm (L ++ [V]) k = gm L k := by
  unfold gm
  simp only [List.getD]
  rw [List.getElem?_append_left h]
theorem gm_hi (L : List Vl) (V : Vl) : gm (L ++ [V]) L.length = V := by
  unfold gm
  simp only [List.getD]
  rw [List.getElem?_append_right (Nat.le_refl _), Nat.sub_self]
  rfl
theorem gm_take {L : List Vl} {n k : Nat} (h : k < n) : gm (L.take n) k = gm L k := by
  unfold gm
  simp only [List.getD]
  rw [List.getElem?_take_of_lt h]
theorem mK_cp {V : Vl} {s l s' l' : Nat} {μ μ' : jm_M} (h : mK V s l μ) (h1 : ∀ k, k < 770 → μ'.1 41 0 0 (s' + k) = μ.1 41 0 0 (s + k)) (h2 : ∀ k, k < 64 → μ'.2 42 0 0 (l' + k) = μ.2 42 0 0 (l + k)) : mK V s' l' μ' := by
  obtain ⟨ν, n1, n2, n3⟩ := h
  exact ⟨ν, n1, fun k hk => (h1 k hk).trans (n2 k hk), fun k hk => (h2 k hk).trans (n3 k hk)⟩
theorem mK_of {V : Vl} {μ : jm_M} (h : mF V μ) : mK V 0 0 μ := ⟨μ, h, fun k _ => by rw [Nat.zero_add], fun k _ => by rw [Nat.zero_add]⟩
theorem mF_of {V : Vl} {μ : jm_M} (ho : okV V) (h : mK V 0 0 μ) : mF V μ := by
  obtain ⟨ν, n1, n2, n3⟩ := h
  exact mF_k n1 ho (fun k hk => by have := n2 k hk; rw [Nat.zero_add] at this; exact this) (fun k hk => by have := n3 k hk; rw [Nat.zero_add] at this; exact this)
theorem c_mark : jcall jn_X11_mark jn_X12_mark [] := by
  intro s μ ho hx hm
  have h3 := ho.2.1
  have xn : μ.1 0 0 0 13 = nI (aM s).length := hx.2.2.2.2.1
  have mn : μ.1 40 0 0 47 = nI (aM s).length := hm.2.2.2.2.1
  by_cases c : (aM s).length = 3
  · refine jcall_no ho hx hm 4 (v := .inl jM) ?_ ?_
    · rw [e_X11_mark]; simp (disch := omega) only [jg_lit, jg_litL, jg_m1, jg_m1L, nI_add, lN_add, pk_mul, jg_sub, jg_subM, jg_addM, jg_addM', jg_negM, jt_in, jt_ix, jt_bi, jt_bl, jt_bv, jt_lt, jg_dT, jg_dF, jt_c, jt_cd, ru_I, ru_L, jg_leI, jg_ltI, jg_eqI, jg_M1, jg_M2, jg_M3, jg_M4, jg_M5, jg_M6, jg_ltT, jg_ltF, jg_leT, jg_leF, jg_eqT, jg_eqF, cond_true, cond_false, ne_eq, not_true_eq_false, not_false_eq_true, decide_true, decide_false, if_true, if_false, and_true, true_and, and_false, false_and, or_true, true_or, or_false, false_or, Nat.reduceEqDiff, reduceIte, Nat.reduceMul, Nat.reduceAdd, Nat.reduceSub, Nat.add_zero, Nat.zero_add, Nat.mul_zero, eq_self_iff_true, jg_not_lt, jg_not_le, xn, c, sx_fail]
    · rw [e_X12_mark]; simp (disch := omega) only [jg_lit, jg_litL, jg_m1, jg_m1L, nI_add, lN_add, pk_mul, jg_sub, jg_subM, jg_addM, jg_addM', jg_negM, jt_in, jt_ix, jt_bi, jt_bl, jt_bv, jt_lt, jg_dT, jg_dF, jt_c, jt_cd, ru_I, ru_L, jg_leI, jg_ltI, jg_eqI, jg_M1, jg_M2, jg_M3, jg_M4, jg_M5, jg_M6, jg_ltT, jg_ltF, jg_leT, jg_leF, jg_eqT, jg_eqF, cond_true, cond_false, ne_eq, not_true_eq_false, not_false_eq_true, decide_true, decide_false, if_true, if_false, and_true, true_and, and_false, false_and, or_true, true_or, or_false, false_or, Nat.reduceEqDiff, reduceIte, Nat.reduceMul, Nat.reduceAdd, Nat.reduceSub, Nat.add_zero, Nat.zero_add, Nat.mul_zero, eq_self_iff_true, jg_not_lt, jg_not_le, mn, c, sm_refuse]
  · obtain ⟨m1, e1, e2, e3⟩ := sx_copyV hx.1 ho.1 (i := (aM s).length + 2) (by omega) 96
    have x13 : m1.1 0 0 0 13 = nI (aM s).length := by rw [(e3 0 0 0 13 (by unfold PV; omega)).1]; exact xn
    obtain ⟨n1, f1, f2, f3, f4⟩ := sm_copies (f := 0) (t := (aM s).length + 1) (by omega) (by omega) (by omega) 97 (jm_sI μ 40 0 0 47 (nI ((aM s).length + 1)))
    have n47 : n1.1 40 0 0 47 = nI ((aM s).length + 1) := by rw [(f4 40 0 0 47 (by unfold PCp; omega)).1, rd_II, if_pos ⟨rfl, rfl, rfl, rfl⟩]
    have len : (aM s ++ [aV s]).length = (aM s).length + 1 := by rw [List.length_append, List.length_singleton]
    have q41 : ∀ k, k < 770 * ((aM s).length + 1) → n1.1 41 0 0 k = μ.1 41 0 0 k := fun k hk => by rw [(f4 41 0 0 k (by unfold PCp; omega)).1, rd_II, if_neg (by omega)]
    have q42 : ∀ k, k < 64 * ((aM s).length + 1) → n1.2 42 0 0 k = μ.2 42 0 0 k := fun k hk => by rw [(f4 42 0 0 k (by unfold PCp; omega)).2]
    refine ⟨.inl (nI ((aM s).length + 1)), stM s (aV s) (aM s ++ [aV s]) 0, jm_sI (jm_sI m1 0 0 0 13 (nI ((aM s).length + 1))) 0 0 0 14 0, jm_sI n1 40 0 0 2 0, ⟨ho.1, by show (aM s ++ [aV s]).length ≤ 3; omega, fun k hk => ?_, ho.2.2.2⟩, ?_, ?_, ?_, ?_⟩
    · show okV (gm (aM s ++ [aV s]) k)
      have hk : k < (aM s ++ [aV s]).length := hk
      by_cases e : k = (aM s).length
      · rw [e, gm_hi]; exact ho.1
      · rw [gm_lo (by omega)]; exact ho.2.2.1 k (by omega)
    · rw [e_X11_mark]; simp (disch := omega) only [jg_lit, jg_litL, jg_m1, jg_m1L, nI_add, lN_add, pk_mul, jg_sub, jg_subM, jg_addM, jg_addM', jg_negM, jt_in, jt_ix, jt_bi, jt_bl, jt_bv, jt_lt, jg_dT, jg_dF, jt_c, jt_cd, ru_I, ru_L, jg_leI, jg_ltI, jg_eqI, jg_M1, jg_M2, jg_M3, jg_M4, jg_M5, jg_M6, jg_ltT, jg_ltF, jg_leT, jg_leF, jg_eqT, jg_eqF, cond_true, cond_false, ne_eq, not_true_eq_false, not_false_eq_true, decide_true, decide_false, if_true, if_false, and_true, true_and, and_false, false_and, or_true, true_or, or_false, false_or, Nat.reduceEqDiff, reduceIte, Nat.reduceMul, Nat.reduceAdd, Nat.reduceSub, Nat.add_zero, Nat.zero_add, Nat.mul_zero, eq_self_iff_true, jg_not_lt, jg_not_le, xn, e1, x13, sx_give, Bool.and_true]
    · rw [e_X12_mark]; simp (disch := omega) only [jg_lit, jg_litL, jg_m1, jg_m1L, nI_add, lN_add, pk_mul, jg_sub, jg_subM, jg_addM, jg_addM', jg_negM, jt_in, jt_ix, jt_bi, jt_bl, jt_bv, jt_lt, jg_dT, jg_dF, jt_c, jt_cd, ru_I, ru_L, jg_leI, jg_ltI, jg_eqI, jg_M1, jg_M2, jg_M3, jg_M4, jg_M5, jg_M6, jg_ltT, jg_ltF, jg_leT, jg_leF, jg_eqT, jg_eqF, cond_true, cond_false, ne_eq, not_true_eq_false, not_false_eq_true, decide_true, decide_false, if_true, if_false, and_true, true_and, and_false, false_and, or_true, true_or, or_false, false_or, Nat.reduceEqDiff, reduceIte, Nat.reduceMul, Nat.reduceAdd, Nat.reduceSub, Nat.add_zero, Nat.zero_add, Nat.mul_zero, eq_self_iff_true, jg_not_lt, jg_not_le, mn, f1, n47, sm_gives]
    · refine xA_M (m := jm_sI m1 0 0 0 13 (nI ((aM s).length + 1))) hx (xV_k0 (xV_fr hx.1 ho.1.2.2.2.1.1 e3 (fun K j k hK hj z => by unfold PV at z; omega))) (by rw [rd_II, if_pos ⟨rfl, rfl, rfl, rfl⟩, len]) (fun k hk => xV_k0 ?_) (fun K i j k hK => ⟨by rw [rd_II, if_neg (by omega)]; exact (e3 K i j k (by unfold PV; omega)).1, (e3 K i j k (by unfold PV; omega)).2⟩) 0
      by_cases e : k = (aM s).length
      · rw [e, gm_hi, Nat.add_comm]; exact e2
      · rw [gm_lo (by omega)]
        exact xV_fr (hx.2.2.2.2.2.1 k (by omega)) (ho.2.2.1 k (by omega)).2.2.2.1.1 e3 (fun K j k hK hj z => by unfold PV at z; omega)
    · refine mA_M hm ho.1 (mF_k hm.1 ho.1 (fun k hk => q41 k (by omega)) (fun k hk => q42 k (by omega))) (by rw [n47, len]) (fun k hk => ?_) (fun K i j k hK => ⟨by rw [(f4 K i j k (by unfold PCp; omega)).1, rd_II, if_neg (by omega)], (f4 K i j k (by unfold PCp; omega)).2⟩) 0
      by_cases e : k = (aM s).length
      · rw [e, gm_hi]
        exact mK_cp (mK_of hm.1) (fun c hc => by rw [f2 c hc, rd_II, if_neg (by omega), Nat.mul_zero]) (fun c hc => by rw [f3 c hc, Nat.mul_zero])
      · rw [gm_lo (by omega)]
        exact mK_cp (hm.2.2.2.2.2.1 k (by omega)) (fun c hc => q41 _ (by omega)) (fun c hc => q42 _ (by omega))
theorem c_back : jcall jn_X11_back jn_X12_back [] := by
  intro s μ ho hx hm
  have h3 := ho.2.1
  have xn : μ.1 0 0 0 13 = nI (aM s).length := hx.2.2.2.2.1
  have mn : μ.1 40 0 0 47 = nI (aM s).length := hm.2.2.2.2.1
  by_cases c : (aM s).length = 0
  · refine jcall_no ho hx hm 6 (v := .inl jM) ?_ ?_
    · rw [e_X11_back]; simp (disch := omega) only [jg_lit, jg_litL, jg_m1, jg_m1L, nI_add, lN_add, pk_mul, jg_sub, jg_subM, jg_addM, jg_addM', jg_negM, jt_in, jt_ix, jt_bi, jt_bl, jt_bv, jt_lt, jg_dT, jg_dF, jt_c, jt_cd, ru_I, ru_L, jg_leI, jg_ltI, jg_eqI, jg_M1, jg_M2, jg_M3, jg_M4, jg_M5, jg_M6, jg_ltT, jg_ltF, jg_leT, jg_leF, jg_eqT, jg_eqF, cond_true, cond_false, ne_eq, not_true_eq_false, not_false_eq_true, decide_true, decide_false, if_true, if_false, and_true, true_and, and_false, false_and, or_true, true_or, or_false, false_or, Nat.reduceEqDiff, reduceIte, Nat.reduceMul, Nat.reduceAdd, Nat.reduceSub, Nat.add_zero, Nat.zero_add, Nat.mul_zero, eq_self_iff_true, jg_not_lt, jg_not_le, xn, c, sx_fail]
    · rw [e_X12_back]; simp (disch := omega) only [jg_lit, jg_litL, jg_m1, jg_m1L, nI_add, lN_add, pk_mul, jg_sub, jg_subM, jg_addM, jg_addM', jg_negM, jt_in, jt_ix, jt_bi, jt_bl, jt_bv, jt_lt, jg_dT, jg_dF, jt_c, jt_cd, ru_I, ru_L, jg_leI, jg_ltI, jg_eqI, jg_M1, jg_M2, jg_M3, jg_M4, jg_M5, jg_M6, jg_ltT, jg_ltF, jg_leT, jg_leF, jg_eqT, jg_eqF, cond_true, cond_false, ne_eq, not_true_eq_false, not_false_eq_true, decide_true, decide_false, if_true, if_false, and_true, true_and, and_false, false_and, or_true, true_or, or_false, false_or, Nat.reduceEqDiff, reduceIte, Nat.reduceMul, Nat.reduceAdd, Nat.reduceSub, Nat.add_zero, Nat.zero_add, Nat.mul_zero, eq_self_iff_true, jg_not_lt, jg_not_le, mn, c, sm_refuse]
  · obtain ⟨n, hn⟩ : ∃ n, (aM s).length = n + 1 := ⟨(aM s).length - 1, by omega⟩
    rw [hn] at xn mn
    have okn := ho.2.2.1 n (by omega)
    have hv : xV (gm (aM s) n) (n + 2) (jm_sI μ 0 0 0 13 (nI n)) := xV_k0 (by rw [Nat.add_comm]; exact hx.2.2.2.2.2.1 n (by omega))
    obtain ⟨m1, e1, e2, e3⟩ := sx_copyV hv okn (i := 0) (by omega) 96
    have x13 : m1.1 0 0 0 13 = nI n := by rw [(e3 0 0 0 13 (by unfold PV; omega)).1, rd_II, if_pos ⟨rfl, rfl, rfl, rfl⟩]
    obtain ⟨n1, f1, f2, f3, f4⟩ := sm_copies (f := n + 1) (t := 0) (by omega) (by omega) (by omega) 97 μ
    have n47 : n1.1 40 0 0 47 = nI (n + 1) := by rw [(f4 40 0 0 47 (by unfold PCp; omega)).1]; exact mn
    have len : ((aM s).take n).length = n := by rw [List.length_take]; omega
    refine ⟨.inl (nI n), stM s (gm (aM s) n) ((aM s).take n) 0, jm_sI m1 0 0 0 14 0, jm_sI (jm_sI n1 40 0 0 47 (nI n)) 40 0 0 2 0, ⟨okn, by show ((aM s).take n).length ≤ 3; omega, fun k hk => ?_, ho.2.2.2⟩, ?_, ?_, ?_, ?_⟩
    · have hk : k < ((aM s).take n).length := hk
      show okV (gm ((aM s).take n) k)
      rw [gm_take (by omega)]; exact ho.2.2.1 k (by omega)
    · rw [e_X11_back]; simp (disch := omega) only [jg_lit, jg_litL, jg_m1, jg_m1L, nI_add, lN_add, pk_mul, jg_sub, jg_subM, jg_addM, jg_addM', jg_negM, jt_in, jt_ix, jt_bi, jt_bl, jt_bv, jt_lt, jg_dT, jg_dF, jt_c, jt_cd, ru_I, ru_L, jg_leI, jg_ltI, jg_eqI, jg_M1, jg_M2, jg_M3, jg_M4, jg_M5, jg_M6, jg_ltT, jg_ltF, jg_leT, jg_leF, jg_eqT, jg_eqF, cond_true, cond_false, ne_eq, not_true_eq_false, not_false_eq_true, decide_true, decide_false, if_true, if_false, and_true, true_and, and_false, false_and, or_true, true_or, or_false, false_or, Nat.reduceEqDiff, reduceIte, Nat.reduceMul, Nat.reduceAdd, Nat.reduceSub, Nat.add_zero, Nat.zero_add, Nat.mul_zero, eq_self_iff_true, jg_not_lt, jg_not_le, xn, Nat.add_sub_cancel, e1, x13, sx_give, Bool.and_true]
    · rw [e_X12_back]; simp (disch := omega) only [jg_lit, jg_litL, jg_m1, jg_m1L, nI_add, lN_add, pk_mul, jg_sub, jg_subM, jg_addM, jg_addM', jg_negM, jt_in, jt_ix, jt_bi, jt_bl, jt_bv, jt_lt, jg_dT, jg_dF, jt_c, jt_cd, ru_I, ru_L, jg_leI, jg_ltI, jg_eqI, jg_M1, jg_M2, jg_M3, jg_M4, jg_M5, jg_M6, jg_ltT, jg_ltF, jg_leT, jg_leF, jg_eqT, jg_eqF, cond_true, cond_false, ne_eq, not_true_eq_false, not_false_eq_true, decide_true, decide_false, if_true, if_false, and_true, true_and, and_false, false_and, or_true, true_or, or_false, false_or, Nat.reduceEqDiff, reduceIte, Nat.reduceMul, Nat.reduceAdd, Nat.reduceSub, Nat.add_zero, Nat.zero_add, Nat.mul_zero, eq_self_iff_true, jg_not_lt, jg_not_le, mn, f1, n47, Nat.add_sub_cancel, sm_gives]
    · refine xA_M hx e2 (by rw [x13, len]) (fun k hk => ?_) (fun K i j k hK => ⟨by rw [(e3 K i j k (by unfold PV; omega)).1, rd_II, if_neg (by omega)], (e3 K i j k (by unfold PV; omega)).2⟩) 0
      rw [gm_take (by omega)]
      exact xV_fr (xV_k0 (hx.2.2.2.2.2.1 k (by omega))) (ho.2.2.1 k (by omega)).2.2.2.1.1 e3 (fun K j k hK hj z => by unfold PV at z; omega)
    · refine mA_M (m := jm_sI n1 40 0 0 47 (nI n)) hm okn ?_ (by rw [rd_II, if_pos ⟨rfl, rfl, rfl, rfl⟩, len]) (fun k hk => ?_) (fun K i j k hK => ⟨by rw [rd_II, if_neg (by omega)]; exact (f4 K i j k (by unfold PCp; omega)).1, (f4 K i j k (by unfold PCp; omega)).2⟩) 0
      · refine mF_of okn (mK_cp (hm.2.2.2.2.2.1 n (by omega)) (fun c hc => ?_) (fun c hc => ?_))
        · rw [rd_II, if_neg (by omega)]; exact f2 c hc
        · exact f3 c hc
      · rw [gm_take (by omega)]
        exact mK_cp (hm.2.2.2.2.2.1 k (by omega)) (fun c hc => by rw [rd_II, if_neg (by omega), (f4 41 0 0 _ (by unfold PCp; omega)).1]) (fun c hc => (f4 42 0 0 _ (by unfold PCp; omega)).2)
