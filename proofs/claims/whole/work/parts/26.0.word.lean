/-! ===== words ===== -/
/-- letters, meanings, said, latest, since winter, lost (letter, place; the latest first), first letters -/
abbrev Wd : Type := List Nat × Nat × Int32 × Int32 × Bool × List (Nat × Nat) × List Nat
abbrev wL (w : Wd) : List Nat := w.1
abbrev wM (w : Wd) : Nat := w.2.1
abbrev wS (w : Wd) : Int32 := w.2.2.1
abbrev wT (w : Wd) : Int32 := w.2.2.2.1
abbrev wC (w : Wd) : Bool := w.2.2.2.2.1
abbrev wX (w : Wd) : List (Nat × Nat) := w.2.2.2.2.2.1
abbrev wF (w : Wd) : List Nat := w.2.2.2.2.2.2
def okW (w : Wd) : Prop := okL (wL w) ∧ (wL w).length + (wX w).length ≤ 8 ∧ (∀ n q, (wX w)[n]? = some q → 1 ≤ q.1 ∧ q.1 < 32 ∧ q.2 ≤ (wL w).length + n) ∧ wM w < 4096 ∧ okL (wF w) ∧ (wF w).length ≤ 8 ∧ (wL w = [] → wM w = 0 ∧ wX w = [])
/-- what was lost as a number: eight bits each, the latest lowest -/
def enc8 : List (Nat × Nat) → Nat
  | [] => 0
  | q :: t => enc8 t * 256 + (q.1 * 8 + q.2)
def jb (b : Bool) : Int32 := if b then 1 else 0
def xW (w : Wd) (i j : Nat) (μ : jm_M) : Prop := μ.2 12 i j 0 = lN (enc (wL w)) ∧ μ.1 12 i j 1 = nI (wL w).length ∧ μ.1 12 i j 2 = nI (wM w) ∧ μ.1 12 i j 3 = wS w ∧ μ.1 12 i j 4 = wT w ∧ μ.1 12 i j 5 = jb (wC w) ∧ μ.2 12 i j 6 = lN (enc8 (wX w)) ∧ μ.1 12 i j 7 = nI (wX w).length ∧ μ.2 12 i j 8 = lN (enc (wF w)) ∧ μ.1 12 i j 9 = nI (wF w).length
theorem xW_k {w : Wd} {i j : Nat} {μ μ' : jm_M} (h : xW w i j μ) (h1 : ∀ k, μ'.1 12 i j k = μ.1 12 i j k) (h2 : ∀ k, μ'.2 12 i j k = μ.2 12 i j k) : xW w i j μ' := by
  unfold xW at h ⊢
  simp only [h1, h2]
  exact h
/-- only this cell has changed -/
def jc (K i j : Nat) (μ μ' : jm_M) : Prop := ∀ K' i' j', ¬ (K' = K ∧ i' = i ∧ j' = j) → μ'.1 K' i' j' = μ.1 K' i' j' ∧ μ'.2 K' i' j' = μ.2 K' i' j'
theorem jc.rf {K i j : Nat} {μ : jm_M} : jc K i j μ μ := fun _ _ _ _ => ⟨rfl, rfl⟩
theorem jc.tr {K i j : Nat} {a b c : jm_M} (h1 : jc K i j a b) (h2 : jc K i j b c) : jc K i j a c := fun K' i' j' h => ⟨(h2 K' i' j' h).1.trans (h1 K' i' j' h).1, (h2 K' i' j' h).2.trans (h1 K' i' j' h).2⟩
theorem jc_I {K i j k : Nat} {x : Int32} {μ : jm_M} : jc K i j μ (jm_sI μ K i j k x) := fun K' i' j' h => ⟨jx_uI_ne h, rfl⟩
theorem jc_L {K i j k : Nat} {x : Int64} {μ : jm_M} : jc K i j μ (jm_sL μ K i j k x) := fun K' i' j' h => ⟨rfl, jx_uL_ne h⟩
def wNew (ls : List Nat) (means : Nat) : Wd := (ls, means, 0, -1, false, [], ls)
theorem sx_keepLost (d i j : Nat) (m : jm_M) : jm_sem false (d + 1) jn_X10_keepLost [.inr (.inr (.inl (12, i, j)))] m = some (jm_j, jm_sI (jm_sL m 12 i j 6 0) 12 i j 7 0) := e_X10_keepLost d i j m
theorem sx_begin (d i j : Nat) (ls : List Nat) (means : Nat) (m : jm_M) : ∃ m', jm_sem false (d + 2) jn_X10_begin [.inr (.inr (.inl (12, i, j))), .inr (.inl (lN (enc ls))), .inl (nI ls.length), .inl (nI means)] m = some (jm_j, m') ∧ xW (wNew ls means) i j m' ∧ jc 12 i j m m' := by
  refine ⟨_, by rw [e_X10_begin, e_X10_keepLost, jt_bv], ?_, ?_⟩
  · unfold xW wNew
    simp only [ru_I, ru_L]
    simp [jb, enc8]
    exact ⟨rfl, rfl⟩
  · exact (((((((((jc_L).tr jc_I).tr jc_I).tr jc_I).tr jc_I).tr jc_I).tr jc_L).tr jc_I).tr jc_L).tr jc_I
theorem sx_goAway {w : Wd} {i j : Nat} {m : jm_M} (h : xW w i j m) (d : Nat) : ∃ m', jm_sem false (d + 2) jn_X10_goAway [.inr (.inr (.inl (12, i, j)))] m = some (jm_j, m') ∧ xW ([], 0, wS w, wT w, wC w, [], wF w) i j m' ∧ jc 12 i j m m' := by
  obtain ⟨h0, h1, h2, h3, h4, h5, h6, h7, h8, h9⟩ := h
  refine ⟨_, by rw [e_X10_goAway, e_X10_keepLost, jt_bv], ?_, ?_⟩
  · unfold xW
    simp only [ru_I, ru_L]
    simp [enc8, h3, h4, h5, h8, h9]
    exact ⟨rfl, rfl, rfl, rfl, rfl⟩
  · exact ((((jc_L).tr jc_I).tr jc_I).tr jc_L).tr jc_I
theorem sx_isGone {w : Wd} {i j : Nat} {m : jm_M} (h : xW w i j m) (h8 : (wL w).length ≤ 8) (d : Nat) : jm_sem false (d + 1) jn_X10_isGone [.inr (.inr (.inl (12, i, j)))] m = some (.inl (if wL w = [] then 1 else 0), m) := by
  rw [e_X10_isGone, h.2.1, jt_cd]
  by_cases z : wL w = []
  · rw [if_pos z, if_neg]
    rw [z]; decide
  · rw [if_neg z, if_pos]
    have : (wL w).length ≠ 0 := fun y => z (List.length_eq_zero_iff.mp y)
    exact nI_ne0 (by omega) (by omega)
theorem sx_letter {w : Wd} {i j : Nat} {m : jm_M} (h : xW w i j m) (ho : okL (wL w)) (h8 : (wL w).length ≤ 8) {p : Nat} (hp : p < 2 ^ 31) (d : Nat) : jm_sem false (d + 1) jn_X10_letter [.inr (.inr (.inl (12, i, j))), .inl (nI p)] m = some (.inl (nI ((wL w).getD p 0)), m) := by
  rw [e_X10_letter, jt_cd, if_neg (nI_pos hp), h.1, h.2.1, jt_c, jt_cd]
  by_cases z : p < (wL w).length
  · rw [if_neg (nI_ge z (by omega)), jt_let ho h8 z]
  · rw [if_pos (nI_le (by omega) hp)]
    simp [List.getD, List.getElem?_eq_none (show (wL w).length ≤ p by omega)]
    rfl
