/-! ===== the machine follows the small machine: what stands at a place ===== -/
/-- the memory in the heap (its size is told by the frame) -/
def jx_H2 (G : jx_G) (md : Bool) (μ : jm_M) (H : Heap) : Prop :=
  jm_cnt md μ ≤ 179 ∧ va_P G.1 vwCl (jx_ws G md μ) H ∧ (∀ r k, jx_in md μ r → jx_rs r k → jx_w md μ r k = true → jx_in md μ (jm_R r.1 r.2.1 r.2.2 k)) ∧
  (md = true → ∀ n r, jm_cnt md μ ≤ n → jm_nm[n]? = some r → ∀ k, μ.1 r.1 r.2.1 r.2.2 k = 0 ∧ μ.2 r.1 r.2.1 r.2.2 k = 0 ∧ μ.1 (r.1 + 600) r.2.1 r.2.2 k = 0)
def jx_sl : List Nat := jm_st.map List.length
/-- what holds of the tables and of what lies outside, at a state -/
def jx_T (G : jx_G) (L : Nat) (xs : Nat → Int32) (U : State) : Prop :=
  va_K G.1 vwCl (jx_tys G) U ∧ va_Z "java/lang/String" "COMPACT_STRINGS" "Z" (.int 1) (jx_A G) U U.heap ∧ va_Z "jdk/internal/util/Preconditions" "SIOOBE_FORMATTER" "Ljava/util/function/BiFunction;" G.2.2.2.2.2.1 (jx_A G) U U.heap ∧
  vk_S 3 jx_sl jm_st G.2.2.2.1 G.2.2.2.2.1 (jx_A G) U U.heap ∧
  (vk_R "WornWords$Text" 95 "meaning word means speaker soft if drop or and not shared begins ends has vowel size said day idle first last hard middle none " (G.2.2.2.1 0) U ∧ vk_R "WornWords$Text" 74 ";<>=()" (G.2.2.2.1 1) U ∧ vk_R "WornWordsModel" 184 " meaning word speaker soft means if drop or and not shared begins ends has size said day idle first last hard middle none vowel " (G.2.2.2.1 2) U) ∧
  (va_X G.2.2.2.2.2.2 L xs U U.heap ∧ G.2.2.2.2.2.2 < jx_B G) ∧
  (∀ q ∈ [("WornWords$Village", 19, yX2_init), ("WornWords$Village", 24, yX10_init), ("WornWords$Stories", 52, yX10_init), ("WornWords", 67, yX1_init), ("WornWords", 74, yX0_init), ("WornWords", 109, yX7_init)], va_Nw (.methodLinkNest q.1 q.2.1 q.2.2 "WornWords") U) ∧
  (va_AO RX7 U ∧ va_AO RX8 U ∧ va_AO RX10 U) ∧ (G.2.2.2.2.2.1 = .null ∨ ∃ a, G.2.2.2.2.2.1 = .ref a)
/-- it holds at a later state too, whose heap outside is the same -/
theorem jx_T.on {G : jx_G} {L : Nat} {xs : Nat → Int32} {s U : State} (h : jx_T G L xs s) (hB : jx_B G ≤ s.heap.size) (hW : s.WarmedH U.vm) (hq : ∀ q : Nat, q < s.heap.size → ¬ jx_A G q → U.heap[q]? = s.heap[q]?) : jx_T G L xs U := by
  obtain ⟨h1, h2, h3, h4, ⟨h5, h6, h7⟩, ⟨h8, h9⟩, h10, ⟨h11, h12, h13⟩, h14⟩ := h
  have ha := hW.alike
  refine ⟨va_K.moved ha h1, (va_Z.moved ha h2).kept hq, (va_Z.moved ha h3).kept hq, (vk_S.moved ha h4).kept hq, ⟨h5.warm hW, h6.warm hW, h7.warm hW⟩, ⟨(va_X.moved ha h8).kept (hq _ (Nat.lt_of_lt_of_le h9 hB) (Nat.not_le.mpr h9)), h9⟩, fun q hm => (h10 q hm).warmM hW, ⟨h11.moved ha, h12.moved ha, h13.moved ha⟩, h14⟩
def jx_sv (G : jx_G) : Prop := G.2.2.2.2.2.1 = .null ∨ ∃ a, G.2.2.2.2.2.1 = .ref a
theorem jx_ad_cases {G : jx_G} (hs : jx_sv G) (r : jm_Rf) : jx_ad G r = .null ∨ ∃ a, jx_ad G r = .ref a := by
  unfold jx_ad
  split
  · exact Or.inr ⟨_, rfl⟩
  split
  · exact Or.inr ⟨_, rfl⟩
  split
  · exact hs
  split
  · exact Or.inr ⟨_, rfl⟩
  · exact Or.inr ⟨_, rfl⟩
theorem jx_ad_cat {G : jx_G} (hs : jx_sv G) (r : jm_Rf) : (jx_ad G r).category = 1 := by
  rcases jx_ad_cases hs r with h | ⟨a, h⟩ <;> rw [h] <;> rfl
def jx_lv (G : jx_G) (ls : List jm_V) (LS : Array Slot) (i : Nat) : jm_V → Prop
  | .inl x => LS[i]? = some (.val (.int x))
  | .inr (.inl y) => ls[i + 1]? = some jm_j → LS[i]? = some (.val (.long y))
  | .inr (.inr (.inl r)) => LS[i]? = some (.val (jx_ad G r))
  | .inr (.inr (.inr _)) => True
def jx_ls (G : jx_G) (nL : Nat) (ls : List jm_V) (LS : Array Slot) : Prop := ls.length = nL ∧ LS.size = nL ∧ lv_wf LS ∧ ∀ i v, ls[i]? = some v → jx_lv G ls LS i v
/-- the locals' known values, as the kit lists them -/
def jx_kn (G : jx_G) (ls : List jm_V) : List (Nat × Value) := (List.range ls.length).filterMap (fun i => match jm_g ls i with
  | .inl x => some (i, .int x)
  | .inr (.inl y) => if ls[i + 1]? = some jm_j then some (i, .long y) else none
  | .inr (.inr (.inl r)) => some (i, jx_ad G r)
  | .inr (.inr (.inr _)) => none)
theorem jx_g_some {ls : List jm_V} {i : Nat} {v : jm_V} (h : ls[i]? = some v) : jm_g ls i = v := by simp [jm_g, List.getD, h]
theorem jx_g_get {ls : List jm_V} {i : Nat} {v : jm_V} (h : jm_g ls i = v) (hv : v ≠ jm_j) : ls[i]? = some v := by
  cases h1 : ls[i]? with
  | none => simp [jm_g, List.getD, h1] at h; exact absurd h.symm hv
  | some w => rw [jx_g_some h1] at h; rw [h]
theorem jx_kn_mem {G : jx_G} {ls : List jm_V} {q : Nat × Value} (h : q ∈ jx_kn G ls) : (∃ x, ls[q.1]? = some (.inl x) ∧ q.2 = .int x) ∨ (∃ y, ls[q.1]? = some (.inr (.inl y)) ∧ ls[q.1 + 1]? = some jm_j ∧ q.2 = .long y) ∨ ∃ r, ls[q.1]? = some (.inr (.inr (.inl r))) ∧ q.2 = jx_ad G r := by
  obtain ⟨i, hi, he⟩ := List.mem_filterMap.mp h
  have hl : i < ls.length := List.mem_range.mp hi
  have hg : ls[i]? = some (jm_g ls i) := by simp [jm_g, List.getD, List.getElem?_eq_getElem hl]
  generalize jm_g ls i = v at he hg
  rcases v with x | y | r | u
  · dsimp only at he; cases he; exact Or.inl ⟨x, hg, rfl⟩
  · dsimp only at he
    by_cases hj : ls[i + 1]? = some jm_j
    · rw [if_pos hj] at he; cases he; exact Or.inr (Or.inl ⟨y, hg, hj, rfl⟩)
    · rw [if_neg hj] at he; cases he
  · dsimp only at he; cases he; exact Or.inr (Or.inr ⟨r, hg, rfl⟩)
  · cases he
theorem jx_ls_has {G : jx_G} {nL : Nat} {ls : List jm_V} {LS : Array Slot} (h : jx_ls G nL ls LS) : lv_has LS nL (jx_kn G ls) := by
  refine ⟨h.2.1, h.2.2.1, fun q hq => ?_⟩
  rcases jx_kn_mem hq with ⟨x, h1, h2⟩ | ⟨y, h1, h3, h2⟩ | ⟨r, h1, h2⟩
  · rw [h2]; exact h.2.2.2 _ _ h1
  · rw [h2]; exact h.2.2.2 _ _ h1 h3
  · rw [h2]; exact h.2.2.2 _ _ h1
theorem jx_kn_int {G : jx_G} {ls : List jm_V} {i : Nat} {x : Int32} (h : ls[i]? = some (.inl x)) : (i, Value.int x) ∈ jx_kn G ls := by
  refine List.mem_filterMap.mpr ⟨i, List.mem_range.mpr (List.getElem?_eq_some_iff.mp h).1, ?_⟩
  rw [jx_g_some h]
theorem jx_kn_long {G : jx_G} {ls : List jm_V} {i : Nat} {x : Int64} (h : ls[i]? = some (.inr (.inl x))) (h2 : ls[i + 1]? = some jm_j) : (i, Value.long x) ∈ jx_kn G ls := by
  refine List.mem_filterMap.mpr ⟨i, List.mem_range.mpr (List.getElem?_eq_some_iff.mp h).1, ?_⟩
  rw [jx_g_some h]
  simp only [h2, if_true]
theorem jx_kn_ref {G : jx_G} {ls : List jm_V} {i : Nat} {r : jm_Rf} (h : ls[i]? = some (.inr (.inr (.inl r)))) : (i, jx_ad G r) ∈ jx_kn G ls := by
  refine List.mem_filterMap.mpr ⟨i, List.mem_range.mpr (List.getElem?_eq_some_iff.mp h).1, ?_⟩
  rw [jx_g_some h]
/-- behind a store of one slot -/
theorem jx_ls_1 {G : jx_G} (hs : jx_sv G) {nL : Nat} {ls : List jm_V} {LS LS' : Array Slot} {i : Nat} {v : jm_V} {w : Value} (h : jx_ls G nL ls LS) (hi : i < nL) (hv : (∃ x, v = .inl x ∧ w = .int x) ∨ ∃ r, v = .inr (.inr (.inl r)) ∧ w = jx_ad G r) (h' : lv_has LS' nL ((i, w) :: (jx_kn G ls).filter (fun q => !(q.1 == i) && !(q.1 + 1 == i && q.2.category == 2)))) : jx_ls G nL (jm_l1 ls i v) LS' := by
  obtain ⟨g1, g2, g3⟩ := h'
  have hl : i < ls.length := by rw [h.1]; exact hi
  have hset : ∀ j, j ≠ i → (jm_l1 ls i v)[j]? = ls[j]? := fun j hj => by unfold jm_l1; rw [List.getElem?_set_ne (Ne.symm hj)]
  have hself : (jm_l1 ls i v)[i]? = some v := by unfold jm_l1; rw [List.getElem?_set_self hl]
  have keep : ∀ q : Nat × Value, q ∈ jx_kn G ls → q.1 ≠ i → ¬ (q.1 + 1 = i ∧ q.2.category = 2) → LS'[q.1]? = some (.val q.2) := by
    intro q hq h1 h2
    refine g3 q (List.mem_cons_of_mem _ (List.mem_filter.mpr ⟨hq, ?_⟩))
    simp only [Bool.and_eq_true, Bool.not_eq_true', beq_eq_false_iff_ne, ne_eq, Bool.and_eq_false_iff, h1, not_false_iff, true_and]
    by_cases h3 : q.1 + 1 = i
    · exact Or.inr (fun h4 => h2 ⟨h3, h4⟩)
    · exact Or.inl h3
  refine ⟨by unfold jm_l1; rw [List.length_set]; exact h.1, g1, g2, fun j u hj => ?_⟩
  by_cases hji : j = i
  · subst hji
    rw [hself] at hj
    cases hj
    have := g3 (j, w) List.mem_cons_self
    rcases hv with ⟨x, rfl, rfl⟩ | ⟨r, rfl, rfl⟩
    · exact this
    · exact this
  · rw [hset j hji] at hj
    rcases u with x | y | r | z
    · exact keep (j, .int x) (jx_kn_int hj) hji (fun q => by have := q.2; cases this)
    · intro h4
      have h5 : j + 1 ≠ i := by
        intro e
        rw [e, hself] at h4
        rcases hv with ⟨x, rfl, rfl⟩ | ⟨r, rfl, rfl⟩ <;> cases h4
      rw [hset _ h5] at h4
      exact keep (j, .long y) (jx_kn_long hj h4) hji (fun q => h5 q.1)
    · exact keep (j, jx_ad G r) (jx_kn_ref hj) hji (fun q => by have := q.2; rw [jx_ad_cat hs] at this; cases this)
    · trivial
/-- behind a store of two slots -/
theorem jx_ls_2 {G : jx_G} (hs : jx_sv G) {nL : Nat} {ls : List jm_V} {LS LS' : Array Slot} {i : Nat} {x : Int64} (h : jx_ls G nL ls LS) (hi : i + 1 < nL) (h' : lv_has LS' nL ((i, .long x) :: (jx_kn G ls).filter (fun q => !(q.1 == i) && (!(q.1 == i + 1) && !(q.1 + 1 == i && q.2.category == 2))))) : jx_ls G nL (jm_l2 ls i (.inr (.inl x))) LS' := by
  obtain ⟨g1, g2, g3⟩ := h'
  have hl : i + 1 < ls.length := by rw [h.1]; exact hi
  have hset : ∀ j, j ≠ i → j ≠ i + 1 → (jm_l2 ls i (.inr (.inl x)))[j]? = ls[j]? := fun j hj hj2 => by unfold jm_l2; rw [List.getElem?_set_ne (Ne.symm hj2), List.getElem?_set_ne (Ne.symm hj)]
  have hself : (jm_l2 ls i (.inr (.inl x)))[i]? = some (.inr (.inl x)) := by unfold jm_l2; rw [List.getElem?_set_ne (by omega), List.getElem?_set_self (by omega)]
  have hnext : (jm_l2 ls i (.inr (.inl x)))[i + 1]? = some jm_j := by unfold jm_l2; rw [List.getElem?_set_self (by rw [List.length_set]; exact hl)]
  have keep : ∀ q : Nat × Value, q ∈ jx_kn G ls → q.1 ≠ i → q.1 ≠ i + 1 → ¬ (q.1 + 1 = i ∧ q.2.category = 2) → LS'[q.1]? = some (.val q.2) := by
    intro q hq h1 h1' h2
    refine g3 q (List.mem_cons_of_mem _ (List.mem_filter.mpr ⟨hq, ?_⟩))
    simp only [Bool.and_eq_true, Bool.not_eq_true', beq_eq_false_iff_ne, ne_eq, Bool.and_eq_false_iff, h1, h1', not_false_iff, true_and]
    by_cases h3 : q.1 + 1 = i
    · exact Or.inr (fun h4 => h2 ⟨h3, h4⟩)
    · exact Or.inl h3
  refine ⟨by unfold jm_l2; rw [List.length_set, List.length_set]; exact h.1, g1, g2, fun j u hj => ?_⟩
  by_cases hji : j = i
  · subst hji
    rw [hself] at hj
    cases hj
    intro _
    exact g3 (j, .long x) List.mem_cons_self
  by_cases hjn : j = i + 1
  · subst hjn
    rw [hnext] at hj
    cases hj
    trivial
  · rw [hset j hji hjn] at hj
    rcases u with a | y | r | z
    · exact keep (j, .int a) (jx_kn_int hj) hji hjn (fun q => by have := q.2; cases this)
    · intro h4
      have h5 : j + 1 ≠ i := by
        intro e
        rw [e, hself] at h4
        cases h4
      rw [hset _ h5 (by omega)] at h4
      exact keep (j, .long y) (jx_kn_long hj h4) hji hjn (fun q => h5 q.1)
    · exact keep (j, jx_ad G r) (jx_kn_ref hj) hji hjn (fun q => by have := q.2; rw [jx_ad_cat hs] at this; cases this)
    · trivial
