/-! ===== texts: bytes and TOKENS ===== -/
def by8 (x : Int32) : Nat := x.toBitVec.toNat % 256
theorem by8_lt (x : Int32) : by8 x < 256 := Nat.mod_lt _ (by decide)
theorem by8_eq (x : Int32) : x &&& nI 255 = nI (by8 x) := by
  apply Int32.toBitVec_inj.mp
  apply BitVec.eq_of_toNat_eq
  have h : (nI 255).toBitVec.toNat = 2 ^ 8 - 1 := by decide
  rw [Int32.toBitVec_and, BitVec.toNat_and, h, Nat.and_two_pow_sub_one_eq_mod]
  have h2 : (nI (by8 x)).toBitVec.toNat = by8 x % 2 ^ 32 := by
    show (Int32.ofNat (by8 x)).toBitVec.toNat = _
    rw [Int32.toBitVec_ofNat', BitVec.toNat_ofNat]
  rw [h2, Nat.mod_eq_of_lt (show by8 x < 2 ^ 32 from Nat.lt_trans (by8_lt x) (by decide))]
  rfl
/-- a text: how many bytes, which -/
abbrev Tb : Type := Nat × (Nat → Nat)
def okT (T : Tb) : Prop := T.1 ≤ 900 ∧ ∀ k, T.2 k < 256
def isSm (c : Nat) : Bool := decide (97 ≤ c ∧ c ≤ 122)
def isDg (c : Nat) : Bool := decide (48 ≤ c ∧ c ≤ 57)
def isBl (c : Nat) : Bool := decide (c = 10 ∨ c = 32)
def isSg (c : Nat) : Bool := decide (c = 59 ∨ c = 60 ∨ c = 62 ∨ c = 61 ∨ c = 40 ∨ c = 41)
/-- as far as bytes of a kind go -/
def rnT (T : Tb) (P : Nat → Bool) : Nat → Nat → Nat
  | 0, k => k
  | r + 1, k => if k < T.1 ∧ P (T.2 k) = true then rnT T P r (k + 1) else k
theorem rnT_le (T : Tb) (P : Nat → Bool) : ∀ r k, k ≤ rnT T P r k ∧ (k ≤ T.1 → rnT T P r k ≤ T.1) ∧ (∀ q, k ≤ q → q < rnT T P r k → P (T.2 q) = true)
  | 0, k => ⟨Nat.le_refl k, id, fun q h1 h2 => by have h2 : q < k := h2; omega⟩
  | r + 1, k => by
    unfold rnT
    split
    · rename_i c
      obtain ⟨h1, h2, h3⟩ := rnT_le T P r (k + 1)
      refine ⟨by omega, fun _ => h2 (by omega), fun q q1 q2 => ?_⟩
      by_cases e : q = k
      · rw [e]; exact c.2
      · exact h3 q (by omega) q2
    · exact ⟨Nat.le_refl k, id, fun q h1 h2 => by omega⟩
def tkS (T : Tb) (k : Nat) : Nat := rnT T isBl (T.1 - k) k
/-- the kind of a TOKEN: 0 end, 1 WORD, 2 NUMBER, 3 SIGN, 4 none -/
def tkE (T : Tb) (a : Nat) : Nat := if T.1 ≤ a then a else if isSm (T.2 a) then rnT T isSm (T.1 - a) a else if isDg (T.2 a) then rnT T isDg (T.1 - a) a else a + 1
def tkK (T : Tb) (a : Nat) : Nat := if T.1 ≤ a then 0 else if isSm (T.2 a) then 1 else if isDg (T.2 a) then (if tkE T a - a ≤ 4 then 2 else 4) else if isSg (T.2 a) then 3 else 4
def tkL (T : Tb) (a : Nat) : List Nat := (List.range (tkE T a - a)).map (fun i => T.2 (a + i) - 96)
def tkX (T : Tb) (a : Nat) : Nat := tkS T (tkE T a)
def nm (T : Tb) (a : Nat) : Nat → Nat
  | 0 => 0
  | r + 1 => 10 * nm T a r + (T.2 (a + r) - 48)
def tkN (T : Tb) (a : Nat) : Nat := nm T a (tkE T a - a)
def ixOf (ls : List Nat) : List (List Nat) → Nat → Option Nat
  | [], _ => none
  | w :: t, i => if w = ls then some i else ixOf ls t (i + 1)
def keysX : List (List Nat) := [[13, 5, 1, 14, 9, 14, 7], [23, 15, 18, 4], [13, 5, 1, 14, 19], [19, 16, 5, 1, 11, 5, 18], [19, 15, 6, 20], [9, 6], [4, 18, 15, 16], [15, 18], [1, 14, 4], [14, 15, 20], [19, 8, 1, 18, 5, 4], [2, 5, 7, 9, 14, 19], [5, 14, 4, 19], [8, 1, 19], [22, 15, 23, 5, 12], [19, 9, 26, 5], [19, 1, 9, 4], [4, 1, 25], [9, 4, 12, 5], [6, 9, 18, 19, 20], [12, 1, 19, 20], [8, 1, 18, 4], [13, 9, 4, 4, 12, 5], [14, 15, 14, 5]]
def keysM : List (List Nat) := [[13, 5, 1, 14, 9, 14, 7], [23, 15, 18, 4], [19, 16, 5, 1, 11, 5, 18], [19, 15, 6, 20], [13, 5, 1, 14, 19], [9, 6], [4, 18, 15, 16], [15, 18], [1, 14, 4], [14, 15, 20], [19, 8, 1, 18, 5, 4], [2, 5, 7, 9, 14, 19], [5, 14, 4, 19], [8, 1, 19], [19, 9, 26, 5], [19, 1, 9, 4], [4, 1, 25], [9, 4, 12, 5], [6, 9, 18, 19, 20], [12, 1, 19, 20], [8, 1, 18, 4], [13, 9, 4, 4, 12, 5], [14, 15, 14, 5], [22, 15, 23, 5, 12]]
def keyX (ls : List Nat) : Option Nat := ixOf ls keysX 0
def keyM (ls : List Nat) : Option Nat := ixOf ls keysM 0
def pmL : List Nat := [0, 1, 4, 2, 3, 5, 6, 7, 8, 9, 10, 11, 12, 13, 23, 14, 15, 16, 17, 18, 19, 20, 21, 22]
theorem ixOf_some {ls : List Nat} : ∀ (K : List (List Nat)) (i j : Nat), ixOf ls K i = some j → i ≤ j ∧ j < i + K.length ∧ K.getD (j - i) [] = ls
  | [], i, j, h => by cases h
  | w :: t, i, j, h => by
    unfold ixOf at h
    split at h
    · rename_i c
      have := Option.some.inj h
      subst this
      exact ⟨Nat.le_refl _, by rw [List.length_cons]; omega, by rw [Nat.sub_self]; exact c⟩
    · obtain ⟨h1, h2, h3⟩ := ixOf_some t (i + 1) j h
      refine ⟨by omega, by rw [List.length_cons]; omega, ?_⟩
      rw [show j - i = (j - (i + 1)) + 1 by omega]
      exact h3
theorem kx_some {ls : List Nat} {j : Nat} (h : keyX ls = some j) : j < 24 ∧ keysX.getD j [] = ls := by
  obtain ⟨-, h2, h3⟩ := ixOf_some keysX 0 j h
  exact ⟨by have : keysX.length = 24 := rfl; omega, h3⟩
theorem kx_len0 : ∀ j, j < 24 → (keysX.getD j []).length ≤ 8 := by decide +kernel
theorem kx_len {ls : List Nat} {j : Nat} (h : keyX ls = some j) : ls.length ≤ 8 := by
  obtain ⟨h1, h2⟩ := kx_some h
  rw [← h2]
  exact kx_len0 j h1
theorem km_x0 : ∀ j, j < 24 → keyM (keysX.getD j []) = some (pmL.getD j 0) := by decide +kernel
theorem kx_m0 : ∀ j, j < 24 → keyX (keysM.getD j []) ≠ none := by decide +kernel
theorem km_kx (ls : List Nat) : keyM ls = (keyX ls).map (fun j => pmL.getD j 0) := by
  cases h : keyX ls with
  | some j =>
    obtain ⟨h1, h2⟩ := kx_some h
    rw [← h2]
    exact km_x0 j h1
  | none =>
    cases h2 : keyM ls with
    | none => rfl
    | some j =>
      obtain ⟨-, h3, h4⟩ := ixOf_some keysM 0 j h2
      have h3 : j < 24 := by have : keysM.length = 24 := rfl; omega
      have h4 : keysM.getD j [] = ls := h4
      exact absurd (by rw [h4]; exact h) (kx_m0 j h3)
/-- the key of a TOKEN -/
def tkY (T : Tb) (a : Nat) : Option Nat := if tkK T a = 1 then keyX (tkL T a) else none
theorem tkE_ge (T : Tb) (a : Nat) : a ≤ tkE T a := by
  unfold tkE
  split
  · exact Nat.le_refl a
  · split
    · exact (rnT_le T isSm (T.1 - a) a).1
    · split
      · exact (rnT_le T isDg (T.1 - a) a).1
      · omega
theorem tkE_le {T : Tb} {a : Nat} (h : a ≤ T.1) : tkE T a ≤ T.1 := by
  unfold tkE
  split
  · exact h
  · split
    · exact (rnT_le T isSm (T.1 - a) a).2.1 h
    · split
      · exact (rnT_le T isDg (T.1 - a) a).2.1 h
      · omega
theorem rnT_pos {T : Tb} {P : Nat → Bool} {a : Nat} (h : a < T.1) (hp : P (T.2 a) = true) : a < rnT T P (T.1 - a) a := by
  rw [show T.1 - a = (T.1 - a - 1) + 1 by omega]
  unfold rnT
  rw [if_pos ⟨h, hp⟩]
  have := (rnT_le T P (T.1 - a - 1) (a + 1)).1
  omega
theorem tkE_gt {T : Tb} {a : Nat} (h : a < T.1) : a < tkE T a := by
  unfold tkE
  rw [if_neg (by omega)]
  split
  · rename_i c; exact rnT_pos h c
  · split
    · rename_i c; exact rnT_pos h c
    · omega
theorem tkS_le {T : Tb} {k : Nat} (h : k ≤ T.1) : k ≤ tkS T k ∧ tkS T k ≤ T.1 := ⟨(rnT_le T isBl (T.1 - k) k).1, (rnT_le T isBl (T.1 - k) k).2.1 h⟩
theorem tkX_gt {T : Tb} {a : Nat} (h : a < T.1) : a < tkX T a ∧ tkX T a ≤ T.1 := by
  have h1 := tkE_gt h
  have h2 := tkE_le (Nat.le_of_lt h)
  have h3 := tkS_le h2
  exact ⟨by unfold tkX; omega, h3.2⟩
theorem tkX_le {T : Tb} {a : Nat} (h : a ≤ T.1) : tkX T a ≤ T.1 := (tkS_le (tkE_le h)).2
theorem tkK_0 {T : Tb} {a : Nat} : tkK T a = 0 ↔ T.1 ≤ a := by
  unfold tkK
  constructor
  · intro h
    by_cases c : T.1 ≤ a
    · exact c
    · rw [if_neg c] at h
      repeat' split at h
      all_goals omega
  · intro h; rw [if_pos h]
theorem tkK_le (T : Tb) (a : Nat) : tkK T a ≤ 4 := by
  unfold tkK
  repeat' split
  all_goals omega
theorem tkL_len (T : Tb) (a : Nat) : (tkL T a).length = tkE T a - a := by unfold tkL; rw [List.length_map, List.length_range]
theorem tkK_w {T : Tb} {a : Nat} (h : tkK T a = 1) : a < T.1 ∧ isSm (T.2 a) = true ∧ tkE T a = rnT T isSm (T.1 - a) a := by
  unfold tkK at h
  split at h
  · omega
  · rename_i c0
    split at h
    · rename_i c
      refine ⟨by omega, c, ?_⟩
      unfold tkE
      rw [if_neg c0, if_pos c]
    · split at h
      · split at h <;> omega
      · split at h <;> omega
theorem tkL_get {T : Tb} {a k : Nat} (h : k < tkE T a - a) : (tkL T a).getD k 0 = T.2 (a + k) - 96 := by
  unfold tkL
  simp [List.getD, List.getElem?_map, List.getElem?_range h]
theorem tkL_sm {T : Tb} {a k : Nat} (h : tkK T a = 1) (hk : k < tkE T a - a) : 97 ≤ T.2 (a + k) ∧ T.2 (a + k) ≤ 122 := by
  obtain ⟨h1, h2, h3⟩ := tkK_w h
  have := (rnT_le T isSm (T.1 - a) a).2.2 (a + k) (by omega) (by omega)
  exact of_decide_eq_true this
theorem tkL_ok {T : Tb} {a : Nat} (h : tkK T a = 1) : okL (tkL T a) ∧ (∀ c ∈ tkL T a, c ≤ 26) ∧ tkL T a ≠ [] := by
  have key : ∀ c ∈ tkL T a, 1 ≤ c ∧ c ≤ 26 := by
    intro c hc
    unfold tkL at hc
    obtain ⟨i, hi, rfl⟩ := List.mem_map.mp hc
    have := tkL_sm h (List.mem_range.mp hi)
    omega
  refine ⟨fun c hc => ⟨(key c hc).1, by have := (key c hc).2; omega⟩, fun c hc => (key c hc).2, fun z => ?_⟩
  have h1 := tkE_gt (tkK_w h).1
  have h2 := tkL_len T a
  rw [z] at h2
  have h2 : 0 = tkE T a - a := h2
  omega
def rsv : List Nat := [109, 101, 97, 110, 105, 110, 103, 32, 119, 111, 114, 100, 32, 109, 101, 97, 110, 115, 32, 115, 112, 101, 97, 107, 101, 114, 32, 115, 111, 102, 116, 32, 105, 102, 32, 100, 114, 111, 112, 32, 111, 114, 32, 97, 110, 100, 32, 110, 111, 116, 32, 115, 104, 97, 114, 101, 100, 32, 98, 101, 103, 105, 110, 115, 32, 101, 110, 100, 115, 32, 104, 97, 115, 32, 118, 111, 119, 101, 108, 32, 115, 105, 122, 101, 32, 115, 97, 105, 100, 32, 100, 97, 121, 32, 105, 100, 108, 101, 32, 102, 105, 114, 115, 116, 32, 108, 97, 115, 116, 32, 104, 97, 114, 100, 32, 109, 105, 100, 100, 108, 101, 32, 110, 111, 110, 101, 32]
def kst : List Nat := [32, 109, 101, 97, 110, 105, 110, 103, 32, 119, 111, 114, 100, 32, 115, 112, 101, 97, 107, 101, 114, 32, 115, 111, 102, 116, 32, 109, 101, 97, 110, 115, 32, 105, 102, 32, 100, 114, 111, 112, 32, 111, 114, 32, 97, 110, 100, 32, 110, 111, 116, 32, 115, 104, 97, 114, 101, 100, 32, 98, 101, 103, 105, 110, 115, 32, 101, 110, 100, 115, 32, 104, 97, 115, 32, 115, 105, 122, 101, 32, 115, 97, 105, 100, 32, 100, 97, 121, 32, 105, 100, 108, 101, 32, 102, 105, 114, 115, 116, 32, 108, 97, 115, 116, 32, 104, 97, 114, 100, 32, 109, 105, 100, 100, 108, 101, 32, 110, 111, 110, 101, 32, 118, 111, 119, 101, 108, 32]
theorem st_0 : ∀ k, k < 127 → (jm_st.getD 0 []).getD k 0 = nI (rsv.getD k 0) ∧ rsv.getD k 0 < 128 := by decide +kernel
theorem st_2 : ∀ k, k < 128 → (jm_st.getD 2 []).getD k 0 = nI (kst.getD k 0) ∧ kst.getD k 0 < 128 := by decide +kernel
theorem st_len0 : (jm_st.getD 0 []).length = 127 := by decide +kernel
theorem st_len1 : (jm_st.getD 1 []).length = 6 := by decide +kernel
theorem st_len2 : (jm_st.getD 2 []).length = 128 := by decide +kernel
