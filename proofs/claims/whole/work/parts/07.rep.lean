/-! ===== the small machine's memory in the machine's heap ===== -/
def jx_ft : List (List Nat) := [[0, 0, 0, 0, 0, 0], [3, 3, 3, 3, 0], [3, 3, 3, 3, 0, 0, 1], [3, 0], [3, 0, 3, 3, 3, 3, 3, 3, 3, 3, 0, 0], [3, 0, 0, 0, 0, 0, 2, 0, 0, 0], [3, 0, 0], [3, 3, 3, 0, 0, 0, 0, 3, 3, 3], [3, 3, 3, 1], [2, 0, 0, 0, 0, 1, 2, 0, 2, 0], [3, 3, 3, 3, 3, 3, 3, 3, 3, 3, 3, 3, 0, 0, 0, 0, 0, 1, 2, 2], [3, 3, 0, 2, 2, 3, 3, 3, 3, 3, 0, 0, 0, 0, 0, 0, 0, 0, 0, 0, 3, 0, 0, 0, 0, 3, 0, 3, 0, 3, 3, 3, 3, 3, 0, 0, 0, 0, 3, 3, 3, 0, 0, 0, 0, 3, 1, 0]]
def jx_N (c : Nat) : Nat := (jx_ft.getD c []).length
def jx_ty (c k : Nat) : Nat := (jx_ft.getD c []).getD k 7
def jm_pos (r : jm_Rf) : Nat := jm_nm.idxOf r
def jm_cnt (md : Bool) (μ : jm_M) : Nat := bif md then (μ.1 500 0 0 0).toNatClampNeg else 179
def jx_w (md : Bool) (μ : jm_M) (r : jm_Rf) (k : Nat) : Bool := bif md then decide (μ.1 (r.1 + 600) r.2.1 r.2.2 k = 1) else true
/-- classes and slots, array classes, the first cell's address, the String constants' addresses and their bytes', the formatter, the script -/
abbrev jx_G : Type := va_G × (Nat → ClassId) × Nat × (Nat → Nat) × (Nat → Nat) × Value × Nat
abbrev jx_B (G : jx_G) : Nat := G.2.2.1
def jx_A (G : jx_G) : Nat → Prop := fun q => jx_B G ≤ q
def jx_ad (G : jx_G) (r : jm_Rf) : Value := if r.1 = 60 then .ref (G.2.2.2.1 r.2.1) else if r.1 = 61 then .ref (G.2.2.2.2.1 r.2.1) else if r.1 = 62 then G.2.2.2.2.2.1 else if r.1 = 70 then .ref G.2.2.2.2.2.2 else .ref (jx_B G + jm_pos r)
def jx_v (G : jx_G) : jm_V → Value
  | .inl x => .int x
  | .inr (.inl y) => .long y
  | .inr (.inr (.inl r)) => jx_ad G r
  | .inr (.inr (.inr _)) => .null
def jx_fv (G : jx_G) (md : Bool) (μ : jm_M) (r : jm_Rf) (ty k : Nat) : Value := match ty with
  | 0 => .int (μ.1 r.1 r.2.1 r.2.2 k)
  | 1 => .int (μ.1 r.1 r.2.1 r.2.2 k &&& 1)
  | 2 => .long (μ.2 r.1 r.2.1 r.2.2 k)
  | _ => if jx_w md μ r k = true then .ref (jx_B G + jm_pos (jm_R r.1 r.2.1 r.2.2 k)) else .null
def jx_ct (G : jx_G) (md : Bool) (μ : jm_M) (r : jm_Rf) : va_E := match jm_kat r.1 with
  | 0 => .inl (G.2.1 0, jm_kln r.1, .inl (μ.1 r.1 r.2.1 r.2.2))
  | 1 => .inl (G.2.1 1, jm_kln r.1, .inr (.inl (μ.2 r.1 r.2.1 r.2.2)))
  | 2 => .inl (G.2.1 2, jm_kln r.1, .inl (μ.1 r.1 r.2.1 r.2.2))
  | 3 => .inl (G.2.1 3, jm_kln r.1, .inl (μ.1 r.1 r.2.1 r.2.2))
  | 4 => .inl (G.2.1 (4 + jm_kel r.1), jm_kln r.1, .inr (.inr (.inr (.inr (fun k => if jx_w md μ r k = true then some (jx_B G + jm_pos (jm_R r.1 r.2.1 r.2.2 k)) else none)))))
  | _ => .inr (jm_kcl r.1, (List.range (jx_N (jm_kcl r.1))).map (fun k => jx_fv G md μ r (jx_ty (jm_kcl r.1) k) k))
def jx_ws (G : jx_G) (md : Bool) (μ : jm_M) : va_W := (List.range (jm_cnt md μ)).map (fun n => (jx_B G + n, jx_ct G md μ (jm_nm.getD n (99, 0, 0))))
def jx_tys (G : jx_G) : List (ClassId × FieldType) := [(G.2.1 0, .int), (G.2.1 1, .long), (G.2.1 2, .byte), (G.2.1 3, .boolean), (G.2.1 10, .object RX7), (G.2.1 11, .object RX8), (G.2.1 13, .object RX10)]
/-- a cell of ours that is made -/
def jx_in (md : Bool) (μ : jm_M) (r : jm_Rf) : Prop := ∃ n, n < jm_cnt md μ ∧ jm_nm[n]? = some r
def jx_ok (md : Bool) (μ : jm_M) (r : jm_Rf) : Prop := jx_in md μ r ∨ (r.1 = 60 ∧ r.2.1 < 3) ∨ (r.1 = 61 ∧ r.2.1 < 3) ∨ r.1 = 62 ∨ r = (70, 0, 0)
def jx_okv (md : Bool) (μ : jm_M) : jm_V → Prop
  | .inr (.inr (.inl r)) => jx_ok md μ r
  | _ => True
/-- a slot that holds a reference -/
def jx_rs (r : jm_Rf) (k : Nat) : Prop := (jm_kat r.1 = 4 ∧ k < jm_kln r.1) ∨ (jm_kat r.1 = 9 ∧ jx_ty (jm_kcl r.1) k = 3)
def jx_H (G : jx_G) (md : Bool) (μ : jm_M) (H : Heap) : Prop :=
  H.size = jx_B G + jm_cnt md μ ∧ jm_cnt md μ ≤ 179 ∧ va_P G.1 vwCl (jx_ws G md μ) H ∧ (∀ r k, jx_in md μ r → jx_rs r k → jx_w md μ r k = true → jx_in md μ (jm_R r.1 r.2.1 r.2.2 k)) ∧
  (md = true → ∀ n r, jm_cnt md μ ≤ n → jm_nm[n]? = some r → ∀ k, μ.1 r.1 r.2.1 r.2.2 k = 0 ∧ μ.2 r.1 r.2.1 r.2.2 k = 0 ∧ μ.1 (r.1 + 600) r.2.1 r.2.2 k = 0)
theorem jx_nm_len : jm_nm.length = 179 := by decide +kernel
theorem jx_nm_kd : ∀ r ∈ jm_nm, r.1 < 60 := by decide +kernel
theorem jx_pos_all : ∀ n, n < 179 → jm_pos (jm_nm.getD n (99, 0, 0)) = n := by decide +kernel
theorem jx_getD {n : Nat} {r : jm_Rf} (h : jm_nm[n]? = some r) : jm_nm.getD n (99, 0, 0) = r := by simp [List.getD, h]
theorem jx_lt {n : Nat} {r : jm_Rf} (h : jm_nm[n]? = some r) : n < 179 := by
  have := (List.getElem?_eq_some_iff.mp h).1
  rwa [jx_nm_len] at this
theorem jx_pos {n : Nat} {r : jm_Rf} (h : jm_nm[n]? = some r) : jm_pos r = n := by
  rw [← jx_getD h]
  exact jx_pos_all n (jx_lt h)
theorem jx_k60 {n : Nat} {r : jm_Rf} (h : jm_nm[n]? = some r) : r.1 < 60 := jx_nm_kd r (List.mem_of_getElem? h)
theorem jx_adr {G : jx_G} {n : Nat} {r : jm_Rf} (h : jm_nm[n]? = some r) : jx_ad G r = .ref (jx_B G + n) := by
  have h1 := jx_k60 h
  unfold jx_ad
  rw [if_neg (by omega), if_neg (by omega), if_neg (by omega), if_neg (by omega), jx_pos h]
theorem jx_cnt_le {md : Bool} {μ : jm_M} {n : Nat} {r : jm_Rf} (h : n < jm_cnt md μ) (hr : jm_nm[n]? = some r) : n < jm_nm.length := (List.getElem?_eq_some_iff.mp hr).1
theorem jx_ws_get {G : jx_G} {md : Bool} {μ : jm_M} {n : Nat} {r : jm_Rf} (hn : n < jm_cnt md μ) (hr : jm_nm[n]? = some r) : (jx_ws G md μ)[n]? = some (jx_B G + n, jx_ct G md μ r) := by
  unfold jx_ws
  rw [List.getElem?_map, List.getElem?_range hn]
  simp only [Option.map_some, jx_getD hr]
theorem jx_va_D (G : jx_G) (md : Bool) (μ : jm_M) : va_D (jx_A G) (jx_ws G md μ) := by
  have key : ∀ (k : Nat) (q : Nat × va_E), (jx_ws G md μ)[k]? = some q → q.1 = jx_B G + k := by
    intro k q h
    unfold jx_ws at h
    rw [List.getElem?_map] at h
    cases hk : (List.range (jm_cnt md μ))[k]? with
    | none => rw [hk] at h; cases h
    | some n =>
      rw [hk] at h
      have : n = k := by
        have := List.getElem?_eq_some_iff.mp hk
        obtain ⟨h1, h2⟩ := this
        rw [List.getElem_range] at h2
        exact h2.symm
      cases h
      rw [this]
  refine ⟨fun i j p q hi hj h => ?_, fun k q h => ?_⟩
  · have h1 := key i p hi
    have h2 := key j q hj
    omega
  · show jx_B G ≤ q.1
    rw [key k q h]
    omega
/-- what a cell holds depends on its own slots alone -/
theorem jx_ct_congr {G : jx_G} {md : Bool} {μ μ' : jm_M} {r : jm_Rf} (h1 : μ'.1 r.1 r.2.1 r.2.2 = μ.1 r.1 r.2.1 r.2.2) (h2 : μ'.2 r.1 r.2.1 r.2.2 = μ.2 r.1 r.2.1 r.2.2) (h3 : μ'.1 (r.1 + 600) r.2.1 r.2.2 = μ.1 (r.1 + 600) r.2.1 r.2.2) : jx_ct G md μ' r = jx_ct G md μ r := by
  have hw : ∀ k, jx_w md μ' r k = jx_w md μ r k := fun k => by unfold jx_w; rw [h3]
  have hf : ∀ ty k, jx_fv G md μ' r ty k = jx_fv G md μ r ty k := fun ty k => by unfold jx_fv; rw [h1, h2, hw]
  unfold jx_ct
  simp only [h1, h2, hw, hf]
theorem jx_uI_ne {f : jm_MI} {K i j k : Nat} {x : Int32} {K' i' j' : Nat} (h : ¬ (K' = K ∧ i' = i ∧ j' = j)) : jm_uI f K i j k x K' i' j' = f K' i' j' := by
  funext k'
  unfold jm_uI
  by_cases hK : K' = K
  · rw [if_pos hK, if_neg (fun q => h ⟨hK, q.1, q.2.1⟩), hK]
  · rw [if_neg hK]
theorem jx_uL_ne {f : jm_ML} {K i j k : Nat} {x : Int64} {K' i' j' : Nat} (h : ¬ (K' = K ∧ i' = i ∧ j' = j)) : jm_uL f K i j k x K' i' j' = f K' i' j' := by
  funext k'
  unfold jm_uL
  by_cases hK : K' = K
  · rw [if_pos hK, if_neg (fun q => h ⟨hK, q.1, q.2.1⟩), hK]
  · rw [if_neg hK]
theorem jx_uI_at (f : jm_MI) (K i j k : Nat) (x : Int32) : jm_uI f K i j k x K i j = upd (f K i j) k x := by
  funext k'
  simp [jm_uI, upd]
theorem jx_uL_at (f : jm_ML) (K i j k : Nat) (x : Int64) : jm_uL f K i j k x K i j = vp_updL (f K i j) k x := by
  funext k'
  simp [jm_uL, vp_updL]
/-- a memory that has changed at one cell of ours: the world with that cell changed -/
theorem jx_ws_set {G : jx_G} {md : Bool} {μ μ' : jm_M} {n : Nat} {r : jm_Rf} (hcl : jm_cnt md μ ≤ 179) (hr : jm_nm[n]? = some r) (hc : jm_cnt md μ' = jm_cnt md μ) (ho : ∀ n' r', jm_nm[n']? = some r' → n' ≠ n → jx_ct G md μ' r' = jx_ct G md μ r') : jx_ws G md μ' = (jx_ws G md μ).set n (jx_B G + n, jx_ct G md μ' r) := by
  apply List.ext_getElem?
  intro q
  unfold jx_ws
  rw [hc, List.getElem?_set]
  simp only [List.length_map, List.length_range]
  by_cases hq : n = q
  · subst hq
    rw [if_pos rfl]
    by_cases hl : n < jm_cnt md μ
    · rw [if_pos hl, List.getElem?_map, List.getElem?_range hl]
      simp only [Option.map_some, jx_getD hr]
    · rw [if_neg hl, List.getElem?_map, List.getElem?_eq_none (by simp; omega)]
      rfl
  · rw [if_neg hq, List.getElem?_map, List.getElem?_map]
    by_cases hl : q < jm_cnt md μ
    · rw [List.getElem?_range hl]
      simp only [Option.map_some]
      cases hr' : jm_nm[q]? with
      | none =>
        have e := List.getElem?_eq_none_iff.mp hr'
        rw [jx_nm_len] at e
        omega
      | some r' => rw [jx_getD hr', ho q r' hr' (fun e => hq e.symm)]
    · rw [List.getElem?_eq_none (by simp; omega)]
      rfl
