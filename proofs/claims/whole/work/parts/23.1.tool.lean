/-! ===== tools for the equations ===== -/
theorem jt_dt {p : Prop} (h : p) : jm_dec p = true := @decide_eq_true _ (Classical.propDecidable p) h
theorem jt_df {p : Prop} (h : ¬ p) : jm_dec p = false := @decide_eq_false _ (Classical.propDecidable p) h
theorem jt_c (p : Prop) [inst : Decidable p] : jm_dec p = decide p := by
  by_cases h : p
  · rw [jt_dt h, decide_eq_true h]
  · rw [jt_df h, decide_eq_false h]
theorem jt_in {n N : Nat} (h : n < N) (hN : N < 2 ^ 31) : jm_dec (vp_in (nI n) N) = true := jt_dt (vp_in_nI h hN)
theorem jt_ix {n : Nat} (h : n < 2 ^ 31) : jm_ix (nI n) = n := nI_clamp h
theorem jt_bi (x : Int32) (m : jm_M) (f : Int32 → jm_M → Option (jm_V × jm_M)) : jm_bi (some (.inl x, m)) f = f x m := rfl
theorem jt_bl (x : Int64) (m : jm_M) (f : Int64 → jm_M → Option (jm_V × jm_M)) : jm_bl (some (.inr (.inl x), m)) f = f x m := rfl
theorem jt_bv (v : jm_V) (m : jm_M) (f : jm_M → Option (jm_V × jm_M)) : jm_bv (some (v, m)) f = f m := rfl
theorem jt_lt (x : jm_M) (f : jm_M → Option (jm_V × jm_M)) : jm_lt x f = f x := rfl
theorem jt_II (m : jm_M) (K i j k : Nat) (x : Int32) (K' i' j' k' : Nat) : (jm_uI m.1 K i j k x) K' i' j' k' = if K' = K ∧ i' = i ∧ j' = j ∧ k' = k then x else m.1 K' i' j' k' := by
  unfold jm_uI
  by_cases h : K' = K
  · rw [if_pos h]
    by_cases h2 : i' = i ∧ j' = j ∧ k' = k
    · rw [if_pos h2, if_pos ⟨h, h2⟩]
    · rw [if_neg h2, if_neg (fun z => h2 z.2), h]
  · rw [if_neg h, if_neg (fun z => h z.1)]
theorem jt_LL (m : jm_M) (K i j k : Nat) (x : Int64) (K' i' j' k' : Nat) : (jm_uL m.2 K i j k x) K' i' j' k' = if K' = K ∧ i' = i ∧ j' = j ∧ k' = k then x else m.2 K' i' j' k' := by
  unfold jm_uL
  by_cases h : K' = K
  · rw [if_pos h]
    by_cases h2 : i' = i ∧ j' = j ∧ k' = k
    · rw [if_pos h2, if_pos ⟨h, h2⟩]
    · rw [if_neg h2, if_neg (fun z => h2 z.2), h]
  · rw [if_neg h, if_neg (fun z => h z.1)]
/-- an Int32 is below 0, or at least N, or a small number -/
theorem jt_ix3 (x : Int32) {n : Nat} (hn : n < 2 ^ 31) : x < 0 ∨ nI n ≤ x ∨ ∃ j : Nat, j < n ∧ x = nI j := pk_ix x hn
theorem jt_ev_of {d : Nat} {cls rt : Nat} {cd : jm_Cd} {pc : Nat} {ls st : List jm_V} {m : jm_M} {t : Option (jm_V × jm_M)} (h : jm_ev false d cls rt cd pc ls st m = t) : jm_ev false d cls rt cd pc ls st m = t := h
abbrev vX : jm_V := .inr (.inr (.inl (0, 0, 0)))
abbrev vM : jm_V := .inr (.inr (.inl (40, 0, 0)))
/-! ===== which cells the two objects reach ===== -/
def jf_X (r : jm_Rf) : Prop := r.1 < 40 ∨ 60 ≤ r.1
def jf_M (r : jm_Rf) : Prop := 40 ≤ r.1
theorem jr_fst {P : Nat → Prop} {l : List jm_Rf} {fs : List Nat} (h : l.map (fun r => r.1) = fs) (hp : ∀ x ∈ fs, P x) (hd : P 99) (k : Nat) : P (l.getD k (99, 0, 0)).1 := by
  unfold List.getD
  cases hk : l[k]? with
  | none => exact hd
  | some r =>
    refine hp r.1 ?_
    rw [← h]
    exact List.mem_map.mpr ⟨r, List.mem_of_getElem? hk, rfl⟩
theorem jr_out {K : Nat} (h : 62 ≤ K) (i j k : Nat) : jm_R K i j k = (99, 0, 0) := by
  have hl : jm_Rt.length = 62 := rfl
  unfold jm_R
  rw [show jm_Rt.getD K (fun _ _ _ => (99, 0, 0)) = fun _ _ _ => (99, 0, 0) by simp [List.getD, List.getElem?_eq_none (show jm_Rt.length ≤ K by omega)]]
/-- where a reference leads -/
def jr_ok (K t : Nat) : Prop := (K < 40 → t < 40 ∨ 60 ≤ t) ∧ (40 ≤ K → 40 ≤ t)
theorem jr_all (K i j k : Nat) : jr_ok K (jm_R K i j k).1 := by
  match K with
  | 0 => exact jr_fst (P := jr_ok 0) (fs := [1, 4, 5, 6, 9, 10, 10, 21, 22, 32, 37, 37]) rfl (by unfold jr_ok; decide) (by unfold jr_ok; decide) k
  | 1 => exact (show jr_ok 1 2 from by unfold jr_ok; decide)
  | 2 => exact jr_fst (P := jr_ok 2) (fs := [3]) rfl (by unfold jr_ok; decide) (by unfold jr_ok; decide) k
  | 3 => exact (show jr_ok 3 99 from by unfold jr_ok; decide)
  | 4 => exact (show jr_ok 4 99 from by unfold jr_ok; decide)
  | 5 => exact jr_fst (P := jr_ok 5) (fs := [4]) rfl (by unfold jr_ok; decide) (by unfold jr_ok; decide) k
  | 6 => exact jr_fst (P := jr_ok 6) (fs := [5, 7, 8]) rfl (by unfold jr_ok; decide) (by unfold jr_ok; decide) k
  | 7 => exact (show jr_ok 7 99 from by unfold jr_ok; decide)
  | 8 => exact (show jr_ok 8 99 from by unfold jr_ok; decide)
  | 9 => exact jr_fst (P := jr_ok 9) (fs := [5]) rfl (by unfold jr_ok; decide) (by unfold jr_ok; decide) k
  | 10 => exact jr_fst (P := jr_ok 10) (fs := [11, 13, 12, 99, 99, 99, 99, 18, 19, 20]) rfl (by unfold jr_ok; decide) (by unfold jr_ok; decide) k
  | 11 => exact (show jr_ok 11 12 from by unfold jr_ok; decide)
  | 12 => exact (show jr_ok 12 99 from by unfold jr_ok; decide)
  | 13 => exact jr_fst (P := jr_ok 13) (fs := [14, 15, 16, 17]) rfl (by unfold jr_ok; decide) (by unfold jr_ok; decide) k
  | 14 => exact (show jr_ok 14 99 from by unfold jr_ok; decide)
  | 15 => exact (show jr_ok 15 99 from by unfold jr_ok; decide)
  | 16 => exact (show jr_ok 16 99 from by unfold jr_ok; decide)
  | 17 => exact (show jr_ok 17 99 from by unfold jr_ok; decide)
  | 18 => exact (show jr_ok 18 99 from by unfold jr_ok; decide)
  | 19 => exact (show jr_ok 19 99 from by unfold jr_ok; decide)
  | 20 => exact (show jr_ok 20 99 from by unfold jr_ok; decide)
  | 21 => exact (show jr_ok 21 10 from by unfold jr_ok; decide)
  | 22 => exact jr_fst (P := jr_ok 22) (fs := [23, 99, 24, 25, 26, 27, 28, 29, 30, 31]) rfl (by unfold jr_ok; decide) (by unfold jr_ok; decide) k
  | 23 => exact (show jr_ok 23 99 from by unfold jr_ok; decide)
  | 24 => exact (show jr_ok 24 99 from by unfold jr_ok; decide)
  | 25 => exact (show jr_ok 25 99 from by unfold jr_ok; decide)
  | 26 => exact (show jr_ok 26 99 from by unfold jr_ok; decide)
  | 27 => exact (show jr_ok 27 12 from by unfold jr_ok; decide)
  | 28 => exact (show jr_ok 28 12 from by unfold jr_ok; decide)
  | 29 => exact (show jr_ok 29 99 from by unfold jr_ok; decide)
  | 30 => exact (show jr_ok 30 99 from by unfold jr_ok; decide)
  | 31 => exact (show jr_ok 31 99 from by unfold jr_ok; decide)
  | 32 => exact jr_fst (P := jr_ok 32) (fs := [33, 34, 35, 36]) rfl (by unfold jr_ok; decide) (by unfold jr_ok; decide) k
  | 33 => exact (show jr_ok 33 99 from by unfold jr_ok; decide)
  | 34 => exact (show jr_ok 34 99 from by unfold jr_ok; decide)
  | 35 => exact (show jr_ok 35 99 from by unfold jr_ok; decide)
  | 36 => exact (show jr_ok 36 99 from by unfold jr_ok; decide)
  | 37 => exact (show jr_ok 37 99 from by unfold jr_ok; decide)
  | 38 => exact (show jr_ok 38 99 from by unfold jr_ok; decide)
  | 39 => exact (show jr_ok 39 99 from by unfold jr_ok; decide)
  | 40 => exact jr_fst (P := jr_ok 40) (fs := [41, 42, 99, 99, 99, 43, 44, 45, 46, 47, 99, 99, 99, 99, 99, 99, 99, 99, 99, 99, 48, 99, 99, 99, 99, 49, 99, 50, 99, 51, 52, 53, 54, 55, 99, 99, 99, 99, 56, 57, 58, 99, 99, 99, 99, 59]) rfl (by unfold jr_ok; decide) (by unfold jr_ok; decide) k
  | 41 => exact (show jr_ok 41 99 from by unfold jr_ok; decide)
  | 42 => exact (show jr_ok 42 99 from by unfold jr_ok; decide)
  | 43 => exact (show jr_ok 43 99 from by unfold jr_ok; decide)
  | 44 => exact (show jr_ok 44 99 from by unfold jr_ok; decide)
  | 45 => exact (show jr_ok 45 99 from by unfold jr_ok; decide)
  | 46 => exact (show jr_ok 46 99 from by unfold jr_ok; decide)
  | 47 => exact (show jr_ok 47 99 from by unfold jr_ok; decide)
  | 48 => exact (show jr_ok 48 99 from by unfold jr_ok; decide)
  | 49 => exact (show jr_ok 49 99 from by unfold jr_ok; decide)
  | 50 => exact (show jr_ok 50 99 from by unfold jr_ok; decide)
  | 51 => exact (show jr_ok 51 99 from by unfold jr_ok; decide)
  | 52 => exact (show jr_ok 52 99 from by unfold jr_ok; decide)
  | 53 => exact (show jr_ok 53 99 from by unfold jr_ok; decide)
  | 54 => exact (show jr_ok 54 99 from by unfold jr_ok; decide)
  | 55 => exact (show jr_ok 55 99 from by unfold jr_ok; decide)
  | 56 => exact (show jr_ok 56 99 from by unfold jr_ok; decide)
  | 57 => exact (show jr_ok 57 99 from by unfold jr_ok; decide)
  | 58 => exact (show jr_ok 58 99 from by unfold jr_ok; decide)
  | 59 => exact (show jr_ok 59 99 from by unfold jr_ok; decide)
  | 60 => exact (show jr_ok 60 61 from by unfold jr_ok; decide)
  | 61 => exact (show jr_ok 61 99 from by unfold jr_ok; decide)
  | K + 62 => rw [jr_out (by omega)]; exact ⟨fun h => by omega, fun _ => by omega⟩
theorem jf_X_S : jf_S jf_X := by
  refine ⟨fun r hr k => ?_, fun i => ⟨Or.inr (Nat.le_refl 60), Or.inr (by decide)⟩⟩
  have h := jr_all r.1 r.2.1 r.2.2 k
  rcases hr with z | z
  · exact h.1 z
  · have h61 : r.1 = 60 ∨ r.1 = 61 ∨ 62 ≤ r.1 := by omega
    rcases h61 with y | y | y
    · rw [y]; exact Or.inr (by show 60 ≤ 61; decide)
    · rw [y]; exact Or.inr (by show 60 ≤ 99; decide)
    · rw [jr_out y]; exact Or.inr (by show 60 ≤ 99; decide)
theorem jf_M_S : jf_S jf_M := ⟨fun r hr k => (jr_all r.1 r.2.1 r.2.2 k).2 hr, fun i => ⟨by show 40 ≤ 60; decide, by show 40 ≤ 62; decide⟩⟩
