/-! ===== a step keeps the script and the cells; what a method answers has its type's shape ===== -/
def jx_ale (md : Bool) (rt : Nat) (μ : jm_M) : Option jm_A → Prop
  | none => True
  | some (.inl (b, s1, s2)) => (b = true → ∀ s, s1 = some s → jx_le md μ s.2.2.2) ∧ (b = false → ∀ s, s2 = some s → jx_le md μ s.2.2.2)
  | some (.inr (.inl (_, _, _, _, _, μ1))) => jx_le md μ μ1
  | some (.inr (.inr (.inl (_, _, _, _, _, _, μ1)))) => jx_le md μ μ1
  | some (.inr (.inr (.inr (_, r, μ1)))) => jx_le md μ μ1 ∧ (rt = 0 → r = jm_j)
section JXL
variable {md : Bool} {rt : Nat} {μ μ1 : jm_M} {pc pc2 : Nat} {ls st : List jm_V}
theorem jx_ale_go (h : jx_le md μ μ1) : jx_ale md rt μ (jm_go pc ls st μ1) := ⟨fun _ s hs => (by cases hs; exact h), fun hb => by cases hb⟩
theorem jx_ale_gd {b : Bool} (h : b = true → jx_le md μ μ1) : jx_ale md rt μ (jm_gd b pc ls st μ1) := ⟨fun hb s hs => (by cases hs; exact h hb), fun _ s hs => by cases hs⟩
theorem jx_ale_bc {b : Bool} (h : jx_le md μ μ1) : jx_ale md rt μ (jm_bc b pc pc2 ls st μ1) := ⟨fun _ s hs => (by cases hs; exact h), fun _ s hs => by cases hs; exact h⟩
theorem jx_ale_if {b : Bool} {a : Option jm_A} (h : b = true → jx_ale md rt μ a) : jx_ale md rt μ (cond b a none) := by
  cases b with
  | true => exact h rfl
  | false => trivial
theorem jx_ale_cond {b : Bool} {a a' : Option jm_A} (h : b = true → jx_ale md rt μ a) (h' : jx_ale md rt μ a') : jx_ale md rt μ (cond b a a') := by
  cases b with
  | true => exact h rfl
  | false => exact h'
theorem jx_ale_none : jx_ale md rt μ none := trivial
theorem jx_ale_sw {x : Int32} {ps : List (Int32 × Nat)} {d : Nat} : jx_ale md rt μ (some (.inr (.inl (x, ps, d, ls, st, μ)))) := jx_le.rf
theorem jx_ale_ret {b : Bool} {v : jm_V} (h : rt = 0 → v = jm_j) : jx_ale md rt μ (some (.inr (.inr (.inr (b, v, μ))))) := ⟨jx_le.rf, h⟩
theorem jx_le_uI {K i j k : Nat} {x : Int32} (h5 : K ≠ 500) (h7 : K ≠ 70) : jx_le md μ (jm_uI μ.1 K i j k x, μ.2) := by
  refine ⟨by rw [jx_cnt_uI h5]; exact Nat.le_refl _, fun i' j' k' => ?_⟩
  show jm_uI μ.1 K i j k x 70 i' j' k' = _
  rw [jx_uI_ne (fun z => h7 z.1.symm)]
theorem jx_le_uL {f : jm_ML} : jx_le md μ (μ.1, f) := ⟨Nat.le_refl _, fun _ _ _ => rfl⟩
theorem jx_le_cI {a b : jm_Rf} {sp dp n : Nat} (h5 : b.1 ≠ 500) (h7 : b.1 ≠ 70) : jx_le md μ (jm_cI μ.1 a b sp dp n, μ.2) := by
  refine ⟨?_, fun i' j' k' => ?_⟩
  · unfold jm_cnt
    dsimp only
    rw [jx_cI_ne (fun z => h5 z.1.symm)]
    exact Nat.le_refl _
  · show jm_cI μ.1 a b sp dp n 70 i' j' k' = _
    rw [jx_cI_ne (fun z => h7 z.1.symm)]
theorem jx_kat62 {K : Nat} (h : jm_kat K < 5) : K < 62 := by
  rcases Nat.lt_or_ge K 62 with q | q
  · exact q
  · rw [(jx_kd_out q).2.1] at h; omega
theorem jx_katb {K a : Nat} (h : Nat.beq (jm_kat K) a = true) (ha : a < 5) : K < 62 := jx_kat62 (by rw [Nat.eq_of_beq_eq_true h]; exact ha)
theorem jx_ale_getf {ty : Nat} {r : jm_Rf} {k : Nat} : jx_ale md rt μ (jm_getf md ty r k pc ls st μ) := by
  unfold jm_getf jm_ra
  split
  · exact jx_ale_go .rf
  · exact jx_ale_go .rf
  · exact jx_ale_go .rf
  · exact jx_ale_gd (fun _ => .rf)
theorem jx_ale_putf {ty : Nat} {r : jm_Rf} {k : Nat} {v : jm_V} (h : r.1 < 60) : jx_ale md rt μ (jm_putf md ty r k v pc ls st μ) := by
  unfold jm_putf
  split
  · exact jx_ale_go (jx_le_uI (by omega) (by omega))
  · exact jx_ale_gd (fun _ => jx_le_uI (by omega) (by omega))
  · exact jx_ale_go jx_le_uL
  · exact jx_ale_gd (fun _ => jx_le_uI (by omega) (by omega))
  · trivial
theorem jx_ale_mk {ok : jm_Rf → Bool} : jx_ale md rt μ (jm_mk md ok pc ls st μ) := by
  unfold jm_mk
  split
  · rename_i r hr
    refine jx_ale_gd (fun hb => ?_)
    simp only [Bool.and_eq_true, decide_eq_true_eq] at hb
    obtain ⟨⟨hm, -⟩, h0⟩ := hb
    subst hm
    refine ⟨by rw [jx_cnt_up h0 (jx_lt hr)]; omega, fun i' j' k' => ?_⟩
    show jm_uI μ.1 500 0 0 0 (μ.1 500 0 0 0 + 1) 70 i' j' k' = _
    rw [jx_uI_ne (fun z => by omega)]
  · trivial
theorem jx_ale_call {k np rk : Nat} : jx_ale md rt μ (jm_call k np rk pc ls st μ) := jx_le.rf
set_option maxHeartbeats 4000000 in
set_option maxRecDepth 100000 in
theorem jx_step_le (cls : Nat) (ins : Instr) : jx_ale md rt μ (jm_step md cls rt ins pc ls st μ) := by
  unfold jm_step
  split
  all_goals repeat' with_reducible first
    | exact jx_ale_none
    | exact jx_ale_go jx_le.rf
    | exact jx_ale_gd (fun _ => jx_le.rf)
    | exact jx_ale_bc jx_le.rf
    | exact jx_ale_getf
    | exact jx_ale_mk
    | exact jx_ale_call
    | exact jx_ale_sw
    | exact jx_ale_go jx_le_uL
    | exact jx_ale_gd (fun _ => jx_le_uL)
    | refine jx_ale_if (fun hb => ?_)
    | refine jx_ale_cond (fun hb => ?_) ?_
    | split
  all_goals first
    | exact jx_ale_ret (fun _ => rfl)
    | exact jx_ale_ret (fun h => by cases h)
    | exact jx_ale_putf (by simp only [Bool.and_eq_true] at hb; exact Nat.blt_eq.mp hb.1.2)
    | (have hk := jx_katb hb (by decide); exact jx_ale_gd (fun _ => jx_le_uI (by omega) (by omega)))
    | (have hk := Nat.blt_eq.mp hb; exact jx_ale_gd (fun _ => jx_le_uI (by omega) (by omega)))
    | (simp only [Bool.and_eq_true] at hb; have hk := jx_katb hb.1.2 (by decide); exact jx_ale_gd (fun _ => jx_le_cI (by omega) (by omega)))
    | trace_state
end JXL
