/-! ===== what kind of value a call answers ===== -/
def jr_sh (rt : Nat) (v : jm_V) : Prop := (rt = 5 → ∃ x, v = .inr (.inl x)) ∧ (1 ≤ rt ∧ rt ≤ 4 → ∃ x, v = .inl x)
def jr_a (rt : Nat) : Option jm_A → Prop
  | some (.inr (.inr (.inr (_, v, _)))) => jr_sh rt v
  | _ => True
section JR
variable {rt : Nat} {μ μ1 : jm_M} {pc pc2 : Nat} {ls ls1 st st1 : List jm_V}
theorem jr_none : jr_a rt none := trivial
theorem jr_go : jr_a rt (jm_go pc ls1 st1 μ1) := trivial
theorem jr_gd {b : Bool} : jr_a rt (jm_gd b pc ls1 st1 μ1) := trivial
theorem jr_bc {b : Bool} : jr_a rt (jm_bc b pc pc2 ls1 st1 μ1) := trivial
theorem jr_call {k np rk : Nat} : jr_a rt (jm_call k np rk pc ls st μ) := trivial
theorem jr_sw {x : Int32} {ps : List (Int32 × Nat)} {d : Nat} : jr_a rt (some (.inr (.inl (x, ps, d, ls1, st1, μ)))) := trivial
theorem jr_if {b : Bool} {a : Option jm_A} (h : b = true → jr_a rt a) : jr_a rt (cond b a none) := by
  cases b with
  | true => exact h rfl
  | false => trivial
theorem jr_cond {b : Bool} {a a' : Option jm_A} (h : b = true → jr_a rt a) (h' : jr_a rt a') : jr_a rt (cond b a a') := by
  cases b with
  | true => exact h rfl
  | false => exact h'
theorem jr_getf {ty : Nat} {r : jm_Rf} {k : Nat} : jr_a rt (jm_getf false ty r k pc ls st μ) := by
  unfold jm_getf
  split <;> trivial
theorem jr_putf {ty : Nat} {r : jm_Rf} {k : Nat} {v : jm_V} : jr_a rt (jm_putf false ty r k v pc ls st μ) := by
  unfold jm_putf
  split <;> trivial
theorem jr_mk {ok : jm_Rf → Bool} : jr_a rt (jm_mk false ok pc ls st μ) := by
  unfold jm_mk
  split <;> trivial
theorem jr_i {b : Bool} {x : Int32} (h : rt ≠ 5) : jr_a rt (some (.inr (.inr (.inr (b, .inl x, μ))))) := ⟨fun z => absurd z h, fun _ => ⟨x, rfl⟩⟩
theorem jr_l {b : Bool} {x : Int64} (h : rt = 5) : jr_a rt (some (.inr (.inr (.inr (b, .inr (.inl x), μ))))) := ⟨fun _ => ⟨x, rfl⟩, fun z => by omega⟩
theorem jr_v {b : Bool} {v : jm_V} (h : rt = 0) : jr_a rt (some (.inr (.inr (.inr (b, v, μ))))) := ⟨fun z => by omega, fun z => by omega⟩
set_option maxHeartbeats 4000000 in
set_option maxRecDepth 100000 in
theorem jr_step (cls : Nat) (ins : Instr) : jr_a rt (jm_step false cls rt ins pc ls st μ) := by
  unfold jm_step
  split
  all_goals repeat' with_reducible first
    | exact jr_none
    | exact jr_mk
    | exact jr_call
    | exact jr_go
    | exact jr_gd
    | exact jr_bc
    | exact jr_sw
    | exact jr_getf
    | exact jr_putf
    | exact jr_i (by decide)
    | exact jr_l rfl
    | exact jr_v rfl
    | refine jr_if (fun hb => ?_)
    | refine jr_cond (fun hb => ?_) ?_
    | split
end JR
theorem jr_act {rt : Nat} {K : jm_KT} {C : jm_CT} (hK : ∀ pc ls st μ1 r, K pc ls st μ1 = some r → jr_sh rt r.1) (a : Option jm_A) (ha : jr_a rt a) (r : jm_V × jm_M) (h : jm_act K C a = some r) : jr_sh rt r.1 := by
  match a, ha, h with
  | some (.inl (b, s1, s2)), ha, h =>
    cases b with
    | true =>
      cases s1 with
      | none => cases h
      | some s => exact hK _ _ _ _ _ h
    | false =>
      cases s2 with
      | none => cases h
      | some s => exact hK _ _ _ _ _ h
  | some (.inr (.inl (x, ps, d, ls, st, μ1))), ha, h =>
    obtain ⟨t, ht⟩ := jm_sw_eq (α := Option (jm_V × jm_M)) x ps d
    simp only [jm_act, ht] at h
    exact hK _ _ _ _ _ h
  | some (.inr (.inr (.inl (k, as, rk, pc, ls, st, μ1)))), ha, h =>
    cases hc : C k as μ1 with
    | none =>
      match rk with
      | 0 => simp [jm_act, hc, jm_bv] at h
      | 1 => simp [jm_act, hc, jm_bi] at h
      | 2 => simp [jm_act, hc, jm_bl] at h
      | _ + 3 => simp [jm_act, hc, jm_br] at h
    | some q =>
      obtain ⟨v, μ'⟩ := q
      match rk with
      | 0 => simp only [jm_act, hc, jm_bv] at h; exact hK _ _ _ _ _ h
      | 1 =>
        simp only [jm_act, hc, jm_bi] at h
        rcases v with x | x | x | x <;> first | exact hK _ _ _ _ _ h | cases h
      | 2 =>
        simp only [jm_act, hc, jm_bl] at h
        rcases v with x | x | x | x <;> first | exact hK _ _ _ _ _ h | cases h
      | _ + 3 =>
        simp only [jm_act, hc, jm_br] at h
        rcases v with x | x | x | x <;> first | exact hK _ _ _ _ _ h | cases h
  | some (.inr (.inr (.inr (b, v, μ1)))), ha, h =>
    cases b with
    | true => cases h; exact ha
    | false => cases h
theorem jr_run : ∀ (n : Nat) {d cls rt : Nat} {cd : jm_Cd} {pc : Nat} {ls st : List jm_V} {μ : jm_M} {r : jm_V × jm_M}, jm_run n false d cls rt cd pc ls st μ = some r → jr_sh rt r.1
  | 0, _, _, _, _, _, _, _, _, _, h => by cases h
  | n + 1, d, cls, rt, cd, pc, ls, st, μ, r, h => by
    rw [jm_run_succ] at h
    refine jr_act (fun pc ls st μ1 r h => jr_run n h) _ ?_ r h
    unfold jm_st1
    split
    · exact jr_step _ _
    · trivial
theorem jr_sem {d k c rt mx : Nat} {cd : jm_Cd} {as : List jm_V} {μ μ' : jm_M} {v : jm_V} (hm : jm_mt[k]? = some (c, rt, mx, cd)) (h : jm_sem false d k as μ = some (v, μ')) : jr_sh rt v := by
  obtain ⟨n, hn⟩ := jm_sem_iff.mp h
  cases d with
  | zero => cases hn
  | succ d =>
    simp only [jm_cr, hm] at hn
    cases hb : Nat.ble (jm_en as).length mx with
    | false => rw [hb] at hn; cases hn
    | true =>
      rw [hb] at hn
      exact jr_run n hn
