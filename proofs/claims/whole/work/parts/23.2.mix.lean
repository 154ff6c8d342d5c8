/-! ===== a run sees only the cells that it can reach ===== -/
/-- the cells of S from one memory, the others from another one -/
noncomputable def jm_mx (S : jm_Rf → Prop) (ν μ : jm_M) : jm_M := (fun K i j => @ite _ (S (K, i, j)) (Classical.propDecidable _) (μ.1 K i j) (ν.1 K i j), fun K i j => @ite _ (S (K, i, j)) (Classical.propDecidable _) (μ.2 K i j) (ν.2 K i j))
noncomputable def jm_mxS (S : jm_Rf → Prop) (ν : jm_M) (s : jm_S) : jm_S := (s.1, s.2.1, s.2.2.1, jm_mx S ν s.2.2.2)
noncomputable def jm_mxA (S : jm_Rf → Prop) (ν : jm_M) : Option jm_A → Option jm_A
  | none => none
  | some (.inl (b, s1, s2)) => some (.inl (b, s1.map (jm_mxS S ν), s2.map (jm_mxS S ν)))
  | some (.inr (.inl (x, ps, s))) => some (.inr (.inl (x, ps, jm_mxS S ν s)))
  | some (.inr (.inr (.inl (k, as, rk, s)))) => some (.inr (.inr (.inl (k, as, rk, jm_mxS S ν s))))
  | some (.inr (.inr (.inr (b, v, μ)))) => some (.inr (.inr (.inr (b, v, jm_mx S ν μ))))
section JMX
variable {S : jm_Rf → Prop} {ν : jm_M} {rt : Nat} {μ μ1 : jm_M} {pc pc2 : Nat} {ls st : List jm_V}
theorem jm_mx_1 {r : jm_Rf} (h : S r) : (jm_mx S ν μ).1 r.1 r.2.1 r.2.2 = μ.1 r.1 r.2.1 r.2.2 := if_pos h
theorem jm_mx_2 {r : jm_Rf} (h : S r) : (jm_mx S ν μ).2 r.1 r.2.1 r.2.2 = μ.2 r.1 r.2.1 r.2.2 := if_pos h
theorem jm_mx_1n {r : jm_Rf} (h : ¬ S r) : (jm_mx S ν μ).1 r.1 r.2.1 r.2.2 = ν.1 r.1 r.2.1 r.2.2 := if_neg h
theorem jm_mx_2n {r : jm_Rf} (h : ¬ S r) : (jm_mx S ν μ).2 r.1 r.2.1 r.2.2 = ν.2 r.1 r.2.1 r.2.2 := if_neg h
theorem jm_uI_cell (f : jm_MI) (K i j k : Nat) (x : Int32) (K' i' j' : Nat) : jm_uI f K i j k x K' i' j' = if K' = K ∧ i' = i ∧ j' = j then upd (f K i j) k x else f K' i' j' := by
  by_cases h : K' = K ∧ i' = i ∧ j' = j
  · rw [if_pos h]
    obtain ⟨rfl, rfl, rfl⟩ := h
    exact jx_uI_at _ _ _ _ _ _
  · rw [if_neg h, jx_uI_ne h]
theorem jm_uL_cell (f : jm_ML) (K i j k : Nat) (x : Int64) (K' i' j' : Nat) : jm_uL f K i j k x K' i' j' = if K' = K ∧ i' = i ∧ j' = j then vp_updL (f K i j) k x else f K' i' j' := by
  by_cases h : K' = K ∧ i' = i ∧ j' = j
  · rw [if_pos h]
    obtain ⟨rfl, rfl, rfl⟩ := h
    exact jx_uL_at _ _ _ _ _ _
  · rw [if_neg h, jx_uL_ne h]
theorem jm_cI_cell (f : jm_MI) (a b : jm_Rf) (sp dp n : Nat) (K' i' j' : Nat) : jm_cI f a b sp dp n K' i' j' = if K' = b.1 ∧ i' = b.2.1 ∧ j' = b.2.2 then va_cpy (f a.1 a.2.1 a.2.2) (f b.1 b.2.1 b.2.2) sp dp n else f K' i' j' := by
  by_cases h : K' = b.1 ∧ i' = b.2.1 ∧ j' = b.2.2
  · rw [if_pos h]
    obtain ⟨rfl, rfl, rfl⟩ := h
    exact jx_cI_at _ _ _ _ _ _
  · rw [if_neg h, jx_cI_ne h]
theorem jm_cL_cell (f : jm_ML) (a b : jm_Rf) (sp dp n : Nat) (K' i' j' : Nat) : jm_cL f a b sp dp n K' i' j' = if K' = b.1 ∧ i' = b.2.1 ∧ j' = b.2.2 then va_cpy (f a.1 a.2.1 a.2.2) (f b.1 b.2.1 b.2.2) sp dp n else f K' i' j' := by
  by_cases h : K' = b.1 ∧ i' = b.2.1 ∧ j' = b.2.2
  · rw [if_pos h]
    obtain ⟨rfl, rfl, rfl⟩ := h
    exact jx_cL_at _ _ _ _ _ _
  · rw [if_neg h, jx_cL_ne h]
theorem jm_mx_ext {a b : jm_M} (h1 : ∀ K i j, a.1 K i j = b.1 K i j) (h2 : ∀ K i j, a.2 K i j = b.2 K i j) : a = b := by
  refine Prod.ext ?_ ?_
  · funext K i j; exact h1 K i j
  · funext K i j; exact h2 K i j
theorem jm_mx_uI {r : jm_Rf} {k : Nat} {x : Int32} (h : S r) : (jm_uI (jm_mx S ν μ).1 r.1 r.2.1 r.2.2 k x, (jm_mx S ν μ).2) = jm_mx S ν (jm_uI μ.1 r.1 r.2.1 r.2.2 k x, μ.2) := by
  refine jm_mx_ext (fun K i j => ?_) (fun K i j => rfl)
  show jm_uI (jm_mx S ν μ).1 r.1 r.2.1 r.2.2 k x K i j = @ite _ (S (K, i, j)) (Classical.propDecidable _) (jm_uI μ.1 r.1 r.2.1 r.2.2 k x K i j) (ν.1 K i j)
  rw [jm_uI_cell, jm_uI_cell]
  by_cases hr : K = r.1 ∧ i = r.2.1 ∧ j = r.2.2
  · rw [if_pos hr, if_pos hr, jm_mx_1 h, if_pos (by rw [hr.1, hr.2.1, hr.2.2]; exact h)]
  · rw [if_neg hr, if_neg hr]
    rfl
theorem jm_mx_uL {r : jm_Rf} {k : Nat} {x : Int64} (h : S r) : ((jm_mx S ν μ).1, jm_uL (jm_mx S ν μ).2 r.1 r.2.1 r.2.2 k x) = jm_mx S ν (μ.1, jm_uL μ.2 r.1 r.2.1 r.2.2 k x) := by
  refine jm_mx_ext (fun K i j => rfl) (fun K i j => ?_)
  show jm_uL (jm_mx S ν μ).2 r.1 r.2.1 r.2.2 k x K i j = @ite _ (S (K, i, j)) (Classical.propDecidable _) (jm_uL μ.2 r.1 r.2.1 r.2.2 k x K i j) (ν.2 K i j)
  rw [jm_uL_cell, jm_uL_cell]
  by_cases hr : K = r.1 ∧ i = r.2.1 ∧ j = r.2.2
  · rw [if_pos hr, if_pos hr, jm_mx_2 h, if_pos (by rw [hr.1, hr.2.1, hr.2.2]; exact h)]
  · rw [if_neg hr, if_neg hr]
    rfl
theorem jm_mx_cI {a r : jm_Rf} {sp dp n : Nat} (ha : S a) (h : S r) : (jm_cI (jm_mx S ν μ).1 a r sp dp n, (jm_mx S ν μ).2) = jm_mx S ν (jm_cI μ.1 a r sp dp n, μ.2) := by
  refine jm_mx_ext (fun K i j => ?_) (fun K i j => rfl)
  show jm_cI (jm_mx S ν μ).1 a r sp dp n K i j = @ite _ (S (K, i, j)) (Classical.propDecidable _) (jm_cI μ.1 a r sp dp n K i j) (ν.1 K i j)
  rw [jm_cI_cell, jm_cI_cell]
  by_cases hr : K = r.1 ∧ i = r.2.1 ∧ j = r.2.2
  · rw [if_pos hr, if_pos hr, jm_mx_1 h, jm_mx_1 ha, if_pos (by rw [hr.1, hr.2.1, hr.2.2]; exact h)]
  · rw [if_neg hr, if_neg hr]
    rfl
theorem jm_mx_cL {a r : jm_Rf} {sp dp n : Nat} (ha : S a) (h : S r) : ((jm_mx S ν μ).1, jm_cL (jm_mx S ν μ).2 a r sp dp n) = jm_mx S ν (μ.1, jm_cL μ.2 a r sp dp n) := by
  refine jm_mx_ext (fun K i j => rfl) (fun K i j => ?_)
  show jm_cL (jm_mx S ν μ).2 a r sp dp n K i j = @ite _ (S (K, i, j)) (Classical.propDecidable _) (jm_cL μ.2 a r sp dp n K i j) (ν.2 K i j)
  rw [jm_cL_cell, jm_cL_cell]
  by_cases hr : K = r.1 ∧ i = r.2.1 ∧ j = r.2.2
  · rw [if_pos hr, if_pos hr, jm_mx_2 h, jm_mx_2 ha, if_pos (by rw [hr.1, hr.2.1, hr.2.2]; exact h)]
  · rw [if_neg hr, if_neg hr]
    rfl
theorem jm_mx_rI {r : jm_Rf} {k : Nat} (h : S r) : jm_rI (jm_mx S ν μ) r k = jm_rI μ r k := by
  unfold jm_rI
  rw [jm_mx_1 h]
theorem jm_mx_len {r : jm_Rf} (h : S (70, 0, 1)) : jm_len (jm_mx S ν μ) r = jm_len μ r := by
  unfold jm_len
  rw [jm_mx_1 (r := (70, 0, 1)) h]
theorem jm_mx_go : jm_go pc ls st (jm_mx S ν μ) = jm_mxA S ν (jm_go pc ls st μ) := rfl
theorem jm_mx_gd {b : Bool} : jm_gd b pc ls st (jm_mx S ν μ) = jm_mxA S ν (jm_gd b pc ls st μ) := rfl
theorem jm_mx_bc {b : Bool} : jm_bc b pc pc2 ls st (jm_mx S ν μ) = jm_mxA S ν (jm_bc b pc pc2 ls st μ) := rfl
theorem jm_mx_call {k np rk : Nat} : jm_call k np rk pc ls st (jm_mx S ν μ) = jm_mxA S ν (jm_call k np rk pc ls st μ) := rfl
theorem jm_mx_none : (none : Option jm_A) = jm_mxA S ν none := rfl
theorem jm_mx_if {b : Bool} {a a' : Option jm_A} (h : b = true → a' = jm_mxA S ν a) : cond b a' none = jm_mxA S ν (cond b a none) := by
  cases b with
  | true => exact h rfl
  | false => rfl
theorem jm_mx_cond {b : Bool} {a a' c c' : Option jm_A} (h : b = true → a' = jm_mxA S ν a) (h2 : c' = jm_mxA S ν c) : cond b a' c' = jm_mxA S ν (cond b a c) := by
  cases b with
  | true => exact h rfl
  | false => exact h2
theorem jm_mx_sw {x : Int32} {ps : List (Int32 × Nat)} {d : Nat} : (some (.inr (.inl (x, ps, d, ls, st, jm_mx S ν μ))) : Option jm_A) = jm_mxA S ν (some (.inr (.inl (x, ps, d, ls, st, μ)))) := rfl
theorem jm_mx_ret {b : Bool} {v : jm_V} : (some (.inr (.inr (.inr (b, v, jm_mx S ν μ)))) : Option jm_A) = jm_mxA S ν (some (.inr (.inr (.inr (b, v, μ))))) := rfl
theorem jm_mx_getf {ty : Nat} {r : jm_Rf} {k : Nat} (h : S r) : jm_getf false ty r k pc ls st (jm_mx S ν μ) = jm_mxA S ν (jm_getf false ty r k pc ls st μ) := by
  unfold jm_getf jm_ra
  rw [jm_mx_rI h, jm_mx_2 h]
  split <;> rfl
def jm_dead (a : Option jm_A) : Prop := a = none ∨ ∃ s, a = some (.inl (false, s, none))
abbrev jm_E (S : jm_Rf → Prop) (ν : jm_M) (a' a : Option jm_A) : Prop := a' = jm_mxA S ν a ∨ jm_dead a
theorem jm_E_if {b : Bool} {a a' : Option jm_A} (h : b = true → jm_E S ν a' a) : jm_E S ν (cond b a' none) (cond b a none) := by
  cases b with
  | true => exact h rfl
  | false => exact Or.inl rfl
theorem jm_E_cond {b : Bool} {a a' c c' : Option jm_A} (h : b = true → jm_E S ν a' a) (h2 : jm_E S ν c' c) : jm_E S ν (cond b a' c') (cond b a c) := by
  cases b with
  | true => exact h rfl
  | false => exact h2
theorem jm_dead_gd {b : Bool} (h : b = false) : jm_dead (jm_gd b pc ls st μ) := by
  subst h
  exact Or.inr ⟨_, rfl⟩
theorem jm_E_putf {ty : Nat} {r : jm_Rf} {k : Nat} {v : jm_V} (h : S r) : jm_E S ν (jm_putf false ty r k v pc ls st (jm_mx S ν μ)) (jm_putf false ty r k v pc ls st μ) := by
  unfold jm_putf
  split
  · exact Or.inl (by rw [jm_mx_uI h]; rfl)
  · exact Or.inl (by rw [jm_mx_uI h]; rfl)
  · exact Or.inl (by rw [jm_mx_uL h]; rfl)
  · exact Or.inr (jm_dead_gd rfl)
  · exact Or.inl rfl
theorem jm_E_mk {ok : jm_Rf → Bool} : jm_E S ν (jm_mk false ok pc ls st (jm_mx S ν μ)) (jm_mk false ok pc ls st μ) := by
  refine Or.inr ?_
  unfold jm_mk
  split
  · exact jm_dead_gd rfl
  · exact Or.inl rfl
theorem jm_mx_gdI {b : Bool} {r : jm_Rf} {k : Nat} {x : Int32} (h : S r) : jm_gd b pc ls st (jm_uI (jm_mx S ν μ).1 r.1 r.2.1 r.2.2 k x, (jm_mx S ν μ).2) = jm_mxA S ν (jm_gd b pc ls st (jm_uI μ.1 r.1 r.2.1 r.2.2 k x, μ.2)) := by rw [jm_mx_uI h]; rfl
theorem jm_mx_gdL {b : Bool} {r : jm_Rf} {k : Nat} {x : Int64} (h : S r) : jm_gd b pc ls st ((jm_mx S ν μ).1, jm_uL (jm_mx S ν μ).2 r.1 r.2.1 r.2.2 k x) = jm_mxA S ν (jm_gd b pc ls st (μ.1, jm_uL μ.2 r.1 r.2.1 r.2.2 k x)) := by rw [jm_mx_uL h]; rfl
theorem jm_mx_gdC {b : Bool} {a r : jm_Rf} {sp dp n : Nat} (ha : S a) (h : S r) : jm_gd b pc ls st (jm_cI (jm_mx S ν μ).1 a r sp dp n, (jm_mx S ν μ).2) = jm_mxA S ν (jm_gd b pc ls st (jm_cI μ.1 a r sp dp n, μ.2)) := by rw [jm_mx_cI ha h]; rfl
theorem jm_mx_gdD {b : Bool} {a r : jm_Rf} {sp dp n : Nat} (ha : S a) (h : S r) : jm_gd b pc ls st ((jm_mx S ν μ).1, jm_cL (jm_mx S ν μ).2 a r sp dp n) = jm_mxA S ν (jm_gd b pc ls st (μ.1, jm_cL μ.2 a r sp dp n)) := by rw [jm_mx_cL ha h]; rfl
theorem jm_mx_ial {r : jm_Rf} {i : Int32} (h : S r) (h7 : S (70, 0, 1)) : jm_gd (jm_in false i (jm_len (jm_mx S ν μ) r)) pc ls (.inl (jm_rI (jm_mx S ν μ) r (jm_ix i)) :: st) (jm_mx S ν μ) = jm_mxA S ν (jm_gd (jm_in false i (jm_len μ r)) pc ls (.inl (jm_rI μ r (jm_ix i)) :: st) μ) := by rw [jm_mx_len h7, jm_mx_rI h]; rfl
theorem jm_mx_lal {r : jm_Rf} {i : Int32} {b : Bool} (h : S r) : jm_gd b pc ls (.inr (.inl ((jm_mx S ν μ).2 r.1 r.2.1 r.2.2 (jm_ix i))) :: st) (jm_mx S ν μ) = jm_mxA S ν (jm_gd b pc ls (.inr (.inl (μ.2 r.1 r.2.1 r.2.2 (jm_ix i))) :: st) μ) := by rw [jm_mx_2 h]; rfl
theorem jm_mx_alen {r : jm_Rf} (h7 : S (70, 0, 1)) : jm_go pc ls (.inl (Int32.ofNat (jm_len (jm_mx S ν μ) r)) :: st) (jm_mx S ν μ) = jm_mxA S ν (jm_go pc ls (.inl (Int32.ofNat (jm_len μ r)) :: st) μ) := by rw [jm_mx_len h7]; rfl
set_option maxHeartbeats 4000000 in
set_option maxRecDepth 100000 in
theorem jx_step_mx (h7 : S (70, 0, 1)) (cls : Nat) (ins : Instr) (hs : jf_l S st) : jm_E S ν (jm_step false cls rt ins pc ls st (jm_mx S ν μ)) (jm_step false cls rt ins pc ls st μ) := by
  unfold jm_step
  split
  all_goals repeat' with_reducible first
    | exact Or.inl jm_mx_none
    | exact Or.inl jm_mx_go
    | exact Or.inl jm_mx_gd
    | exact Or.inl jm_mx_bc
    | exact Or.inl jm_mx_call
    | exact Or.inl jm_mx_sw
    | exact Or.inl jm_mx_ret
    | exact jm_E_mk
    | refine jm_E_if (fun hb => ?_)
    | refine jm_E_cond (fun hb => ?_) ?_
    | split
  all_goals (try simp only [jf_cons, jf_vi, jf_vl, jf_vr, true_and] at hs)
  all_goals with_reducible first
    | exact Or.inl (jm_mx_getf hs.1)
    | exact jm_E_putf hs.2.1
    | exact Or.inl (jm_mx_ial hs.1 h7)
    | exact Or.inl (jm_mx_alen h7)
    | exact Or.inl (jm_mx_lal hs.1)
    | exact Or.inl (jm_mx_gdI hs.1)
    | exact Or.inl (jm_mx_gdL hs.1)
    | exact Or.inl (jm_mx_gdC hs.2.1 hs.1)
    | exact Or.inl (jm_mx_gdD hs.2.1 hs.1)
    | skip
  all_goals first
    | exact Or.inr (jm_dead_gd rfl)
    | exact Or.inl rfl
    | trace_state
theorem jm_act_mx {K K' : jm_KT} {C C' : jm_CT} (hK : ∀ pc ls st μ v μ', jf_l S ls → jf_l S st → K pc ls st μ = some (v, μ') → K' pc ls st (jm_mx S ν μ) = some (v, jm_mx S ν μ')) (hC : ∀ k as μ v μ', jf_l S as → C k as μ = some (v, μ') → jf_v S v ∧ C' k as (jm_mx S ν μ) = some (v, jm_mx S ν μ')) (a a' : Option jm_A) (he : jm_E S ν a' a) (hf : jf_a S μ a) (v : jm_V) (μ' : jm_M) (h : jm_act K C a = some (v, μ')) : jm_act K' C' a' = some (v, jm_mx S ν μ') := by
  have he : a' = jm_mxA S ν a := by
    rcases he with he | he | ⟨s, he⟩
    · exact he
    · rw [he] at h; cases h
    · rw [he] at h; cases h
  subst he
  match a, hf, h with
  | some (.inl (b, s1, s2)), hf, h =>
    cases b with
    | true =>
      cases s1 with
      | none => cases h
      | some s => exact hK _ _ _ _ _ _ (hf.1 rfl s rfl).1 (hf.1 rfl s rfl).2.1 h
    | false =>
      cases s2 with
      | none => cases h
      | some s => exact hK _ _ _ _ _ _ (hf.2 rfl s rfl).1 (hf.2 rfl s rfl).2.1 h
  | some (.inr (.inl (x, ps, d, ls, st, μ1))), hf, h =>
    obtain ⟨t, ht⟩ := jm_sw_eq (α := Option (jm_V × jm_M)) x ps d
    simp only [jm_act, jm_mxA, jm_mxS, ht] at h ⊢
    exact hK _ _ _ _ _ _ hf.1 hf.2.1 h
  | some (.inr (.inr (.inl (k, as, rk, pc, ls, st, μ1)))), hf, h =>
    cases hc : C k as μ1 with
    | none =>
      match rk with
      | 0 => simp [jm_act, hc, jm_bv] at h
      | 1 => simp [jm_act, hc, jm_bi] at h
      | 2 => simp [jm_act, hc, jm_bl] at h
      | _ + 3 => simp [jm_act, hc, jm_br] at h
    | some q =>
      obtain ⟨w, μ2⟩ := q
      obtain ⟨hw, hc'⟩ := hC _ _ _ _ _ hf.1 hc
      match rk with
      | 0 => simp only [jm_act, jm_mxA, jm_mxS, hc, hc', jm_bv] at h ⊢; exact hK _ _ _ _ _ _ hf.2.1 hf.2.2.1 h
      | 1 =>
        simp only [jm_act, jm_mxA, jm_mxS, hc, hc', jm_bi] at h ⊢
        rcases w with x | x | x | x <;> first | exact hK _ _ _ _ _ _ hf.2.1 (jf_cons.mpr ⟨jf_vi.mpr trivial, hf.2.2.1⟩) h | cases h
      | 2 =>
        simp only [jm_act, jm_mxA, jm_mxS, hc, hc', jm_bl] at h ⊢
        rcases w with x | x | x | x <;> first | exact hK _ _ _ _ _ _ hf.2.1 (jf_cons.mpr ⟨jf_vl.mpr trivial, hf.2.2.1⟩) h | cases h
      | _ + 3 =>
        simp only [jm_act, jm_mxA, jm_mxS, hc, hc', jm_br] at h ⊢
        rcases w with x | x | x | x <;> first | exact hK _ _ _ _ _ _ hf.2.1 (jf_cons.mpr ⟨hw, hf.2.2.1⟩) h | cases h
  | some (.inr (.inr (.inr (b, w, μ1)))), hf, h =>
    cases b with
    | true => cases h; rfl
    | false => cases h
theorem jm_run_mx (hS : jf_S S) (h7 : S (70, 0, 1)) : ∀ (n : Nat) {d cls rt : Nat} {cd : jm_Cd} {pc : Nat} {ls st : List jm_V} {μ : jm_M} {v : jm_V} {μ' : jm_M}, jf_l S ls → jf_l S st → jm_run n false d cls rt cd pc ls st μ = some (v, μ') → jm_run n false d cls rt cd pc ls st (jm_mx S ν μ) = some (v, jm_mx S ν μ')
  | 0, _, _, _, _, _, _, _, _, _, _, _, _, h => by cases h
  | n + 1, d, cls, rt, cd, pc, ls, st, μ, v, μ', hl, hs, h => by
    rw [jm_run_succ] at h ⊢
    unfold jm_st1 at h ⊢
    cases hlk : jm_look cd pc with
    | none => rw [hlk] at h; cases h
    | some q =>
      obtain ⟨p, ins⟩ := q
      rw [hlk] at h
      dsimp only at h ⊢
      refine jm_act_mx (fun _ _ _ _ _ _ hl hs h => jm_run_mx hS h7 n hl hs h) (fun k as μ w μ2 ha hc => ?_) _ _ (jx_step_mx h7 cls ins hs) (jf_step hS cls ins hl hs) _ _ h
      cases d with
      | zero => cases hc
      | succ d =>
        cases hm : jm_mt[k]? with
        | none => simp [jm_cr, hm] at hc
        | some q =>
          obtain ⟨c, r, mx, cd'⟩ := q
          simp only [jm_cr, hm] at hc ⊢
          cases hb : Nat.ble (jm_en as).length mx with
          | false => rw [hb] at hc; cases hc
          | true =>
            rw [hb] at hc
            exact ⟨(jf_run hS n (jf_en ha) jf_nil hc).1, jm_run_mx hS h7 n (jf_en ha) jf_nil hc⟩
/-- a call at a memory that is the same where it can reach: the same answer, the same change there -/
theorem jm_sem_mx (hS : jf_S S) (h7 : S (70, 0, 1)) {d k : Nat} {as : List jm_V} {μ μ' : jm_M} {v : jm_V} (ha : jf_l S as) (h : jm_sem false d k as μ = some (v, μ')) : jm_sem false d k as (jm_mx S ν μ) = some (v, jm_mx S ν μ') := by
  obtain ⟨n, hn⟩ := jm_sem_iff.mp h
  refine jm_sem_iff.mpr ⟨n, ?_⟩
  cases d with
  | zero => cases hn
  | succ d =>
    cases hm : jm_mt[k]? with
    | none => simp [jm_cr, hm] at hn
    | some q =>
      obtain ⟨c, rr, mx, cd'⟩ := q
      simp only [jm_cr, hm] at hn ⊢
      cases hb : Nat.ble (jm_en as).length mx with
      | false => rw [hb] at hn; cases hn
      | true =>
        rw [hb] at hn
        exact jm_run_mx hS h7 n (jf_en ha) jf_nil hn
end JMX
