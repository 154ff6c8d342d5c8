/-! ===== runs that never look at the script: the same with any script ===== -/
def jm_ov (g : Nat → Nat → Nat → Int32) (μ : jm_M) : jm_M := (fun K => if K = 70 then g else μ.1 K, μ.2)
def jm_ovS (g : Nat → Nat → Nat → Int32) (s : jm_S) : jm_S := (s.1, s.2.1, s.2.2.1, jm_ov g s.2.2.2)
def jm_ovA (g : Nat → Nat → Nat → Int32) : Option jm_A → Option jm_A
  | none => none
  | some (.inl (b, s1, s2)) => some (.inl (b, s1.map (jm_ovS g), s2.map (jm_ovS g)))
  | some (.inr (.inl (x, ps, s))) => some (.inr (.inl (x, ps, jm_ovS g s)))
  | some (.inr (.inr (.inl (k, as, rk, s)))) => some (.inr (.inr (.inl (k, as, rk, jm_ovS g s))))
  | some (.inr (.inr (.inr (b, v, μ)))) => some (.inr (.inr (.inr (b, v, jm_ov g μ))))
def jm_g70 (ins : Instr) (st : List jm_V) : Bool := match ins, st with
  | .iaload, .inl _ :: .inr (.inr (.inl r)) :: _ => !Nat.beq r.1 70
  | .arraylength, .inr (.inr (.inl r)) :: _ => !Nat.beq r.1 70
  | _, _ => true
section JOV
variable {g : Nat → Nat → Nat → Int32} {md : Bool} {rt : Nat} {μ μ1 : jm_M} {pc pc2 : Nat} {ls st : List jm_V}
theorem jm_ov_1 {K : Nat} (h : K ≠ 70) : (jm_ov g μ).1 K = μ.1 K := by
  show (if K = 70 then g else μ.1 K) = _
  rw [if_neg h]
theorem jm_ov_uI {K i j k : Nat} {x : Int32} (h : K ≠ 70) : (jm_uI (jm_ov g μ).1 K i j k x, (jm_ov g μ).2) = jm_ov g (jm_uI μ.1 K i j k x, μ.2) := by
  refine Prod.ext ?_ rfl
  funext K'
  show jm_uI (jm_ov g μ).1 K i j k x K' = (if K' = 70 then g else jm_uI μ.1 K i j k x K')
  unfold jm_uI
  by_cases h1 : K' = K
  · rw [if_pos h1, if_neg (by omega), if_pos h1, jm_ov_1 h]
  · rw [if_neg h1, if_neg h1]
    rfl
theorem jm_ov_cI {a b : jm_Rf} {sp dp n : Nat} (ha : a.1 ≠ 70) (h : b.1 ≠ 70) : (jm_cI (jm_ov g μ).1 a b sp dp n, (jm_ov g μ).2) = jm_ov g (jm_cI μ.1 a b sp dp n, μ.2) := by
  refine Prod.ext ?_ rfl
  funext K'
  show jm_cI (jm_ov g μ).1 a b sp dp n K' = (if K' = 70 then g else jm_cI μ.1 a b sp dp n K')
  unfold jm_cI
  by_cases h1 : K' = b.1
  · rw [if_pos h1, if_neg (by omega), if_pos h1, jm_ov_1 ha, jm_ov_1 h]
  · rw [if_neg h1, if_neg h1]
    rfl
theorem jm_ov_rI {r : jm_Rf} {k : Nat} (h : r.1 ≠ 70) : jm_rI (jm_ov g μ) r k = jm_rI μ r k := by
  unfold jm_rI
  rw [jm_ov_1 h]
theorem jm_ov_len {r : jm_Rf} (h : r.1 ≠ 70) : jm_len (jm_ov g μ) r = jm_len μ r := by
  unfold jm_len
  rw [jx_nbeq h, cond_false, cond_false]
theorem jm_ov_go : jm_go pc ls st (jm_ov g μ) = jm_ovA g (jm_go pc ls st μ) := rfl
theorem jm_ov_gd {b : Bool} : jm_gd b pc ls st (jm_ov g μ) = jm_ovA g (jm_gd b pc ls st μ) := rfl
theorem jm_ov_bc {b : Bool} : jm_bc b pc pc2 ls st (jm_ov g μ) = jm_ovA g (jm_bc b pc pc2 ls st μ) := rfl
theorem jm_ov_call {k np rk : Nat} : jm_call k np rk pc ls st (jm_ov g μ) = jm_ovA g (jm_call k np rk pc ls st μ) := rfl
theorem jm_ov_none : (none : Option jm_A) = jm_ovA g none := rfl
theorem jm_ov_if {b : Bool} {a a' : Option jm_A} (h : b = true → a' = jm_ovA g a) : cond b a' none = jm_ovA g (cond b a none) := by
  cases b with
  | true => exact h rfl
  | false => rfl
theorem jm_ov_cond {b : Bool} {a a' c c' : Option jm_A} (h : b = true → a' = jm_ovA g a) (h2 : c' = jm_ovA g c) : cond b a' c' = jm_ovA g (cond b a c) := by
  cases b with
  | true => exact h rfl
  | false => exact h2
theorem jm_ov_getf {ty : Nat} {r : jm_Rf} {k : Nat} (h : r.1 ≠ 70) : jm_getf md ty r k pc ls st (jm_ov g μ) = jm_ovA g (jm_getf md ty r k pc ls st μ) := by
  by_cases h2 : r.1 + 600 = 70
  · omega
  unfold jm_getf jm_ra
  rw [jm_ov_rI h, jm_ov_1 h2]
  split <;> rfl
theorem jm_ov_putf {ty : Nat} {r : jm_Rf} {k : Nat} {v : jm_V} (h : r.1 < 60) : jm_putf md ty r k v pc ls st (jm_ov g μ) = jm_ovA g (jm_putf md ty r k v pc ls st μ) := by
  unfold jm_putf
  split
  · rw [jm_ov_uI (by omega)]; rfl
  · rw [jm_ov_uI (by omega)]; rfl
  · rfl
  · rw [jm_ov_uI (by omega)]; rfl
  · rfl
theorem jm_ov_mk {ok : jm_Rf → Bool} : jm_mk md ok pc ls st (jm_ov g μ) = jm_ovA g (jm_mk md ok pc ls st μ) := by
  unfold jm_mk
  rw [jm_ov_1 (show (500 : Nat) ≠ 70 by decide), jm_ov_uI (by decide)]
  split <;> rfl
theorem jm_ov_sw {x : Int32} {ps : List (Int32 × Nat)} {d : Nat} : (some (.inr (.inl (x, ps, d, ls, st, jm_ov g μ))) : Option jm_A) = jm_ovA g (some (.inr (.inl (x, ps, d, ls, st, μ)))) := rfl
theorem jm_ov_ret {b : Bool} {v : jm_V} : (some (.inr (.inr (.inr (b, v, jm_ov g μ)))) : Option jm_A) = jm_ovA g (some (.inr (.inr (.inr (b, v, μ))))) := rfl
theorem jm_ov_goL {f : jm_ML} : jm_go pc ls st ((jm_ov g μ).1, f) = jm_ovA g (jm_go pc ls st (μ.1, f)) := rfl
theorem jm_ov_gdL {b : Bool} {f : jm_ML} : jm_gd b pc ls st ((jm_ov g μ).1, f) = jm_ovA g (jm_gd b pc ls st (μ.1, f)) := rfl
theorem jm_ov_goI {K i j k : Nat} {x : Int32} (h : K ≠ 70) : jm_go pc ls st (jm_uI (jm_ov g μ).1 K i j k x, (jm_ov g μ).2) = jm_ovA g (jm_go pc ls st (jm_uI μ.1 K i j k x, μ.2)) := by rw [jm_ov_uI h]; rfl
theorem jm_ov_gdI {b : Bool} {K i j k : Nat} {x : Int32} (h : K ≠ 70) : jm_gd b pc ls st (jm_uI (jm_ov g μ).1 K i j k x, (jm_ov g μ).2) = jm_ovA g (jm_gd b pc ls st (jm_uI μ.1 K i j k x, μ.2)) := by rw [jm_ov_uI h]; rfl
theorem jm_ov_gdC {b : Bool} {a c : jm_Rf} {sp dp n : Nat} (ha : a.1 ≠ 70) (h : c.1 ≠ 70) : jm_gd b pc ls st (jm_cI (jm_ov g μ).1 a c sp dp n, (jm_ov g μ).2) = jm_ovA g (jm_gd b pc ls st (jm_cI μ.1 a c sp dp n, μ.2)) := by rw [jm_ov_cI ha h]; rfl
theorem jm_ov_ial {r : jm_Rf} {i : Int32} (h : r.1 ≠ 70) : jm_gd (jm_in md i (jm_len (jm_ov g μ) r)) pc ls (.inl (jm_rI (jm_ov g μ) r (jm_ix i)) :: st) (jm_ov g μ) = jm_ovA g (jm_gd (jm_in md i (jm_len μ r)) pc ls (.inl (jm_rI μ r (jm_ix i)) :: st) μ) := by rw [jm_ov_len h, jm_ov_rI h]; rfl
theorem jm_ov_alen {r : jm_Rf} (h : r.1 ≠ 70) : jm_go pc ls (.inl (Int32.ofNat (jm_len (jm_ov g μ) r)) :: st) (jm_ov g μ) = jm_ovA g (jm_go pc ls (.inl (Int32.ofNat (jm_len μ r)) :: st) μ) := by rw [jm_ov_len h]; rfl
theorem jm_ov_aal {r : jm_Rf} {i : Int32} (h : r.1 < 62) : jm_gd (jm_in md i (jm_kln r.1) && (bif md then decide ((jm_ov g μ).1 (r.1 + 600) r.2.1 r.2.2 (jm_ix i) = 1) else true)) pc ls (.inr (.inr (.inl (jm_R r.1 r.2.1 r.2.2 (jm_ix i)))) :: st) (jm_ov g μ) = jm_ovA g (jm_gd (jm_in md i (jm_kln r.1) && (bif md then decide (μ.1 (r.1 + 600) r.2.1 r.2.2 (jm_ix i) = 1) else true)) pc ls (.inr (.inr (.inl (jm_R r.1 r.2.1 r.2.2 (jm_ix i)))) :: st) μ) := by rw [jm_ov_1 (by omega)]; rfl
theorem jx_kcl70 {K c : Nat} (h : Nat.beq (jm_kcl K) c = true) (hc : c < 20) : K ≠ 70 := by
  intro z
  have := Nat.eq_of_beq_eq_true h
  rw [z, show jm_kcl 70 = 99 by decide +kernel] at this
  omega
theorem jx_fl_lt : (List.range 19).all (fun cls => (jm_fl.getD cls []).all (fun e => Nat.blt e.2.1 20)) = true := by decide +kernel
theorem jx_fl20 {cls idx c k ty : Nat} (h : jm_find (jm_fl.getD cls []) idx = some (c, k, ty)) : c < 20 := by
  have hin := jx_find_in h
  by_cases hc : cls < 19
  · exact Nat.blt_eq.mp (List.all_eq_true.mp (List.all_eq_true.mp jx_fl_lt cls (List.mem_range.mpr hc)) _ hin)
  · rw [jx_fok_le cls (by omega)] at hin
    cases hin
theorem jx_g70a {i : Int32} {r : jm_Rf} (h : jm_g70 .iaload (.inl i :: .inr (.inr (.inl r)) :: st) = true) : r.1 ≠ 70 := by
  have h : (!Nat.beq r.1 70) = true := h
  intro z
  rw [z] at h
  cases h
theorem jx_g70b {r : jm_Rf} (h : jm_g70 .arraylength (.inr (.inr (.inl r)) :: st) = true) : r.1 ≠ 70 := by
  have h : (!Nat.beq r.1 70) = true := h
  intro z
  rw [z] at h
  cases h
theorem jx_kat23 {K : Nat} (h : (Nat.beq (jm_kat K) 2 || Nat.beq (jm_kat K) 3) = true) : K < 62 := by
  simp only [Bool.or_eq_true] at h
  rcases h with z | z
  · exact jx_katb z (by decide)
  · exact jx_katb z (by decide)
theorem jm_ov_lal {r : jm_Rf} {i : Int32} {b : Bool} : jm_gd b pc ls (.inr (.inl ((jm_ov g μ).2 r.1 r.2.1 r.2.2 (jm_ix i))) :: st) (jm_ov g μ) = jm_ovA g (jm_gd b pc ls (.inr (.inl (μ.2 r.1 r.2.1 r.2.2 (jm_ix i))) :: st) μ) := rfl
theorem jm_ov_las {K i j k : Nat} {x : Int64} {b : Bool} : jm_gd b pc ls st ((jm_ov g μ).1, jm_uL (jm_ov g μ).2 K i j k x) = jm_ovA g (jm_gd b pc ls st (μ.1, jm_uL μ.2 K i j k x)) := rfl
theorem jm_ov_cpl {a c : jm_Rf} {sp dp n : Nat} {b : Bool} : jm_gd b pc ls st ((jm_ov g μ).1, jm_cL (jm_ov g μ).2 a c sp dp n) = jm_ovA g (jm_gd b pc ls st (μ.1, jm_cL μ.2 a c sp dp n)) := rfl
set_option maxHeartbeats 4000000 in
set_option maxRecDepth 100000 in
theorem jx_step_ov (cls : Nat) (ins : Instr) (hg : jm_g70 ins st = true) : jm_step md cls rt ins pc ls st (jm_ov g μ) = jm_ovA g (jm_step md cls rt ins pc ls st μ) := by
  unfold jm_step
  split
  all_goals repeat' with_reducible first
    | exact jm_ov_none
    | exact jm_ov_go
    | exact jm_ov_gd
    | exact jm_ov_bc
    | exact jm_ov_mk
    | exact jm_ov_call
    | exact jm_ov_sw
    | exact jm_ov_ret
    | exact jm_ov_goL
    | exact jm_ov_gdL
    | refine jm_ov_if (fun hb => ?_)
    | refine jm_ov_cond (fun hb => ?_) ?_
    | split
  all_goals with_reducible first
    | exact jm_ov_getf (jx_kcl70 hb (jx_fl20 (by assumption)))
    | exact jm_ov_putf (by simp only [Bool.and_eq_true] at hb; exact Nat.blt_eq.mp hb.1.2)
    | exact jm_ov_ial (jx_g70a hg)
    | exact jm_ov_ial (by have := jx_kat23 hb; omega)
    | exact jm_ov_alen (jx_g70b hg)
    | exact jm_ov_lal
    | exact jm_ov_las
    | exact jm_ov_cpl
    | exact jm_ov_aal (jx_katb hb (by decide))
    | exact jm_ov_gdI (by have := jx_katb hb (by decide); omega)
    | exact jm_ov_gdI (by have := Nat.blt_eq.mp hb; omega)
    | exact jm_ov_gdC (by simp only [Bool.and_eq_true] at hb; have := jx_katb hb.1.1 (by decide); omega) (by simp only [Bool.and_eq_true] at hb; have := jx_katb hb.1.2 (by decide); omega)
    | trace_state
end JOV
/-- runs that stop where the script is looked at -/
noncomputable def jm_rung : Nat → Bool → Nat → Nat → Nat → jm_Cd → Nat → List jm_V → List jm_V → jm_M → Option (jm_V × jm_M)
  | 0, _, _, _, _, _, _, _, _, _ => none
  | n + 1, md, d, cls, rt, cd, pc, ls, st, μ =>
    match jm_look cd pc with
    | some (p, ins) => cond (jm_g70 ins st) (jm_act (jm_rung n md d cls rt cd)
      (fun k as μ => match d with
        | 0 => none
        | d + 1 => (match jm_mt[k]? with
          | some (c, r, mx, cd') => cond (Nat.ble (jm_en as).length mx) (jm_rung n md d c r cd' 0 (jm_pad mx (jm_en as)) [] μ) none
          | none => none))
      (jm_step md cls rt ins p ls st μ)) none
    | none => none
theorem jm_act_ov {g : Nat → Nat → Nat → Int32} {K K' : jm_KT} {C C' : jm_CT} (hK : ∀ pc ls st μ v μ', K pc ls st μ = some (v, μ') → K' pc ls st (jm_ov g μ) = some (v, jm_ov g μ')) (hC : ∀ k as μ v μ', C k as μ = some (v, μ') → C' k as (jm_ov g μ) = some (v, jm_ov g μ')) (a : Option jm_A) (v : jm_V) (μ' : jm_M) (h : jm_act K C a = some (v, μ')) : jm_act K' C' (jm_ovA g a) = some (v, jm_ov g μ') := by
  match a, h with
  | some (.inl (b, s1, s2)), h =>
    cases b with
    | true =>
      cases s1 with
      | none => cases h
      | some s => exact hK _ _ _ _ _ _ h
    | false =>
      cases s2 with
      | none => cases h
      | some s => exact hK _ _ _ _ _ _ h
  | some (.inr (.inl (x, ps, d, ls, st, μ1))), h =>
    obtain ⟨t, ht⟩ := jm_sw_eq (α := Option (jm_V × jm_M)) x ps d
    simp only [jm_act, jm_ovA, jm_ovS, ht] at h ⊢
    exact hK _ _ _ _ _ _ h
  | some (.inr (.inr (.inl (k, as, rk, pc, ls, st, μ1)))), h =>
    cases hc : C k as μ1 with
    | none =>
      match rk with
      | 0 => simp [jm_act, hc, jm_bv] at h
      | 1 => simp [jm_act, hc, jm_bi] at h
      | 2 => simp [jm_act, hc, jm_bl] at h
      | _ + 3 => simp [jm_act, hc, jm_br] at h
    | some q =>
      obtain ⟨w, μ2⟩ := q
      have hc' := hC _ _ _ _ _ hc
      match rk with
      | 0 => simp only [jm_act, jm_ovA, jm_ovS, hc, hc', jm_bv] at h ⊢; exact hK _ _ _ _ _ _ h
      | 1 =>
        simp only [jm_act, jm_ovA, jm_ovS, hc, hc', jm_bi] at h ⊢
        rcases w with x | x | x | x <;> first | exact hK _ _ _ _ _ _ h | cases h
      | 2 =>
        simp only [jm_act, jm_ovA, jm_ovS, hc, hc', jm_bl] at h ⊢
        rcases w with x | x | x | x <;> first | exact hK _ _ _ _ _ _ h | cases h
      | _ + 3 =>
        simp only [jm_act, jm_ovA, jm_ovS, hc, hc', jm_br] at h ⊢
        rcases w with x | x | x | x <;> first | exact hK _ _ _ _ _ _ h | cases h
  | some (.inr (.inr (.inr (b, w, μ1)))), h =>
    cases b with
    | true => cases h; rfl
    | false => cases h
theorem jm_rung_ov (g : Nat → Nat → Nat → Int32) : ∀ (n : Nat) {md : Bool} {d cls rt : Nat} {cd : jm_Cd} {pc : Nat} {ls st : List jm_V} {μ : jm_M} {v : jm_V} {μ' : jm_M}, jm_rung n md d cls rt cd pc ls st μ = some (v, μ') → jm_run n md d cls rt cd pc ls st (jm_ov g μ) = some (v, jm_ov g μ')
  | 0, _, _, _, _, _, _, _, _, _, _, _, h => by cases h
  | n + 1, md, d, cls, rt, cd, pc, ls, st, μ, v, μ', h => by
    unfold jm_rung at h
    rw [jm_run_succ]
    unfold jm_st1
    cases hl : jm_look cd pc with
    | none => rw [hl] at h; cases h
    | some q =>
      obtain ⟨p, ins⟩ := q
      rw [hl] at h
      dsimp only at h ⊢
      cases hg : jm_g70 ins st with
      | false => rw [hg] at h; cases h
      | true =>
        rw [hg, cond_true] at h
        rw [jx_step_ov cls ins hg]
        refine jm_act_ov (fun _ _ _ _ _ _ h => jm_rung_ov g n h) (fun k as μ w μ2 hc => ?_) _ _ _ h
        cases d with
        | zero => cases hc
        | succ d =>
          dsimp only at hc
          cases hm : jm_mt[k]? with
          | none => rw [hm] at hc; cases hc
          | some q =>
            obtain ⟨c, r, mx, cd'⟩ := q
            rw [hm] at hc
            dsimp only at hc
            simp only [jm_cr, hm]
            cases hb : Nat.ble (jm_en as).length mx with
            | false => rw [hb] at hc; cases hc
            | true =>
              rw [hb] at hc
              exact jm_rung_ov g n hc
