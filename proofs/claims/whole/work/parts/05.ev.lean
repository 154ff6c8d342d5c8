/-! ===== runs without a count of steps ===== -/
abbrev jm_KT : Type := Nat → List jm_V → List jm_V → jm_M → Option (jm_V × jm_M)
abbrev jm_CT : Type := Nat → List jm_V → jm_M → Option (jm_V × jm_M)
noncomputable def jm_cr (n : Nat) (md : Bool) (d : Nat) : jm_CT := fun k as μ => match d with
  | 0 => none
  | d + 1 => (match jm_mt[k]? with
    | some (c, r, mx, cd') => cond (Nat.ble (jm_en as).length mx) (jm_run n md d c r cd' 0 (jm_pad mx (jm_en as)) [] μ) none
    | none => none)
theorem jm_run_succ (n : Nat) (md : Bool) (d cls rt : Nat) (cd : jm_Cd) (pc : Nat) (ls st : List jm_V) (μ : jm_M) : jm_run (n + 1) md d cls rt cd pc ls st μ = jm_act (jm_run n md d cls rt cd) (jm_cr n md d) (jm_st1 md cls rt cd pc ls st μ) := rfl
theorem jm_sw_eq {α : Type} (x : Int32) (ps : List (Int32 × Nat)) (d : Nat) : ∃ t : Nat, ∀ f : Nat → α, jm_sw x ps d f = f t := by
  induction ps with
  | nil => exact ⟨d, fun f => rfl⟩
  | cons q l ih =>
    obtain ⟨v, t⟩ := q
    obtain ⟨t', h'⟩ := ih
    by_cases h : x = v
    · exact ⟨t, fun f => by simp [jm_sw, h]⟩
    · exact ⟨t', fun f => by simp [jm_sw, h, h']⟩
theorem jm_act_mono {K K' : jm_KT} {C C' : jm_CT} (hK : ∀ pc ls st μ r, K pc ls st μ = some r → K' pc ls st μ = some r) (hC : ∀ k as μ r, C k as μ = some r → C' k as μ = some r) (a : Option jm_A) (r : jm_V × jm_M) (h : jm_act K C a = some r) : jm_act K' C' a = some r := by
  match a with
  | none => cases h
  | some (.inl (b, s1, s2)) =>
    cases b with
    | true =>
      cases s1 with
      | none => cases h
      | some s => exact hK _ _ _ _ _ h
    | false =>
      cases s2 with
      | none => cases h
      | some s => exact hK _ _ _ _ _ h
  | some (.inr (.inl (x, ps, d, ls, st, μ))) =>
    obtain ⟨t, ht⟩ := jm_sw_eq (α := Option (jm_V × jm_M)) x ps d
    simp only [jm_act, ht] at h ⊢
    exact hK _ _ _ _ _ h
  | some (.inr (.inr (.inl (k, as, rk, pc, ls, st, μ)))) =>
    cases hc : C k as μ with
    | none =>
      match rk with
      | 0 => simp [jm_act, hc, jm_bv] at h
      | 1 => simp [jm_act, hc, jm_bi] at h
      | 2 => simp [jm_act, hc, jm_bl] at h
      | _ + 3 => simp [jm_act, hc, jm_br] at h
    | some q =>
      have hc' := hC _ _ _ _ hc
      obtain ⟨v, μ'⟩ := q
      match rk with
      | 0 => simp only [jm_act, hc, hc', jm_bv] at h ⊢; exact hK _ _ _ _ _ h
      | 1 =>
        simp only [jm_act, hc, hc', jm_bi] at h ⊢
        rcases v with x | x | x | x <;> first | exact hK _ _ _ _ _ h | cases h
      | 2 =>
        simp only [jm_act, hc, hc', jm_bl] at h ⊢
        rcases v with x | x | x | x <;> first | exact hK _ _ _ _ _ h | cases h
      | _ + 3 =>
        simp only [jm_act, hc, hc', jm_br] at h ⊢
        rcases v with x | x | x | x <;> first | exact hK _ _ _ _ _ h | cases h
  | some (.inr (.inr (.inr (b, v, μ)))) => exact h
theorem jm_run_mono1 : ∀ (n : Nat) (md : Bool) (d cls rt : Nat) (cd : jm_Cd) (pc : Nat) (ls st : List jm_V) (μ : jm_M) (r : jm_V × jm_M), jm_run n md d cls rt cd pc ls st μ = some r → jm_run (n + 1) md d cls rt cd pc ls st μ = some r
  | 0, _, _, _, _, _, _, _, _, _, _, h => by cases h
  | n + 1, md, d, cls, rt, cd, pc, ls, st, μ, r, h => by
    rw [jm_run_succ] at h ⊢
    refine jm_act_mono (fun pc ls st μ r => jm_run_mono1 n md d cls rt cd pc ls st μ r) (fun k as μ r hc => ?_) _ _ h
    cases d with
    | zero => cases hc
    | succ d =>
      cases hm : jm_mt[k]? with
      | none => simp [jm_cr, hm] at hc
      | some q =>
        obtain ⟨c, rr, mx, cd'⟩ := q
        simp only [jm_cr, hm] at hc ⊢
        cases hb : Nat.ble (jm_en as).length mx with
        | false => rw [hb] at hc; cases hc
        | true =>
          rw [hb] at hc
          exact jm_run_mono1 n md d _ _ _ _ _ _ _ _ hc
theorem jm_run_mono {n m : Nat} (hnm : n ≤ m) {md : Bool} {d cls rt : Nat} {cd : jm_Cd} {pc : Nat} {ls st : List jm_V} {μ : jm_M} {r : jm_V × jm_M} (h : jm_run n md d cls rt cd pc ls st μ = some r) : jm_run m md d cls rt cd pc ls st μ = some r := by
  induction hnm with
  | refl => exact h
  | step _ ih => exact jm_run_mono1 _ _ _ _ _ _ _ _ _ _ _ ih
noncomputable def jm_ev (md : Bool) (d cls rt : Nat) (cd : jm_Cd) (pc : Nat) (ls st : List jm_V) (μ : jm_M) : Option (jm_V × jm_M) :=
  @dite _ (∃ n r, jm_run n md d cls rt cd pc ls st μ = some r) (Classical.propDecidable _) (fun h => some (Classical.choose (Classical.choose_spec h))) (fun _ => none)
theorem jm_ev_iff {md : Bool} {d cls rt : Nat} {cd : jm_Cd} {pc : Nat} {ls st : List jm_V} {μ : jm_M} {r : jm_V × jm_M} : jm_ev md d cls rt cd pc ls st μ = some r ↔ ∃ n, jm_run n md d cls rt cd pc ls st μ = some r := by
  unfold jm_ev
  by_cases h : ∃ n r, jm_run n md d cls rt cd pc ls st μ = some r
  · rw [dif_pos h]
    have hs := Classical.choose_spec (Classical.choose_spec h)
    generalize Classical.choose (Classical.choose_spec h) = r0 at hs ⊢
    generalize Classical.choose h = n0 at hs
    constructor
    · intro e; cases e; exact ⟨_, hs⟩
    · rintro ⟨m, hm⟩
      have h1 := jm_run_mono (Nat.le_max_left n0 m) hs
      have h2 := jm_run_mono (Nat.le_max_right n0 m) hm
      rw [← h1, h2]
  · rw [dif_neg h]
    constructor
    · intro e; cases e
    · rintro ⟨n, hn⟩; exact absurd ⟨n, r, hn⟩ h
noncomputable def jm_sem (md : Bool) (d : Nat) : jm_CT := fun k as μ => match d with
  | 0 => none
  | d + 1 => (match jm_mt[k]? with
    | some (c, r, mx, cd') => cond (Nat.ble (jm_en as).length mx) (jm_ev md d c r cd' 0 (jm_pad mx (jm_en as)) [] μ) none
    | none => none)
theorem jm_sem_iff {md : Bool} {d k : Nat} {as : List jm_V} {μ : jm_M} {r : jm_V × jm_M} : jm_sem md d k as μ = some r ↔ ∃ n, jm_cr n md d k as μ = some r := by
  cases d with
  | zero =>
    constructor
    · intro h
      cases h
    · rintro ⟨n, h⟩
      cases h
  | succ d =>
    cases hm : jm_mt[k]? with
    | none => simp [jm_sem, jm_cr, hm]
    | some q =>
      obtain ⟨c, rr, mx, cd'⟩ := q
      simp only [jm_sem, jm_cr, hm]
      cases hb : Nat.ble (jm_en as).length mx with
      | false =>
        constructor
        · intro h; cases h
        · rintro ⟨n, h⟩; cases h
      | true => exact jm_ev_iff
theorem jm_cr_mono {n m : Nat} (hnm : n ≤ m) {md : Bool} {d k : Nat} {as : List jm_V} {μ : jm_M} {r : jm_V × jm_M} (h : jm_cr n md d k as μ = some r) : jm_cr m md d k as μ = some r := by
  cases d with
  | zero => cases h
  | succ d =>
    cases hm : jm_mt[k]? with
    | none => simp [jm_cr, hm] at h
    | some q =>
      obtain ⟨c, rr, mx, cd'⟩ := q
      simp only [jm_cr, hm] at h ⊢
      cases hb : Nat.ble (jm_en as).length mx with
      | false => rw [hb] at h; cases h
      | true =>
        rw [hb] at h
        exact jm_run_mono hnm h
theorem jm_act_reach {md : Bool} {d cls rt : Nat} {cd : jm_Cd} (a : Option jm_A) (r : jm_V × jm_M) (h : jm_act (jm_ev md d cls rt cd) (jm_sem md d) a = some r) : ∃ n, jm_act (jm_run n md d cls rt cd) (jm_cr n md d) a = some r := by
  match a with
  | none => cases h
  | some (.inl (b, s1, s2)) =>
    cases b with
    | true =>
      cases s1 with
      | none => cases h
      | some s => exact jm_ev_iff.mp h
    | false =>
      cases s2 with
      | none => cases h
      | some s => exact jm_ev_iff.mp h
  | some (.inr (.inl (x, ps, dd, ls, st, μ))) =>
    obtain ⟨t, ht⟩ := jm_sw_eq (α := Option (jm_V × jm_M)) x ps dd
    simp only [jm_act, ht] at h ⊢
    exact jm_ev_iff.mp h
  | some (.inr (.inr (.inl (k, as, rk, pc, ls, st, μ)))) =>
    cases hc : jm_sem md d k as μ with
    | none =>
      match rk with
      | 0 => simp [jm_act, hc, jm_bv] at h
      | 1 => simp [jm_act, hc, jm_bi] at h
      | 2 => simp [jm_act, hc, jm_bl] at h
      | _ + 3 => simp [jm_act, hc, jm_br] at h
    | some q =>
      obtain ⟨v, μ'⟩ := q
      obtain ⟨n1, h1⟩ := jm_sem_iff.mp hc
      have fin : ∀ (pc : Nat) (ls st : List jm_V), jm_ev md d cls rt cd pc ls st μ' = some r → ∃ n, jm_cr n md d k as μ = some (v, μ') ∧ jm_run n md d cls rt cd pc ls st μ' = some r := by
        intro pc ls st he
        obtain ⟨n2, h2⟩ := jm_ev_iff.mp he
        exact ⟨max n1 n2, jm_cr_mono (Nat.le_max_left _ _) h1, jm_run_mono (Nat.le_max_right _ _) h2⟩
      match rk with
      | 0 =>
        simp only [jm_act, hc, jm_bv] at h ⊢
        obtain ⟨n, g1, g2⟩ := fin _ _ _ h
        exact ⟨n, by rw [g1]; exact g2⟩
      | 1 =>
        simp only [jm_act, hc, jm_bi] at h ⊢
        rcases v with x | x | x | x
        · obtain ⟨n, g1, g2⟩ := fin _ _ _ h
          exact ⟨n, by rw [g1]; exact g2⟩
        all_goals cases h
      | 2 =>
        simp only [jm_act, hc, jm_bl] at h ⊢
        rcases v with x | x | x | x
        · cases h
        · obtain ⟨n, g1, g2⟩ := fin _ _ _ h
          exact ⟨n, by rw [g1]; exact g2⟩
        all_goals cases h
      | _ + 3 =>
        simp only [jm_act, hc, jm_br] at h ⊢
        rcases v with x | x | x | x
        · cases h
        · cases h
        · obtain ⟨n, g1, g2⟩ := fin _ _ _ h
          exact ⟨n, by rw [g1]; exact g2⟩
        · cases h
  | some (.inr (.inr (.inr (b, v, μ)))) => exact ⟨0, h⟩
theorem jm_ev_eq (md : Bool) (d cls rt : Nat) (cd : jm_Cd) (pc : Nat) (ls st : List jm_V) (μ : jm_M) : jm_ev md d cls rt cd pc ls st μ = jm_act (jm_ev md d cls rt cd) (jm_sem md d) (jm_st1 md cls rt cd pc ls st μ) := by
  apply Option.ext
  intro r
  constructor
  · intro h
    obtain ⟨n, hn⟩ := jm_ev_iff.mp h
    cases n with
    | zero => cases hn
    | succ n =>
      rw [jm_run_succ] at hn
      exact jm_act_mono (fun pc ls st μ r h => jm_ev_iff.mpr ⟨n, h⟩) (fun k as μ r h => jm_sem_iff.mpr ⟨n, h⟩) _ _ hn
  · intro h
    obtain ⟨n, hn⟩ := jm_act_reach _ _ h
    exact jm_ev_iff.mpr ⟨n + 1, by rw [jm_run_succ]; exact hn⟩
/-- many steps at once, up to the places where one stops -/
noncomputable def jm_un (stop : List Nat) (md : Bool) (d cls rt : Nat) (cd : jm_Cd) (n : Nat) : jm_KT :=
  Nat.rec (motive := fun _ => jm_KT) (jm_ev md d cls rt cd) (fun _ ih => fun pc ls st μ => jm_act (fun pc ls st μ => cond (stop.elem pc) (jm_ev md d cls rt cd pc ls st μ) (ih pc ls st μ)) (jm_sem md d) (jm_st1 md cls rt cd pc ls st μ)) n
theorem jm_un_eq (stop : List Nat) (md : Bool) (d cls rt : Nat) (cd : jm_Cd) : ∀ (n : Nat), jm_un stop md d cls rt cd n = jm_ev md d cls rt cd
  | 0 => rfl
  | n + 1 => by
    funext pc ls st μ
    rw [jm_ev_eq]
    show jm_act (fun pc ls st μ => cond (stop.elem pc) (jm_ev md d cls rt cd pc ls st μ) (jm_un stop md d cls rt cd n pc ls st μ)) (jm_sem md d) _ = _
    rw [jm_un_eq stop md d cls rt cd n]
    congr 1
    funext pc ls st μ
    cases stop.elem pc <;> rfl
theorem jm_tree (stop : List Nat) (n : Nat) {md : Bool} {d cls rt : Nat} {cd : jm_Cd} {pc : Nat} {ls st : List jm_V} {μ : jm_M} {t : Option (jm_V × jm_M)} (h : jm_un stop md d cls rt cd n pc ls st μ = t) : jm_ev md d cls rt cd pc ls st μ = t := by
  rw [← h, jm_un_eq]
/-- more frames do no harm -/
theorem jm_run_deep : ∀ (n : Nat) (md : Bool) (d cls rt : Nat) (cd : jm_Cd) (pc : Nat) (ls st : List jm_V) (μ : jm_M) (r : jm_V × jm_M), jm_run n md d cls rt cd pc ls st μ = some r → jm_run n md (d + 1) cls rt cd pc ls st μ = some r
  | 0, _, _, _, _, _, _, _, _, _, _, h => by cases h
  | n + 1, md, d, cls, rt, cd, pc, ls, st, μ, r, h => by
    rw [jm_run_succ] at h ⊢
    refine jm_act_mono (fun pc ls st μ r => jm_run_deep n md d cls rt cd pc ls st μ r) (fun k as μ r hc => ?_) _ _ h
    cases d with
    | zero => cases hc
    | succ d =>
      cases hm : jm_mt[k]? with
      | none => simp [jm_cr, hm] at hc
      | some q =>
        obtain ⟨c, rr, mx, cd'⟩ := q
        simp only [jm_cr, hm] at hc ⊢
        cases hb : Nat.ble (jm_en as).length mx with
        | false => rw [hb] at hc; cases hc
        | true =>
          rw [hb] at hc
          exact jm_run_deep n md d _ _ _ _ _ _ _ _ hc
theorem jm_sem_deep1 {md : Bool} {d k : Nat} {as : List jm_V} {μ : jm_M} {r : jm_V × jm_M} (h : jm_sem md d k as μ = some r) : jm_sem md (d + 1) k as μ = some r := by
  obtain ⟨n, hn⟩ := jm_sem_iff.mp h
  refine jm_sem_iff.mpr ⟨n, ?_⟩
  cases d with
  | zero => cases hn
  | succ d =>
    cases hm : jm_mt[k]? with
    | none => simp [jm_cr, hm] at hn
    | some q =>
      obtain ⟨c, rr, mx, cd'⟩ := q
      simp only [jm_cr, hm] at hn ⊢
      cases hb : Nat.ble (jm_en as).length mx with
      | false => rw [hb] at hn; cases hn
      | true =>
        rw [hb] at hn
        exact jm_run_deep n md d _ _ _ _ _ _ _ _ hn
theorem jm_sem_deep {md : Bool} {d e k : Nat} (hde : d ≤ e) {as : List jm_V} {μ : jm_M} {r : jm_V × jm_M} (h : jm_sem md d k as μ = some r) : jm_sem md e k as μ = some r := by
  induction hde with
  | refl => exact h
  | step _ ih => exact jm_sem_deep1 ih
theorem jm_call_eq {md : Bool} {d k c r mx : Nat} {cd : jm_Cd} {as : List jm_V} {μ : jm_M} (h : jm_mt[k]? = some (c, r, mx, cd)) (h2 : Nat.ble (jm_en as).length mx = true) : jm_sem md (d + 1) k as μ = jm_ev md d c r cd 0 (jm_pad mx (jm_en as)) [] μ := by
  simp only [jm_sem, h, h2, cond_true]
