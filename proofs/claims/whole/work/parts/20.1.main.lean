/-! ===== a run keeps the script and the cells ===== -/
theorem jx_act_le {md : Bool} {rt : Nat} {μ : jm_M} {K : jm_KT} {C : jm_CT} (hK : ∀ pc ls st μ1 r, K pc ls st μ1 = some r → jx_le md μ1 r.2 ∧ (rt = 0 → r.1 = jm_j)) (hC : ∀ k as μ1 r, C k as μ1 = some r → jx_le md μ1 r.2) (a : Option jm_A) (ha : jx_ale md rt μ a) (r : jm_V × jm_M) (h : jm_act K C a = some r) : jx_le md μ r.2 ∧ (rt = 0 → r.1 = jm_j) := by
  match a, ha, h with
  | some (.inl (b, s1, s2)), ha, h =>
    cases b with
    | true =>
      cases s1 with
      | none => cases h
      | some s =>
        have h1 := hK _ _ _ _ _ h
        exact ⟨(ha.1 rfl s rfl).tr h1.1, h1.2⟩
    | false =>
      cases s2 with
      | none => cases h
      | some s =>
        have h1 := hK _ _ _ _ _ h
        exact ⟨(ha.2 rfl s rfl).tr h1.1, h1.2⟩
  | some (.inr (.inl (x, ps, d, ls, st, μ1))), ha, h =>
    obtain ⟨t, ht⟩ := jm_sw_eq (α := Option (jm_V × jm_M)) x ps d
    simp only [jm_act, ht] at h
    have h1 := hK _ _ _ _ _ h
    exact ⟨jx_le.tr ha h1.1, h1.2⟩
  | some (.inr (.inr (.inl (k, as, rk, pc, ls, st, μ1)))), ha, h =>
    cases hc : C k as μ1 with
    | none =>
      match rk with
      | 0 => simp [jm_act, hc, jm_bv] at h
      | 1 => simp [jm_act, hc, jm_bi] at h
      | 2 => simp [jm_act, hc, jm_bl] at h
      | _ + 3 => simp [jm_act, hc, jm_br] at h
    | some q =>
      have hc' := hC _ _ _ _ hc
      obtain ⟨v, μ'⟩ := q
      have fin : ∀ pc ls st, K pc ls st μ' = some r → jx_le md μ r.2 ∧ (rt = 0 → r.1 = jm_j) := fun pc ls st h => by
        have h1 := hK _ _ _ _ _ h
        exact ⟨(jx_le.tr ha hc').tr h1.1, h1.2⟩
      match rk with
      | 0 => simp only [jm_act, hc, jm_bv] at h; exact fin _ _ _ h
      | 1 =>
        simp only [jm_act, hc, jm_bi] at h
        rcases v with x | x | x | x <;> first | exact fin _ _ _ h | cases h
      | 2 =>
        simp only [jm_act, hc, jm_bl] at h
        rcases v with x | x | x | x <;> first | exact fin _ _ _ h | cases h
      | _ + 3 =>
        simp only [jm_act, hc, jm_br] at h
        rcases v with x | x | x | x <;> first | exact fin _ _ _ h | cases h
  | some (.inr (.inr (.inr (b, v, μ1)))), ha, h =>
    cases b with
    | true => cases h; exact ha
    | false => cases h
theorem jx_run_le : ∀ (n : Nat) {md : Bool} {d cls rt : Nat} {cd : jm_Cd} {pc : Nat} {ls st : List jm_V} {μ : jm_M} {r : jm_V × jm_M}, jm_run n md d cls rt cd pc ls st μ = some r → jx_le md μ r.2 ∧ (rt = 0 → r.1 = jm_j)
  | 0, _, _, _, _, _, _, _, _, _, _, h => by cases h
  | n + 1, md, d, cls, rt, cd, pc, ls, st, μ, r, h => by
    rw [jm_run_succ] at h
    refine jx_act_le (fun pc ls st μ1 r h => jx_run_le n h) (fun k as μ1 r hc => ?_) _ ?_ r h
    · cases d with
      | zero => cases hc
      | succ d =>
        cases hm : jm_mt[k]? with
        | none => simp [jm_cr, hm] at hc
        | some q =>
          obtain ⟨c, rr, mx, cd'⟩ := q
          simp only [jm_cr, hm] at hc
          cases hb : Nat.ble (jm_en as).length mx with
          | false => rw [hb] at hc; cases hc
          | true =>
            rw [hb] at hc
            exact (jx_run_le n hc).1
    · unfold jm_st1
      split
      · exact jx_step_le _ _
      · trivial
/-! ===== the machine does what the small machine does, one instruction ===== -/
theorem jx_bif {b : Bool} {a : Option jm_A} {K : jm_KT} {C : jm_CT} {r : jm_V × jm_M} (h : jm_act K C (cond b a none) = some r) : b = true ∧ jm_act K C a = some r := by
  cases b with
  | true => exact ⟨rfl, h⟩
  | false => cases h
theorem jx_bc1 {b : Bool} {p1 p2 : Nat} {ls st : List jm_V} {μ : jm_M} {K : jm_KT} {C : jm_CT} {r : jm_V × jm_M} (h : jm_act K C (jm_bc b p1 p2 ls st μ) = some r) (hb : b = true) : K p1 ls st μ = some r := by
  subst hb; exact h
theorem jx_bc2 {b : Bool} {p1 p2 : Nat} {ls st : List jm_V} {μ : jm_M} {K : jm_KT} {C : jm_CT} {r : jm_V × jm_M} (h : jm_act K C (jm_bc b p1 p2 ls st μ) = some r) (hb : b = false) : K p2 ls st μ = some r := by
  subst hb; exact h
theorem jx_dcd {md : Bool} {q : Prop} [Decidable q] (h : jm_dc md q = true) : q := by
  unfold jm_dc jm_dec at h
  cases md with
  | true => exact of_decide_eq_true h
  | false => exact @of_decide_eq_true _ (Classical.propDecidable _) h
theorem jx_call_inv {k : Nat} {as : List jm_V} {rk pc : Nat} {ls st : List jm_V} {μ : jm_M} {K : jm_KT} {C : jm_CT} {r : jm_V × jm_M} (hrk : rk ≤ 2) (h : jm_act K C (some (.inr (.inr (.inl (k, as, rk, pc, ls, st, μ))))) = some r) : ∃ w μ2, C k as μ = some (w, μ2) ∧ ((rk = 0 → w = jm_j) → K pc ls (jx_rv w ++ st) μ2 = some r) := by
  cases hc : C k as μ with
  | none =>
    match rk with
    | 0 => simp [jm_act, hc, jm_bv] at h
    | 1 => simp [jm_act, hc, jm_bi] at h
    | 2 => simp [jm_act, hc, jm_bl] at h
    | _ + 3 => omega
  | some q =>
    obtain ⟨w, μ2⟩ := q
    refine ⟨w, μ2, rfl, fun hw => ?_⟩
    match rk with
    | 0 => simp only [jm_act, hc, jm_bv] at h; rw [hw rfl]; exact h
    | 1 =>
      simp only [jm_act, hc, jm_bi] at h
      rcases w with x | x | x | x <;> first | exact h | cases h
    | 2 =>
      simp only [jm_act, hc, jm_bl] at h
      rcases w with x | x | x | x <;> first | exact h | cases h
    | _ + 3 => omega
theorem jx_nop_put {cls idx c' k : Nat} (hf : jm_find (jm_fl.getD cls []) idx = some (c', k, 3)) : jx_nop cls [(0, .putfield idx)] = false := by
  show ((match jm_find (jm_fl.getD cls []) idx with | some (_, _, 3) => false | _ => true) && true) = false
  rw [hf]
  rfl
/-- how a method ends -/
def jx_rd (cc : ByteArray) (pc rt : Nat) (v : jm_V) : Prop := (rt = 0 ∧ v = jm_j ∧ decode cc pc = .ok (.return_, 1)) ∨ (rt = 5 ∧ (∃ y, v = .inr (.inl y)) ∧ decode cc pc = .ok (.lreturn, 1)) ∨ ((1 ≤ rt ∧ rt ≤ 4) ∧ (∃ x, v = .inl x ∧ jm_nr rt x = x) ∧ decode cc pc = .ok (.ireturn, 1))
/-- one instruction is no putfield of a reference; its call's kind -/
def jx_ik (cls : Nat) (ins : Instr) : Bool := jx_kck cls [(0, ins)]
section JXM
variable {p : Program} {l : Launch} {e : Env} {R : Room} {s : State} {m : MethodId} {args : Array Value} {below : List Frame} {meth : Method} {c : Code} {Q : State → Prop} {G : jx_G} {L : Nat} {xs : Nat → Int32} {md : Bool} {n0 nL : Nat} {cc : ByteArray} {own : String}
variable {pc : Nat} {ls st : List jm_V} {μ : jm_M}
theorem jz_iaload (C : jx_C p s m args c G L xs cc nL own n0) {K : jm_KT} {CC : jm_CT} {cls rt : Nat} {res : jm_V × jm_M} {i : Int32} {r : jm_Rf}  (hd : decode cc pc = .ok (.iaload, 1)) (h : jm_act K CC (jm_step md cls rt (.iaload) pc ls (.inl i :: .inr (.inr (.inl r)) :: st) μ) = some res)
    (hKm : ∀ pc ls st μ1, jx_le md μ μ1 → K pc ls st μ1 = some res → jx_J p l e R s m args below meth c Q G L xs md n0 nL pc ls st μ1) : jx_J p l e R s m args below meth c Q G L xs md n0 nL pc ls (.inl i :: .inr (.inr (.inl r)) :: st) μ := by
  obtain ⟨hb, h⟩ := jx_bif h
  obtain ⟨hg, h⟩ := jx_gd h
  have hg := jx_inI hg
  by_cases h70 : r.1 = 70
  · exact jy_iaload70 C h70 hg hd (hKm _ _ _ _ .rf h)
  · simp only [Bool.or_eq_true] at hb
    have hk : jm_kat r.1 = 0 := by
      rcases hb with q | q
      · exact Nat.eq_of_beq_eq_true q
      · exact absurd (Nat.eq_of_beq_eq_true q) h70
    have h62 := jx_kat62 (K := r.1) (by rw [hk]; decide)
    have h60' : r.1 ≠ 60 := by intro z; rw [z] at hk; exact absurd hk (by decide +kernel)
    have h61' : r.1 ≠ 61 := by intro z; rw [z] at hk; exact absurd hk (by decide +kernel)
    rw [jx_lenI (by omega)] at hg
    exact jy_iaload C hk h61' hg hd (hKm _ _ _ _ .rf h)
theorem jz_baload (C : jx_C p s m args c G L xs cc nL own n0) {K : jm_KT} {CC : jm_CT} {cls rt : Nat} {res : jm_V × jm_M} {i : Int32} {r : jm_Rf}  (hd : decode cc pc = .ok (.baload, 1)) (h : jm_act K CC (jm_step md cls rt (.baload) pc ls (.inl i :: .inr (.inr (.inl r)) :: st) μ) = some res)
    (hKm : ∀ pc ls st μ1, jx_le md μ μ1 → K pc ls st μ1 = some res → jx_J p l e R s m args below meth c Q G L xs md n0 nL pc ls st μ1) : jx_J p l e R s m args below meth c Q G L xs md n0 nL pc ls (.inl i :: .inr (.inr (.inl r)) :: st) μ := by
  obtain ⟨hb, h⟩ := jx_bif h
  obtain ⟨hg, h⟩ := jx_gd h
  have hg := jx_inI hg
  by_cases h61 : r.1 = 61
  · exact jy_baload61 C h61 hg hd (hKm _ _ _ _ .rf h)
  · simp only [Bool.or_eq_true] at hb
    have hk : jm_kat r.1 = 2 ∨ jm_kat r.1 = 3 := by
      rcases hb with q | q
      · exact Or.inl (Nat.eq_of_beq_eq_true q)
      · exact Or.inr (Nat.eq_of_beq_eq_true q)
    have h62 := jx_kat62 (K := r.1) (by omega)
    have h60' : r.1 ≠ 60 := by intro z; rw [z] at hk; exact absurd hk (by decide +kernel)
    rw [jx_lenI (by omega)] at hg
    rcases hk with hk | hk
    · exact jy_baload2 C hk h61 hg hd (hKm _ _ _ _ .rf h)
    · exact jy_baload3 C hk h61 hg hd (hKm _ _ _ _ .rf h)
theorem jz_laload (C : jx_C p s m args c G L xs cc nL own n0) {K : jm_KT} {CC : jm_CT} {cls rt : Nat} {res : jm_V × jm_M} {i : Int32} {r : jm_Rf}  (hd : decode cc pc = .ok (.laload, 1)) (h : jm_act K CC (jm_step md cls rt (.laload) pc ls (.inl i :: .inr (.inr (.inl r)) :: st) μ) = some res)
    (hKm : ∀ pc ls st μ1, jx_le md μ μ1 → K pc ls st μ1 = some res → jx_J p l e R s m args below meth c Q G L xs md n0 nL pc ls st μ1) : jx_J p l e R s m args below meth c Q G L xs md n0 nL pc ls (.inl i :: .inr (.inr (.inl r)) :: st) μ := by
  obtain ⟨hb, h⟩ := jx_bif h
  obtain ⟨hg, h⟩ := jx_gd h
  have hk := Nat.eq_of_beq_eq_true hb
  exact jy_laload C hk (by intro z; rw [z] at hk; exact absurd hk (by decide +kernel)) (jx_inI hg) hd (hKm _ _ _ _ .rf h)
theorem jz_aaload (C : jx_C p s m args c G L xs cc nL own n0) {K : jm_KT} {CC : jm_CT} {cls rt : Nat} {res : jm_V × jm_M} {i : Int32} {r : jm_Rf}  (hd : decode cc pc = .ok (.aaload, 1)) (h : jm_act K CC (jm_step md cls rt (.aaload) pc ls (.inl i :: .inr (.inr (.inl r)) :: st) μ) = some res)
    (hKm : ∀ pc ls st μ1, jx_le md μ μ1 → K pc ls st μ1 = some res → jx_J p l e R s m args below meth c Q G L xs md n0 nL pc ls st μ1) : jx_J p l e R s m args below meth c Q G L xs md n0 nL pc ls (.inl i :: .inr (.inr (.inl r)) :: st) μ := by
  obtain ⟨hb, h⟩ := jx_bif h
  obtain ⟨hg, h⟩ := jx_gd h
  have hk := Nat.eq_of_beq_eq_true hb
  simp only [Bool.and_eq_true] at hg
  exact jy_aaload C hk (jx_inI hg.1) hg.2 hd (hKm _ _ _ _ .rf h)
theorem jz_iastore (C : jx_C p s m args c G L xs cc nL own n0) {K : jm_KT} {CC : jm_CT} {cls rt : Nat} {res : jm_V × jm_M} {x i : Int32} {r : jm_Rf}  (hd : decode cc pc = .ok (.iastore, 1)) (h : jm_act K CC (jm_step md cls rt (.iastore) pc ls (.inl x :: .inl i :: .inr (.inr (.inl r)) :: st) μ) = some res)
    (hKm : ∀ pc ls st μ1, jx_le md μ μ1 → K pc ls st μ1 = some res → jx_J p l e R s m args below meth c Q G L xs md n0 nL pc ls st μ1) : jx_J p l e R s m args below meth c Q G L xs md n0 nL pc ls (.inl x :: .inl i :: .inr (.inr (.inl r)) :: st) μ := by
  obtain ⟨hb, h⟩ := jx_bif h
  obtain ⟨hg, h⟩ := jx_gd h
  have hk := Nat.eq_of_beq_eq_true hb
  have h62 := jx_katb hb (by decide)
  exact jy_iastore C hk (by intro z; rw [z] at hk; exact absurd hk (by decide +kernel)) (jx_inI hg) hd (hKm _ _ _ _ (jx_le_uI (by omega) (by omega)) h)
theorem jz_bastore (C : jx_C p s m args c G L xs cc nL own n0) {K : jm_KT} {CC : jm_CT} {cls rt : Nat} {res : jm_V × jm_M} {x i : Int32} {r : jm_Rf}  (hd : decode cc pc = .ok (.bastore, 1)) (h : jm_act K CC (jm_step md cls rt (.bastore) pc ls (.inl x :: .inl i :: .inr (.inr (.inl r)) :: st) μ) = some res)
    (hKm : ∀ pc ls st μ1, jx_le md μ μ1 → K pc ls st μ1 = some res → jx_J p l e R s m args below meth c Q G L xs md n0 nL pc ls st μ1) : jx_J p l e R s m args below meth c Q G L xs md n0 nL pc ls (.inl x :: .inl i :: .inr (.inr (.inl r)) :: st) μ := by
  obtain ⟨hb, h⟩ := jx_bif h
  have h60 := Nat.blt_eq.mp hb
  split at h
  · rename_i hk
    obtain ⟨hg, h⟩ := jx_gd h
    exact jy_bastore2 C hk (by omega) (jx_inI hg) hd (hKm _ _ _ _ (jx_le_uI (by omega) (by omega)) h)
  · rename_i hk
    obtain ⟨hg, h⟩ := jx_gd h
    exact jy_bastore3 C hk (by omega) (jx_inI hg) hd (hKm _ _ _ _ (jx_le_uI (by omega) (by omega)) h)
  · cases h
theorem jz_lastore (C : jx_C p s m args c G L xs cc nL own n0) {K : jm_KT} {CC : jm_CT} {cls rt : Nat} {res : jm_V × jm_M} {x : Int64} {i : Int32} {r : jm_Rf}  (hd : decode cc pc = .ok (.lastore, 1)) (h : jm_act K CC (jm_step md cls rt (.lastore) pc ls (.inr (.inl x) :: .inl i :: .inr (.inr (.inl r)) :: st) μ) = some res)
    (hKm : ∀ pc ls st μ1, jx_le md μ μ1 → K pc ls st μ1 = some res → jx_J p l e R s m args below meth c Q G L xs md n0 nL pc ls st μ1) : jx_J p l e R s m args below meth c Q G L xs md n0 nL pc ls (.inr (.inl x) :: .inl i :: .inr (.inr (.inl r)) :: st) μ := by
  obtain ⟨hb, h⟩ := jx_bif h
  obtain ⟨hg, h⟩ := jx_gd h
  exact jy_lastore C (Nat.eq_of_beq_eq_true hb) (jx_inI hg) hd (hKm _ _ _ _ jx_le_uL h)
theorem jz_aastore (C : jx_C p s m args c G L xs cc nL own n0) {K : jm_KT} {CC : jm_CT} {cls rt : Nat} {res : jm_V × jm_M} {q : jm_Rf} {i : Int32} {r : jm_Rf}  (hd : decode cc pc = .ok (.aastore, 1)) (h : jm_act K CC (jm_step md cls rt (.aastore) pc ls (.inr (.inr (.inl q)) :: .inl i :: .inr (.inr (.inl r)) :: st) μ) = some res)
    (hKm : ∀ pc ls st μ1, jx_le md μ μ1 → K pc ls st μ1 = some res → jx_J p l e R s m args below meth c Q G L xs md n0 nL pc ls st μ1) : jx_J p l e R s m args below meth c Q G L xs md n0 nL pc ls (.inr (.inr (.inl q)) :: .inl i :: .inr (.inr (.inl r)) :: st) μ := by
  obtain ⟨hb, h⟩ := jx_bif h
  obtain ⟨hg, h⟩ := jx_gd h
  simp only [Bool.and_eq_true] at hg
  have h62 := jx_katb hb (by decide)
  exact jy_aastore C hg.1.1.1.1 (Nat.eq_of_beq_eq_true hb) (jx_inI hg.1.1.1.2) (of_decide_eq_true hg.2) (Nat.blt_eq.mp hg.1.1.2) (Nat.eq_of_beq_eq_true hg.1.2) hd (hKm _ _ _ _ (jx_le_uI (by omega) (by omega)) h)
theorem jz_arraylength (C : jx_C p s m args c G L xs cc nL own n0) {K : jm_KT} {CC : jm_CT} {cls rt : Nat} {res : jm_V × jm_M} {r : jm_Rf}  (hd : decode cc pc = .ok (.arraylength, 1)) (h : jm_act K CC (jm_step md cls rt (.arraylength) pc ls (.inr (.inr (.inl r)) :: st) μ) = some res)
    (hKm : ∀ pc ls st μ1, jx_le md μ μ1 → K pc ls st μ1 = some res → jx_J p l e R s m args below meth c Q G L xs md n0 nL pc ls st μ1) : jx_J p l e R s m args below meth c Q G L xs md n0 nL pc ls (.inr (.inr (.inl r)) :: st) μ := by
  obtain ⟨hb, h⟩ := jx_bif h
  simp only [Bool.or_eq_true] at hb
  refine jy_alen C ?_ hd (hKm _ _ _ _ .rf h)
  rcases hb with q | q
  · exact Or.inl (Nat.blt_eq.mp q)
  · exact Or.inr (Nat.eq_of_beq_eq_true q)
theorem jz_ldc (C : jx_C p s m args c G L xs cc nL own n0) {K : jm_KT} {CC : jm_CT} {cls rt : Nat} {res : jm_V × jm_M} {idx : Nat} (hcn : jm_cn[cls]? = some own) (hd : decode cc pc = .ok (.ldc idx, 2)) (h : jm_act K CC (jm_step md cls rt (.ldc idx) pc ls (st) μ) = some res)
    (hKm : ∀ pc ls st μ1, jx_le md μ μ1 → K pc ls st μ1 = some res → jx_J p l e R s m args below meth c Q G L xs md n0 nL pc ls st μ1) : jx_J p l e R s m args below meth c Q G L xs md n0 nL pc ls (st) μ := by
  delta jm_step at h
  dsimp only at h
  cases hf : jm_find (jm_kI.getD cls []) idx with
  | some w => rw [hf] at h; exact jy_ldcI C hcn hf hd (hKm _ _ _ _ .rf h)
  | none =>
    rw [hf] at h
    dsimp only at h
    cases hf2 : jm_find (jm_kS.getD cls []) idx with
    | some w => rw [hf2] at h; exact jy_ldcS C hcn hf2 hd (hKm _ _ _ _ .rf h)
    | none => rw [hf2] at h; cases h
theorem jz_ldc_w (C : jx_C p s m args c G L xs cc nL own n0) {K : jm_KT} {CC : jm_CT} {cls rt : Nat} {res : jm_V × jm_M} {idx : Nat} (hcn : jm_cn[cls]? = some own) (hd : decode cc pc = .ok (.ldc_w idx, 3)) (h : jm_act K CC (jm_step md cls rt (.ldc_w idx) pc ls (st) μ) = some res)
    (hKm : ∀ pc ls st μ1, jx_le md μ μ1 → K pc ls st μ1 = some res → jx_J p l e R s m args below meth c Q G L xs md n0 nL pc ls st μ1) : jx_J p l e R s m args below meth c Q G L xs md n0 nL pc ls (st) μ := by
  delta jm_step at h
  dsimp only at h
  cases hf : jm_find (jm_kI.getD cls []) idx with
  | some w => rw [hf] at h; exact jy_ldcw C hcn hf hd (hKm _ _ _ _ .rf h)
  | none => rw [hf] at h; cases h
theorem jz_ldc2_w (C : jx_C p s m args c G L xs cc nL own n0) {K : jm_KT} {CC : jm_CT} {cls rt : Nat} {res : jm_V × jm_M} {idx : Nat} (hcn : jm_cn[cls]? = some own) (hd : decode cc pc = .ok (.ldc2_w idx, 3)) (h : jm_act K CC (jm_step md cls rt (.ldc2_w idx) pc ls (st) μ) = some res)
    (hKm : ∀ pc ls st μ1, jx_le md μ μ1 → K pc ls st μ1 = some res → jx_J p l e R s m args below meth c Q G L xs md n0 nL pc ls st μ1) : jx_J p l e R s m args below meth c Q G L xs md n0 nL pc ls (st) μ := by
  delta jm_step at h
  dsimp only at h
  cases hf : jm_find (jm_kL.getD cls []) idx with
  | some w => rw [hf] at h; exact jy_ldc2 C hcn hf hd (hKm _ _ _ _ .rf h)
  | none => rw [hf] at h; cases h
theorem jz_new (C : jx_C p s m args c G L xs cc nL own n0) {K : jm_KT} {CC : jm_CT} {cls rt : Nat} {res : jm_V × jm_M} {idx : Nat} (hcn : jm_cn[cls]? = some own) (hn0 : n0 ≤ jm_cnt md μ) (hrc : jm_cnt md res.2 - n0 ≤ R.cells) (hrs : 8600 * (jm_cnt md res.2 - n0) ≤ R.slots) (hKle : ∀ pc ls st μ1, K pc ls st μ1 = some res → jx_le md μ1 res.2) (hd : decode cc pc = .ok (.new idx, 3)) (h : jm_act K CC (jm_step md cls rt (.new idx) pc ls (st) μ) = some res)
    (hKm : ∀ pc ls st μ1, jx_le md μ μ1 → K pc ls st μ1 = some res → jx_J p l e R s m args below meth c Q G L xs md n0 nL pc ls st μ1) : jx_J p l e R s m args below meth c Q G L xs md n0 nL pc ls (st) μ := by
  delta jm_step at h
  dsimp only at h
  cases hf : jm_find (jm_xl.getD cls []) idx with
  | none => rw [hf] at h; cases h
  | some c' =>
  rw [hf] at h
  dsimp only at h
  unfold jm_mk at h
  split at h
  · rename_i r hr
    have hx := jx_gd h
    clear h
    obtain ⟨hg, h⟩ := hx
    simp only [Bool.and_eq_true, decide_eq_true_eq] at hg
    obtain ⟨⟨hm, hok⟩, h0⟩ := hg
    subst hm
    have hcu := jx_cnt_up h0 (jx_lt hr)
    have hle := (hKle _ _ _ _ h).1
    rw [hcu] at hle
    have hk2 : jx_le true μ (jm_uI μ.1 500 0 0 0 (μ.1 500 0 0 0 + 1), μ.2) := ⟨by rw [hcu]; omega, fun i' j' k' => (by show jm_uI μ.1 500 0 0 0 (μ.1 500 0 0 0 + 1) 70 i' j' k' = _; rw [jx_uI_ne (fun z => by omega)])⟩
    exact jy_new C hcn hf hr (Nat.eq_of_beq_eq_true hok) h0 hn0 (by omega) (by omega) hd (hKm _ _ _ _ hk2 h)
  · cases h
theorem jz_newarray (C : jx_C p s m args c G L xs cc nL own n0) {K : jm_KT} {CC : jm_CT} {cls rt : Nat} {res : jm_V × jm_M} {t : ArrayType} {n : Int32} (hn0 : n0 ≤ jm_cnt md μ) (hrc : jm_cnt md res.2 - n0 ≤ R.cells) (hrs : 8600 * (jm_cnt md res.2 - n0) ≤ R.slots) (hKle : ∀ pc ls st μ1, K pc ls st μ1 = some res → jx_le md μ1 res.2) (hd : decode cc pc = .ok (.newarray t, 2)) (h : jm_act K CC (jm_step md cls rt (.newarray t) pc ls (.inl n :: st) μ) = some res)
    (hKm : ∀ pc ls st μ1, jx_le md μ μ1 → K pc ls st μ1 = some res → jx_J p l e R s m args below meth c Q G L xs md n0 nL pc ls st μ1) : jx_J p l e R s m args below meth c Q G L xs md n0 nL pc ls (.inl n :: st) μ := by
  delta jm_step at h
  dsimp only at h
  unfold jm_mk at h
  split at h
  · rename_i r hr
    have hx := jx_gd h
    clear h
    obtain ⟨hg, h⟩ := hx
    simp only [Bool.and_eq_true, decide_eq_true_eq] at hg
    obtain ⟨⟨hm, hok⟩, h0⟩ := hg
    subst hm
    have hcu := jx_cnt_up h0 (jx_lt hr)
    have hle := (hKle _ _ _ _ h).1
    rw [hcu] at hle
    have hk2 : jx_le true μ (jm_uI μ.1 500 0 0 0 (μ.1 500 0 0 0 + 1), μ.2) := ⟨by rw [hcu]; omega, fun i' j' k' => (by show jm_uI μ.1 500 0 0 0 (μ.1 500 0 0 0 + 1) 70 i' j' k' = _; rw [jx_uI_ne (fun z => by omega)])⟩
    exact jy_newarray C hr (Nat.eq_of_beq_eq_true hok.1.1.1) (Nat.blt_eq.mp hok.1.1.2) hok.1.2 (Nat.eq_of_beq_eq_true hok.2) h0 hn0 (by omega) (by omega) hd (hKm _ _ _ _ hk2 h)
  · cases h
theorem jz_anewarray (C : jx_C p s m args c G L xs cc nL own n0) {K : jm_KT} {CC : jm_CT} {cls rt : Nat} {res : jm_V × jm_M} {idx : Nat} {n : Int32} (hcn : jm_cn[cls]? = some own) (hn0 : n0 ≤ jm_cnt md μ) (hrc : jm_cnt md res.2 - n0 ≤ R.cells) (hrs : 8600 * (jm_cnt md res.2 - n0) ≤ R.slots) (hKle : ∀ pc ls st μ1, K pc ls st μ1 = some res → jx_le md μ1 res.2) (hd : decode cc pc = .ok (.anewarray idx, 3)) (h : jm_act K CC (jm_step md cls rt (.anewarray idx) pc ls (.inl n :: st) μ) = some res)
    (hKm : ∀ pc ls st μ1, jx_le md μ μ1 → K pc ls st μ1 = some res → jx_J p l e R s m args below meth c Q G L xs md n0 nL pc ls st μ1) : jx_J p l e R s m args below meth c Q G L xs md n0 nL pc ls (.inl n :: st) μ := by
  delta jm_step at h
  dsimp only at h
  cases hf : jm_find (jm_xl.getD cls []) idx with
  | none => rw [hf] at h; cases h
  | some c' =>
  rw [hf] at h
  dsimp only at h
  unfold jm_mk at h
  split at h
  · rename_i r hr
    have hx := jx_gd h
    clear h
    obtain ⟨hg, h⟩ := hx
    simp only [Bool.and_eq_true, decide_eq_true_eq] at hg
    obtain ⟨⟨hm, hok⟩, h0⟩ := hg
    subst hm
    have hcu := jx_cnt_up h0 (jx_lt hr)
    have hle := (hKle _ _ _ _ h).1
    rw [hcu] at hle
    have hk2 : jx_le true μ (jm_uI μ.1 500 0 0 0 (μ.1 500 0 0 0 + 1), μ.2) := ⟨by rw [hcu]; omega, fun i' j' k' => (by show jm_uI μ.1 500 0 0 0 (μ.1 500 0 0 0 + 1) 70 i' j' k' = _; rw [jx_uI_ne (fun z => by omega)])⟩
    exact jy_anewarray C hcn hf hr (Nat.eq_of_beq_eq_true hok.1.1.1) (Nat.eq_of_beq_eq_true hok.1.1.2) hok.1.2 (Nat.eq_of_beq_eq_true hok.2) h0 hn0 (by omega) (by omega) hd (hKm _ _ _ _ hk2 h)
  · cases h
theorem jz_invokevirtual (C : jx_C p s m args c G L xs cc nL own n0) {K : jm_KT} {CC : jm_CT} {cls rt : Nat} {res : jm_V × jm_M} {idx : Nat} {d : Nat} (hcn : jm_cn[cls]? = some own) (hfr : d + 1 ≤ R.frames) (hlo : 80 * (d + 1) ≤ R.locals) (hn0 : n0 ≤ jm_cnt md μ) (hrc : jm_cnt md res.2 - n0 ≤ R.cells) (hrs : 8600 * (jm_cnt md res.2 - n0) ≤ R.slots) (hKle : ∀ pc ls st μ1, K pc ls st μ1 = some res → jx_le md μ1 res.2) (hCC : ∀ k as μ1 w μ2, CC k as μ1 = some (w, μ2) → jx_le md μ1 μ2 ∧ jx_Mt l md d k as μ1 w μ2 ∧ ∀ t, jm_mt[k]? = some t → t.2.1 = 0 → w = jm_j)(hik : jx_ik cls (.invokevirtual idx) = true) (hd : decode cc pc = .ok (.invokevirtual idx, 3)) (h : jm_act K CC (jm_step md cls rt (.invokevirtual idx) pc ls (st) μ) = some res)
    (hKm : ∀ pc ls st μ1, jx_le md μ μ1 → K pc ls st μ1 = some res → jx_J p l e R s m args below meth c Q G L xs md n0 nL pc ls st μ1) : jx_J p l e R s m args below meth c Q G L xs md n0 nL pc ls (st) μ := by
  delta jm_step at h
  dsimp only at h
  cases hf : jm_find (jm_ml.getD cls []) idx with
  | none => rw [hf] at h; cases h
  | some w =>
    obtain ⟨k, np, rk⟩ := w
    rw [hf] at h
    dsimp only at h
    have hk : k ≠ 1000 ∧ k ≠ 1001 ∧ k ≠ 1002 ∧ k ≠ 1003 := by
      have h353 : k < 353 := by
        simp only [jx_ik, jx_kck, hf, List.all_cons, List.all_nil, Bool.and_true] at hik
        cases hq : jx_y[k]? with
        | none => rw [hq] at hik; cases hik
        | some q =>
          have := (List.getElem?_eq_some_iff.mp hq).1
          rwa [jx_y_len] at this
      omega
    obtain ⟨hb, h⟩ := jx_bif h
    simp only [Bool.and_eq_true] at hb
    have hkind : ∀ q, jx_y[k]? = some q → q.2.1 = 1 := by
      intro q hq
      simp only [jx_ik, jx_kck, hf, hq, List.all_cons, List.all_nil, Bool.and_true, Bool.or_eq_true] at hik
      exact Nat.eq_of_beq_eq_true hik
    obtain ⟨q, t, hq, ht, -, -, hrk⟩ := (show ∃ (q : jx_YT) (t : Nat × Nat × Nat × jm_Cd), jx_y[k]? = some q ∧ jm_mt[k]? = some t ∧ (Cond.methodLink own idx q.1 ∈ jx_gw ∨ (jx_nst own idx q.1 = true ∧ q.2.1 = 2)) ∧ np = q.2.2.1 + (match q.2.1 with | 0 => 0 | _ => 1) ∧ rk = jx_rk t.2.1 from by
      rcases jx_link hcn hf with z | z | z | z | z
      · exact absurd z.1 hk.1
      · exact absurd z.1 hk.2.1
      · exact absurd z.1 hk.2.2.1
      · exact absurd z.1 hk.2.2.2
      · exact z.2.2.2.2)
    have h5 := (jx_meth hq ht).2.2.2.2.2.2.2.2.2.2.1
    have hrt2 : rk ≤ 2 ∧ (rk = 0 → t.2.1 = 0) := by
      rw [hrk]
      have key : ∀ a, a ≤ 5 → jx_rk a ≤ 2 ∧ (jx_rk a = 0 → a = 0) := by decide
      exact key _ h5
    obtain ⟨w, μ2, hc, hk2⟩ := jx_call_inv hrt2.1 h
    obtain ⟨hle, hMt, hsh⟩ := hCC _ _ _ _ _ hc
    have h := hk2 (fun z => hsh t ht (hrt2.2 z))
    have hle2 := (hKle _ _ _ _ h).1
    exact jy_callV C hcn hf hk hkind (Nat.le_of_ble_eq_true hb.1.1) (Nat.le_of_ble_eq_true hb.1.2) hb.2 hfr hlo hn0 hle (by omega) (by omega) hMt hd (hKm _ _ _ _ hle h)
theorem jz_invokestatic (C : jx_C p s m args c G L xs cc nL own n0) {K : jm_KT} {CC : jm_CT} {cls rt : Nat} {res : jm_V × jm_M} {idx : Nat} {d : Nat} (hcn : jm_cn[cls]? = some own) (hfr : d + 1 ≤ R.frames) (hlo : 80 * (d + 1) ≤ R.locals) (hn0 : n0 ≤ jm_cnt md μ) (hrc : jm_cnt md res.2 - n0 ≤ R.cells) (hrs : 8600 * (jm_cnt md res.2 - n0) ≤ R.slots) (hKle : ∀ pc ls st μ1, K pc ls st μ1 = some res → jx_le md μ1 res.2) (hCC : ∀ k as μ1 w μ2, CC k as μ1 = some (w, μ2) → jx_le md μ1 μ2 ∧ jx_Mt l md d k as μ1 w μ2 ∧ ∀ t, jm_mt[k]? = some t → t.2.1 = 0 → w = jm_j)(hik : jx_ik cls (.invokestatic idx) = true) (hd : decode cc pc = .ok (.invokestatic idx, 3)) (h : jm_act K CC (jm_step md cls rt (.invokestatic idx) pc ls (st) μ) = some res)
    (hKm : ∀ pc ls st μ1, jx_le md μ μ1 → K pc ls st μ1 = some res → jx_J p l e R s m args below meth c Q G L xs md n0 nL pc ls st μ1) : jx_J p l e R s m args below meth c Q G L xs md n0 nL pc ls (st) μ := by
  delta jm_step at h
  dsimp only at h
  have hlnk := fun k np rk (hf : jm_find (jm_ml.getD cls []) idx = some (k, np, rk)) => jx_link hcn hf
  split at h
  · rename_i np rk hf
    have hl : Cond.methodLink own idx arraycopyName ∈ jx_gw := by
      rcases hlnk _ _ _ hf with z | z | z | z | z
      · exact z.2
      · exact absurd z.1 (by decide)
      · exact absurd z.1 (by decide)
      · exact absurd z.1 (by decide)
      · exact absurd rfl z.1
    split at h
    · rename_i n dp b sp a st
      by_cases h1 : (Nat.beq (jm_kat a.1) 0 && Nat.beq (jm_kat b.1) 0 && Nat.ble (jm_cs st) 8) = true
      · rw [h1] at h
        obtain ⟨hg, h⟩ := jx_gd h
        simp only [Bool.and_eq_true] at h1
        have h62 := jx_katb h1.1.2 (by decide)
        exact jy_copyI C (Nat.eq_of_beq_eq_true h1.1.1) (Nat.eq_of_beq_eq_true h1.1.2) (jx_dcd hg) (Nat.le_of_ble_eq_true h1.2) (by omega) (by omega) hl hd (hKm _ _ _ _ (jx_le_cI (by omega) (by omega)) h)
      · rw [Bool.not_eq_true] at h1
        rw [h1] at h
        obtain ⟨hg2, h⟩ := jx_bif h
        obtain ⟨hg, h⟩ := jx_gd h
        simp only [Bool.and_eq_true] at hg2
        exact jy_copyL C (Nat.eq_of_beq_eq_true hg2.1.1) (Nat.eq_of_beq_eq_true hg2.1.2) (jx_dcd hg) (Nat.le_of_ble_eq_true hg2.2) (by omega) (by omega) hl hd (hKm _ _ _ _ jx_le_uL h)
    · cases h
  · rename_i np rk hf
    have hl : Cond.methodLink own idx Lib.Math.max.name ∈ jx_gw := by
      rcases hlnk _ _ _ hf with z | z | z | z | z
      · exact absurd z.1 (by decide)
      · exact absurd z.1 (by decide)
      · exact z.2
      · exact absurd z.1 (by decide)
      · exact absurd rfl z.2.2.1
    split at h
    · rename_i y x st
      obtain ⟨hg, h⟩ := jx_bif h
      have hle := (hKle _ _ _ _ h).1
      exact jy_max C (Nat.le_of_ble_eq_true hg) (by omega) (by omega) (by omega) (by omega) hl hd (hKm _ _ _ _ .rf h)
    · cases h
  · rename_i np rk hf
    have hl : Cond.methodLink own idx Lib.Math.min.name ∈ jx_gw := by
      rcases hlnk _ _ _ hf with z | z | z | z | z
      · exact absurd z.1 (by decide)
      · exact absurd z.1 (by decide)
      · exact absurd z.1 (by decide)
      · exact z.2
      · exact absurd rfl z.2.2.2.1
    split at h
    · rename_i y x st
      obtain ⟨hg, h⟩ := jx_bif h
      have hle := (hKle _ _ _ _ h).1
      exact jy_min C (Nat.le_of_ble_eq_true hg) (by omega) (by omega) (by omega) (by omega) hl hd (hKm _ _ _ _ .rf h)
    · cases h
  · rename_i k np rk n1 n2 n3 hf
    have hk : k ≠ 1000 ∧ k ≠ 1001 ∧ k ≠ 1002 ∧ k ≠ 1003 := by
      refine ⟨fun z => ?_, fun z => ?_, fun z => ?_, fun z => ?_⟩
      · subst z; exact n1 rfl
      · subst z
        simp only [jx_ik, jx_kck, hf, List.all_cons, List.all_nil, Bool.and_true] at hik
        exact absurd hik (by decide +kernel)
      · subst z; exact n2 rfl
      · subst z; exact n3 rfl
    obtain ⟨hb, h⟩ := jx_bif h
    simp only [Bool.and_eq_true] at hb
    have hkind : ∀ q, jx_y[k]? = some q → q.2.1 = 0 := by
      intro q hq
      simp only [jx_ik, jx_kck, hf, hq, List.all_cons, List.all_nil, Bool.and_true, Bool.or_eq_true] at hik
      rcases hik with ((z | z) | z) | z
      · exact absurd (Nat.eq_of_beq_eq_true z) hk.1
      · exact absurd (Nat.eq_of_beq_eq_true z) hk.2.2.1
      · exact absurd (Nat.eq_of_beq_eq_true z) hk.2.2.2
      · exact Nat.eq_of_beq_eq_true z
    obtain ⟨q, t, hq, ht, -, -, hrk⟩ := (show ∃ (q : jx_YT) (t : Nat × Nat × Nat × jm_Cd), jx_y[k]? = some q ∧ jm_mt[k]? = some t ∧ (Cond.methodLink own idx q.1 ∈ jx_gw ∨ (jx_nst own idx q.1 = true ∧ q.2.1 = 2)) ∧ np = q.2.2.1 + (match q.2.1 with | 0 => 0 | _ => 1) ∧ rk = jx_rk t.2.1 from by
      rcases jx_link hcn hf with z | z | z | z | z
      · exact absurd z.1 hk.1
      · exact absurd z.1 hk.2.1
      · exact absurd z.1 hk.2.2.1
      · exact absurd z.1 hk.2.2.2
      · exact z.2.2.2.2)
    have h5 := (jx_meth hq ht).2.2.2.2.2.2.2.2.2.2.1
    have hrt2 : rk ≤ 2 ∧ (rk = 0 → t.2.1 = 0) := by
      rw [hrk]
      have key : ∀ a, a ≤ 5 → jx_rk a ≤ 2 ∧ (jx_rk a = 0 → a = 0) := by decide
      exact key _ h5
    obtain ⟨w, μ2, hc, hk2⟩ := jx_call_inv hrt2.1 h
    obtain ⟨hle, hMt, hsh⟩ := hCC _ _ _ _ _ hc
    have h := hk2 (fun z => hsh t ht (hrt2.2 z))
    have hle2 := (hKle _ _ _ _ h).1
    exact jy_callS C hcn hf hk hkind (Nat.le_of_ble_eq_true hb.1) (Nat.le_of_ble_eq_true hb.2) hfr hlo hn0 hle (by omega) (by omega) hMt hd (hKm _ _ _ _ hle h)
  · cases h
theorem jz_invokespecial (C : jx_C p s m args c G L xs cc nL own n0) {K : jm_KT} {CC : jm_CT} {cls rt : Nat} {res : jm_V × jm_M} {idx : Nat} {d : Nat} (hcn : jm_cn[cls]? = some own) (hfr : d + 1 ≤ R.frames) (hlo : 80 * (d + 1) ≤ R.locals) (hn0 : n0 ≤ jm_cnt md μ) (hrc : jm_cnt md res.2 - n0 ≤ R.cells) (hrs : 8600 * (jm_cnt md res.2 - n0) ≤ R.slots) (hKle : ∀ pc ls st μ1, K pc ls st μ1 = some res → jx_le md μ1 res.2) (hCC : ∀ k as μ1 w μ2, CC k as μ1 = some (w, μ2) → jx_le md μ1 μ2 ∧ jx_Mt l md d k as μ1 w μ2 ∧ ∀ t, jm_mt[k]? = some t → t.2.1 = 0 → w = jm_j)(hik : jx_ik cls (.invokespecial idx) = true) (hd : decode cc pc = .ok (.invokespecial idx, 3)) (h : jm_act K CC (jm_step md cls rt (.invokespecial idx) pc ls (st) μ) = some res)
    (hKm : ∀ pc ls st μ1, jx_le md μ μ1 → K pc ls st μ1 = some res → jx_J p l e R s m args below meth c Q G L xs md n0 nL pc ls st μ1) : jx_J p l e R s m args below meth c Q G L xs md n0 nL pc ls (st) μ := by
  delta jm_step at h
  dsimp only at h
  have hlnk := fun k np rk (hf : jm_find (jm_ml.getD cls []) idx = some (k, np, rk)) => jx_link hcn hf
  split at h
  · rename_i np rk hf
    have hl : Cond.methodLink own idx objectInit ∈ jx_gw := by
      rcases hlnk _ _ _ hf with z | z | z | z | z
      · exact absurd z.1 (by decide)
      · exact z.2
      · exact absurd z.1 (by decide)
      · exact absurd z.1 (by decide)
      · exact absurd rfl z.2.1
    split at h
    · rename_i r st
      obtain ⟨hg, h⟩ := jx_bif h
      simp only [Bool.and_eq_true] at hg
      exact jy_objInit C (Nat.blt_eq.mp hg.2) (Nat.le_of_ble_eq_true hg.1) (by omega) (by omega) hl hd (hKm _ _ _ _ .rf h)
    · cases h
  · rename_i k np rk n1 hf
    have hk : k ≠ 1000 ∧ k ≠ 1001 ∧ k ≠ 1002 ∧ k ≠ 1003 := by
      have h1 : k ≠ 1001 := fun z => by subst z; exact n1 rfl
      have h353 : k < 353 := by
        simp only [jx_ik, jx_kck, hf, List.all_cons, List.all_nil, Bool.and_true, Bool.or_eq_true] at hik
        rcases hik with z | z
        · exact absurd (Nat.eq_of_beq_eq_true z) h1
        · cases hq : jx_y[k]? with
          | none => rw [hq] at z; cases z
          | some q =>
            have := (List.getElem?_eq_some_iff.mp hq).1
            rwa [jx_y_len] at this
      omega
    obtain ⟨hb, h⟩ := jx_bif h
    simp only [Bool.and_eq_true] at hb
    have hkind : ∀ q, jx_y[k]? = some q → q.2.1 = 2 := by
      intro q hq
      simp only [jx_ik, jx_kck, hf, hq, List.all_cons, List.all_nil, Bool.and_true, Bool.or_eq_true] at hik
      rcases hik with z | z
      · exact absurd (Nat.eq_of_beq_eq_true z) hk.2.1
      · exact Nat.eq_of_beq_eq_true z
    obtain ⟨q, t, hq, ht, -, -, hrk⟩ := (show ∃ (q : jx_YT) (t : Nat × Nat × Nat × jm_Cd), jx_y[k]? = some q ∧ jm_mt[k]? = some t ∧ (Cond.methodLink own idx q.1 ∈ jx_gw ∨ (jx_nst own idx q.1 = true ∧ q.2.1 = 2)) ∧ np = q.2.2.1 + (match q.2.1 with | 0 => 0 | _ => 1) ∧ rk = jx_rk t.2.1 from by
      rcases jx_link hcn hf with z | z | z | z | z
      · exact absurd z.1 hk.1
      · exact absurd z.1 hk.2.1
      · exact absurd z.1 hk.2.2.1
      · exact absurd z.1 hk.2.2.2
      · exact z.2.2.2.2)
    have h5 := (jx_meth hq ht).2.2.2.2.2.2.2.2.2.2.1
    have hrt2 : rk ≤ 2 ∧ (rk = 0 → t.2.1 = 0) := by
      rw [hrk]
      have key : ∀ a, a ≤ 5 → jx_rk a ≤ 2 ∧ (jx_rk a = 0 → a = 0) := by decide
      exact key _ h5
    obtain ⟨w, μ2, hc, hk2⟩ := jx_call_inv hrt2.1 h
    obtain ⟨hle, hMt, hsh⟩ := hCC _ _ _ _ _ hc
    have h := hk2 (fun z => hsh t ht (hrt2.2 z))
    have hle2 := (hKle _ _ _ _ h).1
    exact jy_callI C hcn hf hk hkind (Nat.le_of_ble_eq_true hb.1.1.2) (Nat.le_of_ble_eq_true hb.1.2) hb.2 hfr hlo hn0 hle (by omega) (by omega) hMt hd (hKm _ _ _ _ hle h)
  · cases h
end JXM
