/-! ===== frames: a run changes only the cells that it can reach ===== -/
def jf_v (S : jm_Rf → Prop) : jm_V → Prop
  | .inr (.inr (.inl r)) => S r
  | _ => True
def jf_l (S : jm_Rf → Prop) (l : List jm_V) : Prop := ∀ v ∈ l, jf_v S v
theorem jf_nil {S : jm_Rf → Prop} : jf_l S [] := fun v h => by cases h
theorem jf_cons {S : jm_Rf → Prop} {v : jm_V} {l : List jm_V} : jf_l S (v :: l) ↔ jf_v S v ∧ jf_l S l := by
  constructor
  · exact fun h => ⟨h v List.mem_cons_self, fun u hu => h u (List.mem_cons_of_mem _ hu)⟩
  · rintro ⟨h1, h2⟩ u hu
    rcases List.mem_cons.mp hu with rfl | hu
    · exact h1
    · exact h2 u hu
theorem jf_vi {S : jm_Rf → Prop} {x : Int32} : jf_v S (.inl x) ↔ True := Iff.rfl
theorem jf_vl {S : jm_Rf → Prop} {x : Int64} : jf_v S (.inr (.inl x)) ↔ True := Iff.rfl
theorem jf_vr {S : jm_Rf → Prop} {r : jm_Rf} : jf_v S (.inr (.inr (.inl r))) ↔ S r := Iff.rfl
theorem jf_set {S : jm_Rf → Prop} {l : List jm_V} {i : Nat} {v : jm_V} (h : jf_l S l) (hv : jf_v S v) : jf_l S (l.set i v) := fun u hu => by
  rcases List.mem_or_eq_of_mem_set hu with h1 | rfl
  · exact h u h1
  · exact hv
theorem jf_l1 {S : jm_Rf → Prop} {l : List jm_V} {i : Nat} {v : jm_V} (h : jf_l S l) (hv : jf_v S v) : jf_l S (jm_l1 l i v) := jf_set h hv
theorem jf_l2 {S : jm_Rf → Prop} {l : List jm_V} {i : Nat} {v : jm_V} (h : jf_l S l) (hv : jf_v S v) : jf_l S (jm_l2 l i v) := jf_set (v := jm_j) (jf_set h hv) trivial
theorem jf_g {S : jm_Rf → Prop} {l : List jm_V} {i : Nat} (h : jf_l S l) : jf_v S (jm_g l i) := by
  unfold jm_g List.getD
  cases hi : l[i]? with
  | none => exact (trivial : jf_v S jm_j)
  | some v => exact h v (List.mem_of_getElem? hi)
theorem jf_gr {S : jm_Rf → Prop} {l : List jm_V} {i : Nat} {r : jm_Rf} (h : jf_l S l) (hg : jm_g l i = .inr (.inr (.inl r))) : S r := by
  have := jf_g (i := i) h
  rw [hg] at this
  exact this
/-- cells out of S stay -/
def jf_m (S : jm_Rf → Prop) (μ μ' : jm_M) : Prop := ∀ r : jm_Rf, (¬ S r ∨ 60 ≤ r.1) → μ'.1 r.1 r.2.1 r.2.2 = μ.1 r.1 r.2.1 r.2.2 ∧ μ'.2 r.1 r.2.1 r.2.2 = μ.2 r.1 r.2.1 r.2.2
theorem jf_m.rf {S : jm_Rf → Prop} {μ : jm_M} : jf_m S μ μ := fun _ _ => ⟨rfl, rfl⟩
theorem jf_m.tr {S : jm_Rf → Prop} {a b c : jm_M} (h1 : jf_m S a b) (h2 : jf_m S b c) : jf_m S a c := fun r hr => ⟨(h2 r hr).1.trans (h1 r hr).1, (h2 r hr).2.trans (h1 r hr).2⟩
theorem jf_uI {S : jm_Rf → Prop} {μ : jm_M} {r : jm_Rf} {k : Nat} {x : Int32} (h : S r) (h6 : r.1 < 60) : jf_m S μ (jm_uI μ.1 r.1 r.2.1 r.2.2 k x, μ.2) := fun q hq => by
  refine ⟨jx_uI_ne (fun z => ?_), rfl⟩
  have e : q = r := Prod.ext z.1 (Prod.ext z.2.1 z.2.2)
  rw [e] at hq
  rcases hq with y | y
  · exact y h
  · omega
theorem jf_uL {S : jm_Rf → Prop} {μ : jm_M} {r : jm_Rf} {k : Nat} {x : Int64} (h : S r) (h6 : r.1 < 60) : jf_m S μ (μ.1, jm_uL μ.2 r.1 r.2.1 r.2.2 k x) := fun q hq => by
  refine ⟨rfl, jx_uL_ne (fun z => ?_)⟩
  have e : q = r := Prod.ext z.1 (Prod.ext z.2.1 z.2.2)
  rw [e] at hq
  rcases hq with y | y
  · exact y h
  · omega
theorem jf_cI {S : jm_Rf → Prop} {μ : jm_M} {a r : jm_Rf} {sp dp n : Nat} (h : S r) (h6 : r.1 < 60) : jf_m S μ (jm_cI μ.1 a r sp dp n, μ.2) := fun q hq => by
  refine ⟨jx_cI_ne (fun z => ?_), rfl⟩
  have e : q = r := Prod.ext z.1 (Prod.ext z.2.1 z.2.2)
  rw [e] at hq
  rcases hq with y | y
  · exact y h
  · omega
theorem jf_cL {S : jm_Rf → Prop} {μ : jm_M} {a r : jm_Rf} {sp dp n : Nat} (h : S r) (h6 : r.1 < 60) : jf_m S μ (μ.1, jm_cL μ.2 a r sp dp n) := fun q hq => by
  refine ⟨rfl, jx_cL_ne (fun z => ?_)⟩
  have e : q = r := Prod.ext z.1 (Prod.ext z.2.1 z.2.2)
  rw [e] at hq
  rcases hq with y | y
  · exact y h
  · omega
/-- a set of cells from which one can't get out -/
def jf_S (S : jm_Rf → Prop) : Prop := (∀ r, S r → ∀ k, S (jm_R r.1 r.2.1 r.2.2 k)) ∧ ∀ i, S (60, i, 0) ∧ S (62, 0, 0)
def jf_s (S : jm_Rf → Prop) (μ : jm_M) (s : jm_S) : Prop := jf_l S s.2.1 ∧ jf_l S s.2.2.1 ∧ jf_m S μ s.2.2.2
def jf_a (S : jm_Rf → Prop) (μ : jm_M) : Option jm_A → Prop
  | none => True
  | some (.inl (b, s1, s2)) => (b = true → ∀ s, s1 = some s → jf_s S μ s) ∧ (b = false → ∀ s, s2 = some s → jf_s S μ s)
  | some (.inr (.inl (_, _, s))) => jf_s S μ s
  | some (.inr (.inr (.inl (_, as, _, s)))) => jf_l S as ∧ jf_s S μ s
  | some (.inr (.inr (.inr (_, v, μ1)))) => jf_v S v ∧ jf_m S μ μ1
section JF
variable {S : jm_Rf → Prop} {rt : Nat} {μ μ1 : jm_M} {pc pc2 : Nat} {ls ls1 st st1 : List jm_V}
theorem jf_none : jf_a S μ none := trivial
theorem jf_go (h1 : jf_l S ls1) (h2 : jf_l S st1) (h3 : jf_m S μ μ1) : jf_a S μ (jm_go pc ls1 st1 μ1) := ⟨fun _ s hs => (by cases hs; exact ⟨h1, h2, h3⟩), fun hb => by cases hb⟩
theorem jf_gd {b : Bool} (h : b = true → jf_l S ls1 ∧ jf_l S st1 ∧ jf_m S μ μ1) : jf_a S μ (jm_gd b pc ls1 st1 μ1) := ⟨fun hb s hs => (by cases hs; exact h hb), fun _ s hs => by cases hs⟩
theorem jf_bc {b : Bool} (h1 : jf_l S ls1) (h2 : jf_l S st1) (h3 : jf_m S μ μ1) : jf_a S μ (jm_bc b pc pc2 ls1 st1 μ1) := ⟨fun _ s hs => (by cases hs; exact ⟨h1, h2, h3⟩), fun _ s hs => by cases hs; exact ⟨h1, h2, h3⟩⟩
theorem jf_if {b : Bool} {a : Option jm_A} (h : b = true → jf_a S μ a) : jf_a S μ (cond b a none) := by
  cases b with
  | true => exact h rfl
  | false => trivial
theorem jf_cond {b : Bool} {a a' : Option jm_A} (h : b = true → jf_a S μ a) (h' : jf_a S μ a') : jf_a S μ (cond b a a') := by
  cases b with
  | true => exact h rfl
  | false => exact h'
theorem jf_getf (hS : jf_S S) {ty : Nat} {r : jm_Rf} {k : Nat} (hl : jf_l S ls) (hs : jf_l S st) (hr : S r) : jf_a S μ (jm_getf false ty r k pc ls st μ) := by
  unfold jm_getf jm_ra
  split
  · exact jf_go hl (jf_cons.mpr ⟨trivial, hs⟩) .rf
  · exact jf_go hl (jf_cons.mpr ⟨trivial, hs⟩) .rf
  · exact jf_go hl (jf_cons.mpr ⟨trivial, hs⟩) .rf
  · exact jf_gd (fun _ => ⟨hl, jf_cons.mpr ⟨hS.1 r hr k, hs⟩, .rf⟩)
theorem jf_putf {ty : Nat} {r : jm_Rf} {k : Nat} {v : jm_V} (hl : jf_l S ls) (hs : jf_l S st) (hr : S r) (h6 : r.1 < 60) : jf_a S μ (jm_putf false ty r k v pc ls st μ) := by
  unfold jm_putf
  split
  · exact jf_go hl hs (jf_uI hr h6)
  · exact jf_gd (fun _ => ⟨hl, hs, jf_uI hr h6⟩)
  · exact jf_go hl hs (jf_uL hr h6)
  · exact jf_gd (fun hb => by simp at hb)
  · trivial
theorem jf_mk {ok : jm_Rf → Bool} : jf_a S μ (jm_mk false ok pc ls st μ) := by
  unfold jm_mk
  split
  · exact jf_gd (fun hb => by simp at hb)
  · trivial
theorem jf_call {k np rk : Nat} (hl : jf_l S ls) (hs : jf_l S st) : jf_a S μ (jm_call k np rk pc ls st μ) :=
  ⟨fun v hv => hs v (List.mem_of_mem_take (List.mem_reverse.mp hv)), hl, fun v hv => hs v (List.mem_of_mem_drop hv), .rf⟩
theorem jf_sw {x : Int32} {ps : List (Int32 × Nat)} {d : Nat} (hl : jf_l S ls1) (hs : jf_l S st1) : jf_a S μ (some (.inr (.inl (x, ps, d, ls1, st1, μ)))) := ⟨hl, hs, .rf⟩
theorem jf_ret {b : Bool} {v : jm_V} (h : jf_v S v) : jf_a S μ (some (.inr (.inr (.inr (b, v, μ))))) := ⟨h, .rf⟩
theorem jx_k01 : ∀ K, K < 62 → (jm_kat K = 0 ∨ jm_kat K = 1) → K < 60 := by decide +kernel
theorem jx_k0 {K : Nat} (h : Nat.beq (jm_kat K) 0 = true) : K < 60 := jx_k01 K (jx_katb h (by decide)) (Or.inl (Nat.eq_of_beq_eq_true h))
theorem jx_k1 {K : Nat} (h : Nat.beq (jm_kat K) 1 = true) : K < 60 := jx_k01 K (jx_katb h (by decide)) (Or.inr (Nat.eq_of_beq_eq_true h))
theorem jx_b12 {a b c : Bool} (h : (a && b && c) = true) : b = true := by
  cases a <;> cases b <;> cases c <;> first | rfl | cases h
set_option maxHeartbeats 4000000 in
set_option maxRecDepth 100000 in
theorem jf_step (hS : jf_S S) (cls : Nat) (ins : Instr) (hl : jf_l S ls) (hs : jf_l S st) : jf_a S μ (jm_step false cls rt ins pc ls st μ) := by
  unfold jm_step
  split
  all_goals repeat' with_reducible first
    | exact jf_none
    | exact jf_mk
    | exact jf_call hl hs
    | exact jf_go hl hs jf_m.rf
    | refine jf_if (fun hb => ?_)
    | refine jf_cond (fun hb => ?_) ?_
    | split
  all_goals (try simp only [jf_cons, jf_vi, jf_vl, jf_vr, true_and] at hs)
  all_goals with_reducible first
    | (refine jf_go hl ?_ jf_m.rf; simp [jf_cons, jf_vi, jf_vl, jf_vr, hs]; done)
    | exact jf_go hl (jf_cons.mpr ⟨jf_vr.mpr (jf_gr hl (by assumption)), hs⟩) jf_m.rf
    | (refine jf_go (jf_l1 hl (jf_vi.mpr trivial)) ?_ jf_m.rf; simp [jf_cons, jf_vi, jf_vl, jf_vr, hs]; done)
    | (refine jf_go (jf_l2 hl (jf_vl.mpr trivial)) ?_ jf_m.rf; simp [jf_cons, jf_vi, jf_vl, jf_vr, hs]; done)
    | exact jf_go (jf_l1 hl (jf_vr.mpr hs.1)) hs.2 jf_m.rf
    | (refine jf_gd (fun _ => ⟨hl, ?_, jf_m.rf⟩); simp [jf_cons, jf_vi, jf_vl, jf_vr, hs]; done)
    | (refine jf_bc hl ?_ jf_m.rf; simp [jf_cons, jf_vi, jf_vl, jf_vr, hs]; done)
    | (refine jf_sw hl ?_; simp [jf_cons, jf_vi, jf_vl, jf_vr, hs]; done)
    | exact jf_getf hS hl hs.2 hs.1
    | exact jf_putf hl hs.2.2 hs.2.1 (Nat.blt_eq.mp (jx_b12 hb))
    | exact jf_gd (fun _ => ⟨hl, hs.2, jf_uI hs.1 (jx_k0 hb)⟩)
    | exact jf_gd (fun _ => ⟨hl, hs.2, jf_uI hs.1 (Nat.blt_eq.mp hb)⟩)
    | exact jf_gd (fun _ => ⟨hl, hs.2, jf_uL hs.1 (jx_k1 hb)⟩)
    | (refine jf_gd (fun hb => ?_); simp at hb; done)
    | exact jf_gd (fun _ => ⟨hl, jf_cons.mpr ⟨jf_vr.mpr (hS.1 _ hs.1 _), hs.2⟩, jf_m.rf⟩)
    | exact jf_gd (fun _ => ⟨hl, hs.2.2, jf_cI hs.1 (jx_k0 (jx_b12 hb))⟩)
    | exact jf_gd (fun _ => ⟨hl, hs.2.2, jf_cL hs.1 (jx_k1 (jx_b12 hb))⟩)
    | exact jf_go hl (jf_cons.mpr ⟨jf_vr.mpr (hS.2 _).1, hs⟩) jf_m.rf
    | exact jf_go hl (jf_cons.mpr ⟨jf_vr.mpr (hS.2 0).2, hs⟩) jf_m.rf
    | exact jf_ret (jf_vi.mpr trivial)
    | exact jf_ret (jf_vl.mpr trivial)
    | skip
  all_goals first
    | exact jf_ret (trivial : jf_v S jm_j)
    | exact jf_gd (fun _ => ⟨hl, jf_cons.mpr ⟨hS.1 _ hs.1 _, hs.2⟩, jf_m.rf⟩)
    | exact jf_go hl (jf_cons.mpr ⟨(hS.2 0).2, hs⟩) jf_m.rf
    | exact jf_go hl (jf_cons.mpr ⟨(hS.2 _).1, hs⟩) jf_m.rf
theorem jf_act (hS : jf_S S) {K : jm_KT} {C : jm_CT} (hK : ∀ pc ls st μ1 r, jf_l S ls → jf_l S st → K pc ls st μ1 = some r → jf_v S r.1 ∧ jf_m S μ1 r.2) (hC : ∀ k as μ1 r, jf_l S as → C k as μ1 = some r → jf_v S r.1 ∧ jf_m S μ1 r.2) (a : Option jm_A) (ha : jf_a S μ a) (r : jm_V × jm_M) (h : jm_act K C a = some r) : jf_v S r.1 ∧ jf_m S μ r.2 := by
  match a, ha, h with
  | some (.inl (b, s1, s2)), ha, h =>
    cases b with
    | true =>
      cases s1 with
      | none => cases h
      | some s =>
        have h0 := ha.1 rfl s rfl
        have h1 := hK _ _ _ _ _ h0.1 h0.2.1 h
        exact ⟨h1.1, h0.2.2.tr h1.2⟩
    | false =>
      cases s2 with
      | none => cases h
      | some s =>
        have h0 := ha.2 rfl s rfl
        have h1 := hK _ _ _ _ _ h0.1 h0.2.1 h
        exact ⟨h1.1, h0.2.2.tr h1.2⟩
  | some (.inr (.inl (x, ps, d, ls, st, μ1))), ha, h =>
    obtain ⟨t, ht⟩ := jm_sw_eq (α := Option (jm_V × jm_M)) x ps d
    simp only [jm_act, ht] at h
    have h1 := hK _ _ _ _ _ ha.1 ha.2.1 h
    exact ⟨h1.1, jf_m.tr ha.2.2 h1.2⟩
  | some (.inr (.inr (.inl (k, as, rk, pc, ls, st, μ1)))), ha, h =>
    cases hc : C k as μ1 with
    | none =>
      match rk with
      | 0 => simp [jm_act, hc, jm_bv] at h
      | 1 => simp [jm_act, hc, jm_bi] at h
      | 2 => simp [jm_act, hc, jm_bl] at h
      | _ + 3 => simp [jm_act, hc, jm_br] at h
    | some q =>
      have hc' := hC _ _ _ _ ha.1 hc
      obtain ⟨v, μ'⟩ := q
      have fin : ∀ pc st, jf_l S st → K pc ls st μ' = some r → jf_v S r.1 ∧ jf_m S μ r.2 := fun pc st hs h => by
        have h1 := hK _ _ _ _ _ ha.2.1 hs h
        exact ⟨h1.1, (jf_m.tr ha.2.2.2 hc'.2).tr h1.2⟩
      match rk with
      | 0 => simp only [jm_act, hc, jm_bv] at h; exact fin _ _ ha.2.2.1 h
      | 1 =>
        simp only [jm_act, hc, jm_bi] at h
        rcases v with x | x | x | x <;> first | exact fin _ _ (jf_cons.mpr ⟨jf_vi.mpr trivial, ha.2.2.1⟩) h | cases h
      | 2 =>
        simp only [jm_act, hc, jm_bl] at h
        rcases v with x | x | x | x <;> first | exact fin _ _ (jf_cons.mpr ⟨jf_vl.mpr trivial, ha.2.2.1⟩) h | cases h
      | _ + 3 =>
        simp only [jm_act, hc, jm_br] at h
        rcases v with x | x | x | x <;> first | exact fin _ _ (jf_cons.mpr ⟨hc'.1, ha.2.2.1⟩) h | cases h
  | some (.inr (.inr (.inr (b, v, μ1)))), ha, h =>
    cases b with
    | true => cases h; exact ha
    | false => cases h
end JF
theorem jf_en {S : jm_Rf → Prop} {as : List jm_V} {mx : Nat} (h : jf_l S as) : jf_l S (jm_pad mx (jm_en as)) := fun v hv => by
  unfold jm_pad at hv
  have hj : jf_v S jm_j := trivial
  rcases List.mem_append.mp hv with q | q
  · rcases jx_en_mem q with q | q
    · exact h v q
    · rw [q]; exact hj
  · rw [(List.mem_replicate.mp q).2]; exact hj
theorem jf_run {S : jm_Rf → Prop} (hS : jf_S S) : ∀ (n : Nat) {d cls rt : Nat} {cd : jm_Cd} {pc : Nat} {ls st : List jm_V} {μ : jm_M} {r : jm_V × jm_M}, jf_l S ls → jf_l S st → jm_run n false d cls rt cd pc ls st μ = some r → jf_v S r.1 ∧ jf_m S μ r.2
  | 0, _, _, _, _, _, _, _, _, _, _, _, h => by cases h
  | n + 1, d, cls, rt, cd, pc, ls, st, μ, r, hl, hs, h => by
    rw [jm_run_succ] at h
    refine jf_act hS (fun pc ls st μ1 r hl hs h => jf_run hS n hl hs h) (fun k as μ1 r ha hc => ?_) _ ?_ r h
    · cases d with
      | zero => cases hc
      | succ d =>
        cases hm : jm_mt[k]? with
        | none => simp [jm_cr, hm] at hc
        | some q =>
          obtain ⟨c, rr, mx, cd'⟩ := q
          simp only [jm_cr, hm] at hc
          cases hb : Nat.ble (jm_en as).length mx with
          | false => rw [hb] at hc; cases hc
          | true =>
            rw [hb] at hc
            exact jf_run hS n (jf_en ha) jf_nil hc
    · unfold jm_st1
      split
      · exact jf_step hS _ _ hl hs
      · trivial
/-- a call changes only what it can reach -/
theorem jf_sem {S : jm_Rf → Prop} (hS : jf_S S) {d k : Nat} {as : List jm_V} {μ μ' : jm_M} {v : jm_V} (ha : jf_l S as) (h : jm_sem false d k as μ = some (v, μ')) : jf_m S μ μ' := by
  obtain ⟨n, hn⟩ := jm_sem_iff.mp h
  cases d with
  | zero => cases hn
  | succ d =>
    cases hm : jm_mt[k]? with
    | none => simp [jm_cr, hm] at hn
    | some q =>
      obtain ⟨c, rr, mx, cd'⟩ := q
      simp only [jm_cr, hm] at hn
      cases hb : Nat.ble (jm_en as).length mx with
      | false => rw [hb] at hn; cases hn
      | true =>
        rw [hb] at hn
        exact (jf_run hS n (jf_en ha) jf_nil hn).2
