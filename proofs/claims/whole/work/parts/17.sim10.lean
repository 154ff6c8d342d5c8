/-! ===== calls: the contract of a method of the small machine, and how a call uses it ===== -/
def jx_ro : jm_V → Option Value
  | .inl x => some (.int x)
  | .inr (.inl y) => some (.long y)
  | _ => none
/-- what a memory keeps of an earlier one: no cell goes, the script stays -/
def jx_le (md : Bool) (μ μ' : jm_M) : Prop := jm_cnt md μ ≤ jm_cnt md μ' ∧ ∀ i j k, μ'.1 70 i j k = μ.1 70 i j k
theorem jx_le.rf {md : Bool} {μ : jm_M} : jx_le md μ μ := ⟨Nat.le_refl _, fun _ _ _ => rfl⟩
theorem jx_le.tr {md : Bool} {a b c : jm_M} (h1 : jx_le md a b) (h2 : jx_le md b c) : jx_le md a c := ⟨Nat.le_trans h1.1 h2.1, fun i j k => (h2.2 i j k).trans (h1.2 i j k)⟩
theorem jx_le.scr {md : Bool} {μ μ' : jm_M} {L : Nat} {xs : Nat → Int32} (h : jx_le md μ μ') (hs : jx_scr L xs μ) : jx_scr L xs μ' := ⟨fun j => (h.2 0 0 j).trans (hs.1 j), (h.2 0 1 0).trans hs.2.1, hs.2.2⟩
theorem jx_le.oks {md : Bool} {μ μ' : jm_M} {l : List jm_V} (h : jx_le md μ μ') (ho : jx_oks md μ l) : jx_oks md μ' l := fun v hv => by
  have := ho v hv
  rcases v with a | a | a | a
  · trivial
  · trivial
  · rcases this with ⟨n, hn, h2⟩ | h2
    · exact Or.inl ⟨n, Nat.lt_of_lt_of_le hn h.1, h2⟩
    · exact Or.inr h2
  · trivial
def jx_Pc (G : jx_G) (L : Nat) (xs : Nat → Int32) (md : Bool) (μ : jm_M) (as : List jm_V) : Array Value → State → Prop := va_Pc (as.map (jx_v G)) (fun U => jx_T G L xs U ∧ jx_H2 G md μ U.heap ∧ U.heap.size = jx_B G + jm_cnt md μ)
def jx_Qc (G : jx_G) (md : Bool) (v : jm_V) (μ' : jm_M) : Array Value → State → Outcome → State → Prop := fun _ st o t => o = .returned (jx_ro v) ∧ jx_H2 G md μ' t.heap ∧ va_F (jx_A G) st t
def jx_rm (d mc : Nat) : Room := { frames := d, cells := mc, slots := 8600 * mc, locals := 80 * d }
/-- method k of the small machine, called with as at μ, comes to v and μ' -/
def jx_Mt (l : Launch) (md : Bool) (d k : Nat) (as : List jm_V) (μ : jm_M) (v : jm_V) (μ' : jm_M) : Prop :=
  ∀ (G : jx_G) (L : Nat) (xs : Nat → Int32) (q : jx_YT) (t : Nat × Nat × Nat × jm_Cd) (b : ByteArray), jx_y[k]? = some q → jm_mt[k]? = some t → Cond.code q.1 b t.2.2.1 (jx_rt t.2.1) ∈ jx_gw → jx_scr L xs μ → jx_oks md μ as →
    Met l q.1 (Cond.code q.1 b t.2.2.1 (jx_rt t.2.1) :: jx_gw) (jx_rm d (jm_cnt md μ' - jm_cnt md μ)) (jx_Pc G L xs md μ as) (jx_Qc G md v μ') (jm_cnt md μ' - jm_cnt md μ) (8600 * (jm_cnt md μ' - jm_cnt md μ)) (jx_A G)
theorem jx_blind (G : jx_G) (L : Nat) (xs : Nat → Int32) (md : Bool) (μ : jm_M) (as : List jm_V) : FrameBlind (jx_Pc G L xs md μ as) := fun a U g mk h => h
section JX10
variable {p : Program} {l : Launch} {e : Env} {R : Room} {s : State} {m : MethodId} {args : Array Value} {below : List Frame} {meth : Method} {c : Code} {Q : State → Prop} {G : jx_G} {L : Nat} {xs : Nat → Int32} {md : Bool} {n0 nL : Nat} {cc : ByteArray} {own : String}
variable {pc : Nat} {ls st : List jm_V} {μ : jm_M}
theorem jx_after {H : Heap} {locs : List Loc} {cells slots mc ms : Nat} {LS : Array Slot} {st0 rest : List Value} {v : jm_V} {μ' : jm_M} {a : Array Value} (hr : va_Run p l e R s m args below meth c H locs cells slots mc ms (F0 m pc LS st0) rest (jx_Qc G md v μ' a) (jx_A G)) (hS : va_S (jx_A G) s.heap H locs)
    (kk : ∀ (H1 : Heap) (locs1 : List Loc), jx_H2 G md μ' H1 → va_S (jx_A G) s.heap H1 locs1 → W p l e R s m args below meth c H1 locs1 (cells + mc) (slots + ms) Q (F0 m (pc + 3) LS ((jx_ro v).toList ++ rest))) : W p l e R s m args below meth c H locs cells slots Q (F0 m pc LS st0) := by
  intro T hT X
  obtain ⟨w, st₀, t, T', L', h0, X', hL, e1, e2, ⟨hv, hp, hz, hk⟩, sts⟩ := hr T hT X
  cases hv
  rw [h0] at hz hk
  obtain ⟨t2, a1, b1⟩ := kk T'.heap (locs ++ L') (by rw [e1]; exact hp)
    ⟨Nat.le_trans hS.1 (by rw [e1]; exact hz), fun q h1 h2 => by rw [e1, hk q (Nat.lt_of_lt_of_le h1 hS.1) h2]; exact hS.2.1 q h1 h2, fun q hq => by
      rcases List.mem_append.mp hq with h | h
      · exact hS.2.2 q h
      · exact hL q h⟩ T' rfl X'
  exact ⟨t2, sts t2 a1, b1⟩
/-- what a callee may count on -/
theorem jx_pre (C : jx_C p s m args c G L xs cc nL own n0) {H : Heap} {locs : List Loc} {LS : Array Slot} (S : jx_St G L xs md μ nL ls st s H locs LS) (hsz : H.size = jx_B G + jm_cnt md μ) (as : List jm_V) (U : State) (hU : U.heap = H) (hW : s.WarmedH U.vm) : jx_Pc G L xs md μ as (as.map (jx_v G)).toArray U := by
  refine ⟨rfl, C.2.2.2.2.2.1.on (by rw [C.2.2.2.2.2.2]; omega) hW (fun q h1 h2 => by rw [hU]; exact S.2.1.2.1 q h1 h2), by rw [hU]; exact S.1.1, by rw [hU]; exact hsz⟩
/-- the receiver's class -/
theorem jx_recv (C : jx_C p s m args c G L xs cc nL own n0) {H : Heap} {locs : List Loc} {LS : Array Slot} (S : jx_St G L xs md μ nL ls st s H locs LS) {r : jm_Rf} (hok : jx_ok md μ r) {cl : Nat} (hk : jm_kcl r.1 = cl) {C' : String} (hcn : jm_cn[cl]? = some C') : ∃ b, jx_ad G r = .ref b ∧ ∃ cell : Cell, H[b]? = some cell ∧ cell.vm.isStatics = false ∧ s.vm.findClass C' = some cell.cls := by
  rcases hok with ⟨n, hn, hr⟩ | ⟨a, b⟩ | ⟨a, b⟩ | a | a
  · have h60 := jx_k60 hr
    have h12 : jm_kcl r.1 < 12 ∨ jm_kcl r.1 = 99 := by
      have key : ∀ K, K < 60 → (jm_kcl K < 12 ∨ jm_kcl K = 99) := by decide +kernel
      exact key r.1 h60
    rcases h12 with h12 | h12
    · obtain ⟨q, hq⟩ := jx_vw_get h12
      have hcls := jx_cls_all hq
      have hat : jm_kat r.1 = 9 := jx_kd_obj r.1 (by omega) h12
      have hws := jx_ws_get (G := G) (md := md) (μ := μ) hn hr
      rw [jx_ct_obj hat] at hws
      refine ⟨jx_B G + n, jx_adr hr, ?_⟩
      have h3 := va_recv C.2.2.2.2.2.1.1 S.1.1.2.1 hq hws
      have : C' = q.1 := by
        rw [← hk, hcls.2.2.2.2.2.2.2] at hcn
        exact (Option.some.inj hcn).symm
      rw [this]
      exact h3
    · rw [← hk, h12] at hcn
      rw [show jm_cn[99]? = none by decide +kernel] at hcn
      cases hcn
  · obtain ⟨K0, i, j⟩ := r
    simp only at a b hk
    subst a
    have hcl : cl = 14 := by rw [← hk]; decide +kernel
    subst hcl
    cases hcn
    obtain ⟨cell, h1, h2, h3, h4⟩ := (C.2.2.2.2.2.1.2.2.2.1.1 i b).1
    refine ⟨G.2.2.2.1 i, rfl, cell, ?_, h2, h3⟩
    rw [S.2.1.2.1 _ (Array.getElem?_eq_some_iff.mp h1).1 h4]
    exact h1
  · rw [← hk, a, show jm_cn[jm_kcl 61]? = none by decide +kernel] at hcn
    cases hcn
  · rw [← hk, a, show jm_cn[jm_kcl 62]? = none by decide +kernel] at hcn
    cases hcn
  · rw [← hk, a, show jm_cn[jm_kcl (70, 0, 0).fst]? = none by decide +kernel] at hcn
    cases hcn
end JX10
