/-! ===== from the law's entry to its loop ===== -/
theorem jx_Mt_of (l : Launch) {n : Nat} {md : Bool} {d k c' r' mx : Nat} {cd' : jm_Cd} {as : List jm_V} {μ1 : jm_M} {w : jm_V} {μ2 : jm_M} (hmt : jm_mt[k]? = some (c', r', mx, cd')) (hb : Nat.ble (jm_en as).length mx = true) (hc : jm_run n md d c' r' cd' 0 (jm_pad mx (jm_en as)) [] μ1 = some (w, μ2)) : jx_Mt l md (d + 1) k as μ1 w μ2 := by
  intro G2 L2 xs2 q t b hq ht hbw hscr hoks
  have ht' := ht
  rw [hmt] at ht'
  cases ht'
  obtain ⟨⟨b2, hb2, hck2⟩, hini2, -, -, -, -, hpl, hcn2, -, -, -, hnp2, hkk2⟩ := jx_meth hq ht
  refine Met.ofW (cc := b) (maxL := mx) (ret := jx_rt r') hpl rfl ?_
  intro p2 e2 s2 m2 args2 below2 meth2 c2 s₁ B hml hv
  obtain ⟨rfl, hT, hH, hsz⟩ := hv
  have hts := atoms_spec (ws := Cond.code q.1 b mx (jx_rt r') :: jx_gw) B.pre
  have hbb : b = b2 := jx_code_uniq B.named (hts _ List.mem_cons_self) (hts _ (List.mem_cons_of_mem _ hb2))
  subst hbb
  have C2 : jx_C p2 s2 m2 (as.map (jx_v G2)).toArray c2 G2 L2 xs2 b mx q.1.cls (jm_cnt md μ1) := ⟨B.exec, B.bytes, hml, findClass_of_methodNamed B.named, fun w hw => hts w (List.mem_cons_of_mem _ hw), hT, hsz⟩
  have hnm : meth2.name = "<init>" ∨ jx_nop c' cd' = true := hnp2.imp (fun z => (name_of_methodNamed B.named B.method).1.trans z) id
  have hr := B.returns
  have hlocks := B.notSynchronized
  have key := jx_runJ l n hc (e := e2) (R := (headSpec (Cond.code q.1 b mx (jx_rt r') :: jx_gw) (jx_rm (d + 1) (jm_cnt md μ2 - jm_cnt md μ1))).room) (below := below2) (meth := meth2) (Q := MQ below2 (jx_Qc G2 md w μ2) (as.map (jx_v G2)).toArray s2 (jm_cnt md μ2 - jm_cnt md μ1) (8600 * (jm_cnt md μ2 - jm_cnt md μ1)) (jx_A G2)) C2 hcn2 hck2 hkk2 hnm (Nat.le_refl _) (Nat.le_refl _) (Nat.le_refl _) (Nat.le_refl _) (Nat.le_refl _) (fun pc' H locs LS hrd hS hH2 => ?_)
  · rw [lg_entry_eq]
    have h9 := key s2.heap [] _ ⟨⟨hH, hscr⟩, va_S.rf, jx_entry hT.2.2.2.2.2.2.2.2 (Nat.le_of_ble_eq_true hb), jx_en_oks hoks, jx_oks_nil⟩
    rw [Nat.sub_self, Nat.mul_zero] at h9
    exact h9
  · have hq2 : ∀ (u : Option Value), u = jx_ro w → ∀ t : State, t.heap = H → s2.WarmedH t.vm → jx_Qc G2 md w μ2 (as.map (jx_v G2)).toArray s2 (.returned u) t := fun u hu t ht _ => ⟨by rw [hu], by rw [ht]; exact hH2, hS.F ht⟩
    rcases hrd with ⟨h1, h2, h3⟩ | ⟨h1, ⟨y, h2⟩, h3⟩ | ⟨h1, ⟨x, h2, h4⟩, h3⟩
    · subst h1; subst h2
      exact W.vret B.exec B.bytes hr (hq2 _ rfl) hS.2.2 h3
    · subst h1; subst h2
      exact W.lret B.exec B.bytes hr (hq2 _ rfl) hS.2.2 h3
    · subst h2
      have h14 : r' = 1 ∨ r' = 2 ∨ r' = 3 ∨ r' = 4 := by omega
      rcases h14 with z | z | z | z <;> rw [z] at hr h4
      · exact W.iret B.exec B.bytes hr (hq2 _ rfl) hS.2.2 h3
      · exact W.zret B.exec B.bytes hr (by show Value.int (x &&& 1) = _; rw [show x &&& 1 = x from h4]) (hq2 _ rfl) hS.2.2 h3
      · exact W.zret B.exec B.bytes hr (by show Value.int (x.toInt8.toInt32) = _; rw [show x.toInt8.toInt32 = x from h4]) (hq2 _ rfl) hS.2.2 h3
      · exact W.zret B.exec B.bytes hr (by show Value.int (x.toUInt32.toUInt16.toUInt32.toInt32) = _; rw [show x.toUInt32.toUInt16.toUInt32.toInt32 = x from h4]) (hq2 _ rfl) hS.2.2 h3
/-! ===== all cells are made, all references are set: the other mode ===== -/
theorem jx_arrV_lt {cA : ClassId} {N : Nat} {f g : Nat → Value} (h : ∀ j, j < N → f j = g j) : arrV cA N f = arrV cA N g := by
  unfold arrV
  congr 1
  apply congrArg
  funext j
  exact h j.val j.isLt
theorem jx_ty3 : ∀ c, c < 12 → ∀ k, k < jx_N c → jx_ty c k ≤ 3 := by decide +kernel
def jx_full (μ : jm_M) : Prop := jm_cnt true μ = 179 ∧ ∀ r ∈ jm_nm, ∀ k, jx_rs r k → jx_w true μ r k = true
theorem jx_in_sw {μ : jm_M} (h : jx_full μ) (r : jm_Rf) : jx_in false μ r ↔ jx_in true μ r := by
  unfold jx_in
  rw [h.1]
  rfl
theorem jx_oks_sw {μ : jm_M} (h : jx_full μ) {l : List jm_V} (ho : jx_oks true μ l) : jx_oks false μ l := fun v hv => by
  have := ho v hv
  rcases v with a | a | a | a
  · trivial
  · trivial
  · rcases this with z | z
    · exact Or.inl ((jx_in_sw h a).mpr z)
    · exact Or.inr z
  · trivial
theorem jx_H2_sw {G : jx_G} {μ : jm_M} {H : Heap} (h : jx_full μ) (hH : jx_H2 G true μ H) : jx_H2 G false μ H := by
  refine ⟨Nat.le_refl _, fun k q hq => ?_, fun r k hr hs _ => ?_, fun z => by cases z⟩
  · unfold jx_ws at hq
    rw [List.getElem?_map] at hq
    have hk : k < 179 := by
      rcases Nat.lt_or_ge k 179 with z | z
      · exact z
      · rw [List.getElem?_eq_none (by show (List.range 179).length ≤ k; simp; exact z)] at hq
        cases hq
    rw [show (List.range (jm_cnt false μ))[k]? = some k from List.getElem?_range hk] at hq
    have hr : jm_nm[k]? = some (jm_nm[k]'(by rw [jx_nm_len]; exact hk)) := List.getElem?_eq_getElem _
    generalize (jm_nm[k]'(by rw [jx_nm_len]; exact hk)) = r at hr
    rw [Option.map_some, jx_getD hr] at hq
    cases hq
    have hat := hH.2.1 k _ (jx_ws_get (by rw [h.1]; exact hk) hr)
    have hmem := List.mem_of_getElem? hr
    have h60 := jx_k60 hr
    have key : ∀ K, K < 60 → (jm_kat K < 5 ∨ (jm_kat K = 9 ∧ (jm_kcl K < 12 ∨ jm_kcl K = 99))) := by decide +kernel
    rcases key r.1 h60 with hk5 | ⟨hk9, hkc⟩
    · have h5 : jm_kat r.1 = 0 ∨ jm_kat r.1 = 1 ∨ jm_kat r.1 = 2 ∨ jm_kat r.1 = 3 ∨ jm_kat r.1 = 4 := by omega
      rcases h5 with z | z | z | z | z
      · rw [show jx_ct G true μ r = jx_ct G false μ r by unfold jx_ct; rw [z]; rfl] at hat; exact hat
      · rw [show jx_ct G true μ r = jx_ct G false μ r by unfold jx_ct; rw [z]; rfl] at hat; exact hat
      · rw [show jx_ct G true μ r = jx_ct G false μ r by unfold jx_ct; rw [z]; rfl] at hat; exact hat
      · rw [show jx_ct G true μ r = jx_ct G false μ r by unfold jx_ct; rw [z]; rfl] at hat; exact hat
      · have e1 : ∀ md, jx_ct G md μ r = .inl (G.2.1 (4 + jm_kel r.1), jm_kln r.1, .inr (.inr (.inr (.inr (fun k => if jx_w md μ r k = true then some (jx_B G + jm_pos (jm_R r.1 r.2.1 r.2.2 k)) else none))))) := fun md => by unfold jx_ct; rw [z]; rfl
        rw [e1] at hat ⊢
        have hat : H[jx_B G + k]? = some (vp_cell _ _) := hat
        show H[jx_B G + k]? = some (vp_cell _ _)
        rw [hat, vp_cell_q, vp_cell_q]
        refine congrArg some (jx_arrV_lt (fun j hj => ?_))
        rw [h.2 r hmem j (Or.inl ⟨z, hj⟩)]
        rfl
    · rw [jx_ct_obj hk9] at hat ⊢
      have e2 : (List.range (jx_N (jm_kcl r.1))).map (fun k => jx_fv G true μ r (jx_ty (jm_kcl r.1) k) k) = (List.range (jx_N (jm_kcl r.1))).map (fun k => jx_fv G false μ r (jx_ty (jm_kcl r.1) k) k) := by
        apply List.map_congr_left
        intro j hj
        have hj := List.mem_range.mp hj
        have hkc : jm_kcl r.1 < 12 := by
          rcases hkc with z | z
          · exact z
          · rw [z] at hj; exact absurd hj (by rw [show jx_N 99 = 0 by decide +kernel]; omega)
        have h3 := jx_ty3 _ hkc j hj
        generalize ht : jx_ty (jm_kcl r.1) j = ty at h3
        have h4 : ty = 0 ∨ ty = 1 ∨ ty = 2 ∨ ty = 3 := by omega
        rcases h4 with z | z | z | z <;> subst z
        · rfl
        · rfl
        · rfl
        · show (if jx_w true μ r j = true then Value.ref (jx_B G + jm_pos (jm_R r.1 r.2.1 r.2.2 j)) else .null) = (if jx_w false μ r j = true then Value.ref (jx_B G + jm_pos (jm_R r.1 r.2.1 r.2.2 j)) else .null)
          rw [h.2 r hmem j (Or.inr ⟨hk9, ht⟩)]
          rfl
      rw [e2] at hat
      exact hat
  · rw [jx_in_sw h] at hr ⊢
    obtain ⟨n, hn, hr'⟩ := hr
    exact hH.2.2.1 r k ⟨n, hn, hr'⟩ hs (h.2 r (List.mem_of_getElem? hr') k hs)
theorem jx_switch {p : Program} {l : Launch} {e : Env} {R : Room} {s : State} {m : MethodId} {args : Array Value} {below : List Frame} {meth : Method} {c : Code} {Q : State → Prop} {G : jx_G} {L : Nat} {xs : Nat → Int32} {n0 nL pc : Nat} {ls st : List jm_V} {μ : jm_M} (hf : jx_full μ) (K : jx_J p l e R s m args below meth c Q G L xs false n0 nL pc ls st μ) : jx_J p l e R s m args below meth c Q G L xs true n0 nL pc ls st μ := by
  intro H locs LS S
  have h9 := K H locs LS ⟨⟨jx_H2_sw hf S.1.1, S.1.2⟩, S.2.1, S.2.2.1, jx_oks_sw hf S.2.2.2.1, jx_oks_sw hf S.2.2.2.2⟩
  rw [hf.1]
  exact h9
