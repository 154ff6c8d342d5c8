/-! ===== one step: longs and references into fields; arrays ===== -/
section JX5
variable {p : Program} {l : Launch} {e : Env} {R : Room} {s : State} {m : MethodId} {args : Array Value} {below : List Frame} {meth : Method} {c : Code} {Q : State → Prop} {G : jx_G} {L : Nat} {xs : Nat → Int32} {md : Bool} {n0 nL : Nat} {cc : ByteArray} {own : String}
variable {pc : Nat} {ls st : List jm_V} {μ : jm_M}
theorem jy_putL (C : jx_C p s m args c G L xs cc nL own n0) {cls idx c' k : Nat} {r : jm_Rf} {x : Int64} (hcn : jm_cn[cls]? = some own) (hf : jm_find (jm_fl.getD cls []) idx = some (c', k, 2)) (hkc : jm_kcl r.1 = c') (h60 : r.1 < 60) (hd : decode cc pc = .ok (.putfield idx, 3))
    (KK : jx_J p l e R s m args below meth c Q G L xs md n0 nL (pc + 3) ls st (μ.1, jm_uL μ.2 r.1 r.2.1 r.2.2 k x)) : jx_J p l e R s m args below meth c Q G L xs md n0 nL (pc) ls (.inr (.inl x) :: .inr (.inr (.inl r)) :: st) μ := by
  intro H locs LS S
  have hO := S.2.2.2.2
  have hok : jx_ok md μ r := hO.t.h
  rcases jx_field hf hcn with ⟨q, hq, hk, hl, hty⟩ | ⟨h14, hs⟩
  · obtain ⟨⟨n, hn, hr⟩, hat⟩ := jx_obj_in hok (by rw [hkc]; exact jx_vw12 hq)
    have hcls := jx_cls_all hq
    have hws := jx_ws_get (G := G) hn hr
    rw [jx_ct_obj hat, hkc] at hws
    have hN : k < jx_N c' := by rw [← hcls.2.2.2.1]; exact hk
    obtain ⟨ty0, hpt, htr⟩ := hcls.2.1
    have htr := htr k hk
    rw [hty] at htr
    have hfin : (q.2.1 k).2.2.2 = false := by
      rw [(hcls.2.2.2.2.1 k hk).1, hty]
      rfl
    have hnf : narrow (ty0 k) (.long x) = .long x ∧ fits (ty0 k) (.long x) = true := by
      cases hy : ty0 k <;> rw [hy] at htr <;> first | exact ⟨rfl, rfl⟩ | cases htr
    have ex : jx_fv G md (μ.1, jm_uL μ.2 r.1 r.2.1 r.2.2 k x) r 2 k = .long x := by
      show Value.long (jm_uL μ.2 r.1 r.2.1 r.2.2 k x r.1 r.2.1 r.2.2 k) = _
      rw [jx_uL_at]; simp [vp_updL]
    show W p l e R s m args below meth c H locs _ _ Q (F0 m pc LS (.long x :: jx_ad G r :: st.map (jx_v G)))
    rw [jx_adr hr]
    refine va_put C.1 C.2.1 C.2.2.2.2.1 hcls.1 ty0 hpt hcls.2.2.1 C.2.2.2.1 C.2.2.2.2.2.1.1 S.1.1.2.1 (jx_va_D G md μ) S.2.1 n hws hq k hk (C.2.2.2.2.1 _ hl) (fun x h => h) hfin (hpt k hk) hnf.1 hnf.2 (by simpa using hN) hd (fun H1 locs1 hP1 hD1 hS1 => ?_)
    refine KK H1 locs1 LS (jx_St_uL (k := k) (x := x) S hn hr ?_ hS1 hO.t.t)
    rw [jx_ct_obj hat, hkc, jx_fs_set (f := fun k => jx_fv G md μ r (jx_ty c' k) k) (k := k) (fun j hj => jx_fv_uL hj), hty, ex]
    exact hP1
  · have hkc : jm_kcl r.1 = 14 := hkc.trans h14
    rcases hok with ⟨n, -, hr⟩ | ⟨a, b⟩ | ⟨a, -⟩ | a | a
    · exact absurd hkc (jx_nm14 _ (List.mem_of_getElem? hr))
    · omega
    · omega
    · omega
    · rw [a] at h60; exact absurd h60 (by decide)
theorem jx_w_congr2 {f : jm_MI} {g : jm_ML} {r : jm_Rf} {k : Nat} (h : f (r.1 + 600) r.2.1 r.2.2 k = μ.1 (r.1 + 600) r.2.1 r.2.2 k) : jx_w md (f, g) r k = jx_w md μ r k := jx_w_congr (μ' := (f, g)) h
theorem jx_uI_val (f : jm_MI) (K i j k : Nat) (x : Int32) (q : Nat) : jm_uI f K i j k x K i j q = if q = k then x else f K i j q := by
  rw [jx_uI_at]
  rfl
/-- a reference's slot is written for good -/
theorem jx_St_uR {n k : Nat} {r : jm_Rf} {H H' : Heap} {locs locs' : List Loc} {LS : Array Slot} (S : jx_St G L xs md μ nL ls st s H locs LS) (hm : md = true) (hn : n < jm_cnt md μ) (hr : jm_nm[n]? = some r) (hq : jx_in md μ (jm_R r.1 r.2.1 r.2.2 k))
    (hP : va_P G.1 vwCl ((jx_ws G md μ).set n (jx_B G + n, jx_ct G md (jm_uI μ.1 (r.1 + 600) r.2.1 r.2.2 k 1, μ.2) r)) H') (hS : va_S (jx_A G) s.heap H' locs') {st' : List jm_V} (hst : jx_oks md μ st') : jx_St G L xs md (jm_uI μ.1 (r.1 + 600) r.2.1 r.2.2 k 1, μ.2) nL ls st' s H' locs' LS := by
  have h60 := jx_k60 hr
  refine ⟨⟨jx_H2_one S.1.1 hn hr (jx_cnt_uI (by omega)) (fun K i j h1 h2 h3 => ⟨jx_uI_ne h3, rfl⟩) (fun q hs hw => ?_) hP, jx_scr_uI (by omega) S.1.2⟩, hS, S.2.2.1, jx_oks_uI (by omega) S.2.2.2.1, jx_oks_uI (by omega) hst⟩
  by_cases hqk : q = k
  · rw [hqk]; exact hq
  · refine S.1.1.2.2.1 r q ⟨n, hn, hr⟩ hs ?_
    have e := jx_uI_val μ.1 (r.1 + 600) r.2.1 r.2.2 k 1 q
    rw [if_neg hqk] at e
    exact (jx_w_congr2 (g := μ.2) e).symm.trans hw
theorem jx_w_uR {r : jm_Rf} {k j : Nat} (hm : md = true) : jx_w md (jm_uI μ.1 (r.1 + 600) r.2.1 r.2.2 k 1, μ.2) r j = if j = k then true else jx_w md μ r j := by
  have e := jx_uI_val μ.1 (r.1 + 600) r.2.1 r.2.2 k 1 j
  by_cases hj : j = k
  · rw [if_pos hj] at e ⊢
    subst hm
    unfold jx_w
    simp only [e, cond_true, decide_true]
  · rw [if_neg hj] at e ⊢
    exact jx_w_congr2 (g := μ.2) e
theorem jy_putR (C : jx_C p s m args c G L xs cc nL own n0) {cls idx c' k : Nat} {r q' : jm_Rf} (hcn : jm_cn[cls]? = some own) (hf : jm_find (jm_fl.getD cls []) idx = some (c', k, 3)) (hkc : jm_kcl r.1 = c') (h60 : r.1 < 60) (hd : decode cc pc = .ok (.putfield idx, 3)) (hm : md = true) (hq' : q' = jm_R r.1 r.2.1 r.2.2 k) (hini : meth.name = "<init>") (hcc : c' = cls) (hgood : q'.1 < 60)
    (KK : jx_J p l e R s m args below meth c Q G L xs md n0 nL (pc + 3) ls st (jm_uI μ.1 (r.1 + 600) r.2.1 r.2.2 k 1, μ.2)) : jx_J p l e R s m args below meth c Q G L xs md n0 nL (pc) ls (.inr (.inr (.inl q')) :: .inr (.inr (.inl r)) :: st) μ := by
  intro H locs LS S
  have hO := S.2.2.2.2
  have hok : jx_ok md μ r := hO.t.h
  have hokq : jx_ok md μ q' := hO.h
  have hinq : jx_in md μ q' := by
    rcases hokq with h | ⟨h, -⟩ | ⟨h, -⟩ | h | h
    · exact h
    · omega
    · omega
    · omega
    · rw [h] at hgood; exact absurd hgood (by decide)
  rcases jx_field hf hcn with ⟨q, hq, hk, hl, hty⟩ | ⟨h14, hs⟩
  · obtain ⟨⟨n, hn, hr⟩, hat⟩ := jx_obj_in hok (by rw [hkc]; exact jx_vw12 hq)
    obtain ⟨n', hn', hr'⟩ := hinq
    have hcls := jx_cls_all hq
    have hws := jx_ws_get (G := G) hn hr
    rw [jx_ct_obj hat, hkc] at hws
    have hN : k < jx_N c' := by rw [← hcls.2.2.2.1]; exact hk
    obtain ⟨ty0, hpt, htr⟩ := hcls.2.1
    have htr := htr k hk
    rw [hty] at htr
    have hfin : (q.2.1 k).2.2.2 = true := by
      rw [(hcls.2.2.2.2.1 k hk).1, hty]
      rfl
    have hdecl : (q.2.1 k).1 = own := by
      rw [(hcls.2.2.2.2.1 k hk).2]
      have := hcls.2.2.2.2.2.2.2
      rw [hcc, hcn] at this
      exact (Option.some.inj this).symm
    have hnf : narrow (ty0 k) (.ref (jx_B G + n')) = .ref (jx_B G + n') ∧ fits (ty0 k) (.ref (jx_B G + n')) = true := by
      cases hy : ty0 k <;> rw [hy] at htr <;> first | exact ⟨rfl, rfl⟩ | cases htr
    show W p l e R s m args below meth c H locs _ _ Q (F0 m pc LS (jx_ad G q' :: jx_ad G r :: st.map (jx_v G)))
    rw [jx_adr hr, jx_adr hr']
    refine va_putF C.1 C.2.1 C.2.2.2.2.1 hcls.1 ty0 hpt hcls.2.2.1 C.2.2.2.1 C.2.2.2.2.2.1.1 S.1.1.2.1 (jx_va_D G md μ) S.2.1 n hws hq k hk (C.2.2.2.2.1 _ hl) (fun x h => h) hfin hini hdecl (hpt k hk) hnf.1 hnf.2 (by simpa using hN) hd (fun H1 locs1 hP1 hD1 hS1 => ?_)
    have h9 := KK H1 locs1 LS (jx_St_uR (k := k) S hm hn hr (by rw [← hq']; exact ⟨n', hn', hr'⟩) ?_ hS1 hO.t.t)
    · rw [jx_cnt_uI (by omega)] at h9
      exact h9
    · have hself : jx_fv G md (jm_uI μ.1 (r.1 + 600) r.2.1 r.2.2 k 1, μ.2) r 3 k = .ref (jx_B G + n') := by
        show (if jx_w md _ r k = true then _ else _) = _
        rw [jx_w_uR hm, if_pos rfl, if_pos rfl, ← hq', jx_pos hr']
      have hne : ∀ j, j ≠ k → jx_fv G md (jm_uI μ.1 (r.1 + 600) r.2.1 r.2.2 k 1, μ.2) r (jx_ty c' j) j = jx_fv G md μ r (jx_ty c' j) j := by
        intro j hj
        have e1 : (jm_uI μ.1 (r.1 + 600) r.2.1 r.2.2 k 1) r.1 r.2.1 r.2.2 = μ.1 r.1 r.2.1 r.2.2 := jx_uI_ne (fun z => by omega)
        have e2 := jx_w_uR (μ := μ) (r := r) (k := k) (j := j) hm
        rw [if_neg hj] at e2
        exact jx_fv_congr (congrFun e1 j) rfl e2
      rw [jx_ct_obj hat, hkc, jx_fs_set (f := fun k => jx_fv G md μ r (jx_ty c' k) k) (k := k) hne, hty, hself]
      exact hP1
  · have hkc : jm_kcl r.1 = 14 := hkc.trans h14
    rcases hok with ⟨n, -, hr⟩ | ⟨a, b⟩ | ⟨a, -⟩ | a | a
    · exact absurd hkc (jx_nm14 _ (List.mem_of_getElem? hr))
    · omega
    · omega
    · omega
    · rw [a] at h60; exact absurd h60 (by decide)
theorem jx_lenI {r : jm_Rf} (h : r.1 < 60) : jm_len μ r = jm_kln r.1 := by
  have h1 : Nat.beq r.1 61 = false := jx_nbeq (by omega)
  have h2 : Nat.beq r.1 70 = false := jx_nbeq (by omega)
  unfold jm_len
  rw [h1, h2]
  rfl
theorem jx_inI {i : Int32} {n : Nat} (h : jm_in md i n = true) : vp_in i n := by
  cases md with
  | true => exact of_decide_eq_true (p := ¬ (i < 0 ∨ n ≤ i.toNatClampNeg)) h
  | false => exact jx_dec_iff.mp h
theorem jy_iaload (C : jx_C p s m args c G L xs cc nL own n0) {r : jm_Rf} {i : Int32} (hat : jm_kat r.1 = 0) (h61 : r.1 ≠ 61) (hi : vp_in i (jm_kln r.1)) (hd : decode cc pc = .ok (.iaload, 1)) (KK : jx_J p l e R s m args below meth c Q G L xs md n0 nL (pc + 1) ls (.inl (jm_rI μ r (jm_ix i)) :: st) μ) : jx_J p l e R s m args below meth c Q G L xs md n0 nL (pc) ls (.inl i :: .inr (.inr (.inl r)) :: st) μ := by
  intro H locs LS S
  have hO := S.2.2.2.2
  obtain ⟨n, hn, hr⟩ := jx_arr_in hO.t.h (by rw [hat]; decide) h61
  have h60 := jx_k60 hr
  have hws := jx_ws_get (G := G) hn hr
  have hct : jx_ct G md μ r = .inl (G.2.1 0, jm_kln r.1, .inl (μ.1 r.1 r.2.1 r.2.2)) := by unfold jx_ct; rw [hat]; rfl
  rw [hct] at hws
  have h9 := KK H locs LS (S.st hO.t.t.i)
  rw [jx_rI h60] at h9
  show W p l e R s m args below meth c H locs _ _ Q (F0 m pc LS (.int i :: jx_ad G r :: st.map (jx_v G)))
  rw [jx_adr hr]
  exact va_iald C.1 C.2.1 C.2.2.2.2.2.1.1 S.1.1.2.1 n 0 hws rfl hi hd h9
theorem jy_baload2 (C : jx_C p s m args c G L xs cc nL own n0) {r : jm_Rf} {i : Int32} (hat : jm_kat r.1 = 2) (h61 : r.1 ≠ 61) (hi : vp_in i (jm_kln r.1)) (hd : decode cc pc = .ok (.baload, 1)) (KK : jx_J p l e R s m args below meth c Q G L xs md n0 nL (pc + 1) ls (.inl (jm_rI μ r (jm_ix i)) :: st) μ) : jx_J p l e R s m args below meth c Q G L xs md n0 nL (pc) ls (.inl i :: .inr (.inr (.inl r)) :: st) μ := by
  intro H locs LS S
  have hO := S.2.2.2.2
  obtain ⟨n, hn, hr⟩ := jx_arr_in hO.t.h (by rw [hat]; decide) h61
  have h60 := jx_k60 hr
  have hws := jx_ws_get (G := G) hn hr
  have hct : jx_ct G md μ r = .inl (G.2.1 2, jm_kln r.1, .inl (μ.1 r.1 r.2.1 r.2.2)) := by unfold jx_ct; rw [hat]; rfl
  rw [hct] at hws
  have h9 := KK H locs LS (S.st hO.t.t.i)
  rw [jx_rI h60] at h9
  show W p l e R s m args below meth c H locs _ _ Q (F0 m pc LS (.int i :: jx_ad G r :: st.map (jx_v G)))
  rw [jx_adr hr]
  exact va_bald C.1 C.2.1 C.2.2.2.2.2.1.1 S.1.1.2.1 n 2 hws rfl hi hd h9
theorem jy_baload3 (C : jx_C p s m args c G L xs cc nL own n0) {r : jm_Rf} {i : Int32} (hat : jm_kat r.1 = 3) (h61 : r.1 ≠ 61) (hi : vp_in i (jm_kln r.1)) (hd : decode cc pc = .ok (.baload, 1)) (KK : jx_J p l e R s m args below meth c Q G L xs md n0 nL (pc + 1) ls (.inl (jm_rI μ r (jm_ix i)) :: st) μ) : jx_J p l e R s m args below meth c Q G L xs md n0 nL (pc) ls (.inl i :: .inr (.inr (.inl r)) :: st) μ := by
  intro H locs LS S
  have hO := S.2.2.2.2
  obtain ⟨n, hn, hr⟩ := jx_arr_in hO.t.h (by rw [hat]; decide) h61
  have h60 := jx_k60 hr
  have hws := jx_ws_get (G := G) hn hr
  have hct : jx_ct G md μ r = .inl (G.2.1 3, jm_kln r.1, .inl (μ.1 r.1 r.2.1 r.2.2)) := by unfold jx_ct; rw [hat]; rfl
  rw [hct] at hws
  have h9 := KK H locs LS (S.st hO.t.t.i)
  rw [jx_rI h60] at h9
  show W p l e R s m args below meth c H locs _ _ Q (F0 m pc LS (.int i :: jx_ad G r :: st.map (jx_v G)))
  rw [jx_adr hr]
  exact va_zald C.1 C.2.1 C.2.2.2.2.2.1.1 S.1.1.2.1 n 3 hws rfl hi hd h9
theorem jy_laload (C : jx_C p s m args c G L xs cc nL own n0) {r : jm_Rf} {i : Int32} (hat : jm_kat r.1 = 1) (h61 : r.1 ≠ 61) (hi : vp_in i (jm_kln r.1)) (hd : decode cc pc = .ok (.laload, 1)) (KK : jx_J p l e R s m args below meth c Q G L xs md n0 nL (pc + 1) ls (.inr (.inl (μ.2 r.1 r.2.1 r.2.2 (jm_ix i))) :: st) μ) : jx_J p l e R s m args below meth c Q G L xs md n0 nL (pc) ls (.inl i :: .inr (.inr (.inl r)) :: st) μ := by
  intro H locs LS S
  have hO := S.2.2.2.2
  obtain ⟨n, hn, hr⟩ := jx_arr_in hO.t.h (by rw [hat]; decide) h61
  have h60 := jx_k60 hr
  have hws := jx_ws_get (G := G) hn hr
  have hct : jx_ct G md μ r = .inl (G.2.1 1, jm_kln r.1, .inr (.inl (μ.2 r.1 r.2.1 r.2.2))) := by unfold jx_ct; rw [hat]; rfl
  rw [hct] at hws
  have h9 := KK H locs LS (S.st hO.t.t.l)
  
  show W p l e R s m args below meth c H locs _ _ Q (F0 m pc LS (.int i :: jx_ad G r :: st.map (jx_v G)))
  rw [jx_adr hr]
  exact va_lald C.1 C.2.1 C.2.2.2.2.2.1.1 S.1.1.2.1 n 1 hws rfl hi hd h9
theorem jy_iastore (C : jx_C p s m args c G L xs cc nL own n0) {r : jm_Rf} {i x : Int32} (hat : jm_kat r.1 = 0) (h61 : r.1 ≠ 61) (hi : vp_in i (jm_kln r.1)) (hd : decode cc pc = .ok (.iastore, 1)) (KK : jx_J p l e R s m args below meth c Q G L xs md n0 nL (pc + 1) ls st (jm_uI μ.1 r.1 r.2.1 r.2.2 (jm_ix i) x, μ.2)) : jx_J p l e R s m args below meth c Q G L xs md n0 nL (pc) ls (.inl x :: .inl i :: .inr (.inr (.inl r)) :: st) μ := by
  intro H locs LS S
  have hO := S.2.2.2.2
  obtain ⟨n, hn, hr⟩ := jx_arr_in hO.t.t.h (by rw [hat]; decide) h61
  have h60 := jx_k60 hr
  have hws := jx_ws_get (G := G) hn hr
  have hct : ∀ μ, jx_ct G md μ r = .inl (G.2.1 0, jm_kln r.1, .inl (μ.1 r.1 r.2.1 r.2.2)) := fun μ => by unfold jx_ct; rw [hat]; rfl
  rw [hct] at hws
  show W p l e R s m args below meth c H locs _ _ Q (F0 m pc LS (.int x :: .int i :: jx_ad G r :: st.map (jx_v G)))
  rw [jx_adr hr]
  refine va_iast C.1 C.2.1 C.2.2.2.2.2.1.1 S.1.1.2.1 (jx_va_D G md μ) S.2.1 n 0 hws rfl hi hd (fun H1 locs1 hP1 hD1 hS1 => ?_)
  have h9 := KK H1 locs1 LS (jx_St_uI (k := jm_ix i) (x := x) S hn hr ?_ hS1 hO.t.t.t)
  · rw [jx_cnt_uI (by omega)] at h9
    exact h9
  · rw [hct]
    dsimp only
    rw [jx_uI_at]
    exact hP1
theorem jy_bastore2 (C : jx_C p s m args c G L xs cc nL own n0) {r : jm_Rf} {i x : Int32} (hat : jm_kat r.1 = 2) (h61 : r.1 ≠ 61) (hi : vp_in i (jm_kln r.1)) (hd : decode cc pc = .ok (.bastore, 1)) (KK : jx_J p l e R s m args below meth c Q G L xs md n0 nL (pc + 1) ls st (jm_uI μ.1 r.1 r.2.1 r.2.2 (jm_ix i) x.toInt8.toInt32, μ.2)) : jx_J p l e R s m args below meth c Q G L xs md n0 nL (pc) ls (.inl x :: .inl i :: .inr (.inr (.inl r)) :: st) μ := by
  intro H locs LS S
  have hO := S.2.2.2.2
  obtain ⟨n, hn, hr⟩ := jx_arr_in hO.t.t.h (by rw [hat]; decide) h61
  have h60 := jx_k60 hr
  have hws := jx_ws_get (G := G) hn hr
  have hct : ∀ μ, jx_ct G md μ r = .inl (G.2.1 2, jm_kln r.1, .inl (μ.1 r.1 r.2.1 r.2.2)) := fun μ => by unfold jx_ct; rw [hat]; rfl
  rw [hct] at hws
  show W p l e R s m args below meth c H locs _ _ Q (F0 m pc LS (.int x :: .int i :: jx_ad G r :: st.map (jx_v G)))
  rw [jx_adr hr]
  refine va_bast C.1 C.2.1 C.2.2.2.2.2.1.1 S.1.1.2.1 (jx_va_D G md μ) S.2.1 n 2 hws rfl hi hd (fun H1 locs1 hP1 hD1 hS1 => ?_)
  have h9 := KK H1 locs1 LS (jx_St_uI (k := jm_ix i) (x := x.toInt8.toInt32) S hn hr ?_ hS1 hO.t.t.t)
  · rw [jx_cnt_uI (by omega)] at h9
    exact h9
  · rw [hct]
    dsimp only
    rw [jx_uI_at]
    exact hP1
theorem jy_bastore3 (C : jx_C p s m args c G L xs cc nL own n0) {r : jm_Rf} {i x : Int32} (hat : jm_kat r.1 = 3) (h61 : r.1 ≠ 61) (hi : vp_in i (jm_kln r.1)) (hd : decode cc pc = .ok (.bastore, 1)) (KK : jx_J p l e R s m args below meth c Q G L xs md n0 nL (pc + 1) ls st (jm_uI μ.1 r.1 r.2.1 r.2.2 (jm_ix i) (x &&& 1), μ.2)) : jx_J p l e R s m args below meth c Q G L xs md n0 nL (pc) ls (.inl x :: .inl i :: .inr (.inr (.inl r)) :: st) μ := by
  intro H locs LS S
  have hO := S.2.2.2.2
  obtain ⟨n, hn, hr⟩ := jx_arr_in hO.t.t.h (by rw [hat]; decide) h61
  have h60 := jx_k60 hr
  have hws := jx_ws_get (G := G) hn hr
  have hct : ∀ μ, jx_ct G md μ r = .inl (G.2.1 3, jm_kln r.1, .inl (μ.1 r.1 r.2.1 r.2.2)) := fun μ => by unfold jx_ct; rw [hat]; rfl
  rw [hct] at hws
  show W p l e R s m args below meth c H locs _ _ Q (F0 m pc LS (.int x :: .int i :: jx_ad G r :: st.map (jx_v G)))
  rw [jx_adr hr]
  refine va_zast C.1 C.2.1 C.2.2.2.2.2.1.1 S.1.1.2.1 (jx_va_D G md μ) S.2.1 n 3 hws rfl hi hd (fun H1 locs1 hP1 hD1 hS1 => ?_)
  have h9 := KK H1 locs1 LS (jx_St_uI (k := jm_ix i) (x := (x &&& 1)) S hn hr ?_ hS1 hO.t.t.t)
  · rw [jx_cnt_uI (by omega)] at h9
    exact h9
  · rw [hct]
    dsimp only
    rw [jx_uI_at]
    exact hP1
theorem jy_lastore (C : jx_C p s m args c G L xs cc nL own n0) {r : jm_Rf} {i : Int32} {x : Int64} (hat : jm_kat r.1 = 1) (hi : vp_in i (jm_kln r.1)) (hd : decode cc pc = .ok (.lastore, 1)) (KK : jx_J p l e R s m args below meth c Q G L xs md n0 nL (pc + 1) ls st (μ.1, jm_uL μ.2 r.1 r.2.1 r.2.2 (jm_ix i) x)) : jx_J p l e R s m args below meth c Q G L xs md n0 nL (pc) ls (.inr (.inl x) :: .inl i :: .inr (.inr (.inl r)) :: st) μ := by
  intro H locs LS S
  have hO := S.2.2.2.2
  have h61 : r.1 ≠ 61 := by intro e; rw [e] at hat; exact absurd hat (by decide +kernel)
  obtain ⟨n, hn, hr⟩ := jx_arr_in hO.t.t.h (by rw [hat]; decide) h61
  have h60 := jx_k60 hr
  have hws := jx_ws_get (G := G) hn hr
  have hct : ∀ μ, jx_ct G md μ r = .inl (G.2.1 1, jm_kln r.1, .inr (.inl (μ.2 r.1 r.2.1 r.2.2))) := fun μ => by unfold jx_ct; rw [hat]; rfl
  rw [hct] at hws
  show W p l e R s m args below meth c H locs _ _ Q (F0 m pc LS (.long x :: .int i :: jx_ad G r :: st.map (jx_v G)))
  rw [jx_adr hr]
  refine va_last C.1 C.2.1 C.2.2.2.2.2.1.1 S.1.1.2.1 (jx_va_D G md μ) S.2.1 n 1 hws rfl hi hd (fun H1 locs1 hP1 hD1 hS1 => ?_)
  refine KK H1 locs1 LS (jx_St_uL (k := jm_ix i) (x := x) S hn hr ?_ hS1 hO.t.t.t)
  rw [hct]
  dsimp only
  rw [jx_uL_at]
  exact hP1
end JX5
