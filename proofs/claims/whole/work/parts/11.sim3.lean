/-! ===== one step: fields and arrays ===== -/
theorem jx_kd_obj : ∀ K, K < 62 → jm_kcl K < 12 → jm_kat K = 9 := by decide +kernel
theorem jx_kd_out {K : Nat} (h : 62 ≤ K) : jm_kcl K = 99 ∧ jm_kat K = 9 ∧ jm_kln K = 0 := by
  have hl : jm_kd.length = 62 := by decide +kernel
  have e : jm_kd.getD K (99, 9, 0) = (99, 9, 0) := by simp [List.getD, List.getElem?_eq_none (show jm_kd.length ≤ K by omega)]
  unfold jm_kcl jm_kat jm_kln
  rw [e]
  exact ⟨rfl, rfl, rfl⟩
theorem jx_obj_in {md : Bool} {μ : jm_M} {r : jm_Rf} (h : jx_ok md μ r) (hk : jm_kcl r.1 < 12) : jx_in md μ r ∧ jm_kat r.1 = 9 := by
  have h62 : r.1 < 62 := by
    rcases Nat.lt_or_ge r.1 62 with q | q
    · exact q
    · rw [(jx_kd_out q).1] at hk; omega
  refine ⟨?_, jx_kd_obj _ h62 hk⟩
  rcases h with h | ⟨h, -⟩ | ⟨h, -⟩ | h | h
  · exact h
  · rw [h] at hk; exact absurd hk (by decide +kernel)
  · rw [h] at hk; exact absurd hk (by decide +kernel)
  · omega
  · rw [h] at h62; exact absurd h62 (by decide)
theorem jx_arr_in {md : Bool} {μ : jm_M} {r : jm_Rf} (h : jx_ok md μ r) (hk : jm_kat r.1 < 5) (h61 : r.1 ≠ 61) : jx_in md μ r := by
  have h62 : r.1 < 62 := by
    rcases Nat.lt_or_ge r.1 62 with q | q
    · exact q
    · rw [(jx_kd_out q).2.1] at hk; omega
  rcases h with h | ⟨h, -⟩ | ⟨h, -⟩ | h | h
  · exact h
  · rw [h] at hk; exact absurd hk (by decide +kernel)
  · exact absurd h h61
  · omega
  · rw [h] at h62; exact absurd h62 (by decide)
theorem jx_ct_obj {G : jx_G} {md : Bool} {μ : jm_M} {r : jm_Rf} (h : jm_kat r.1 = 9) : jx_ct G md μ r = .inr (jm_kcl r.1, (List.range (jx_N (jm_kcl r.1))).map (fun k => jx_fv G md μ r (jx_ty (jm_kcl r.1) k) k)) := by
  unfold jx_ct
  rw [h]
  rfl
theorem jx_vw12 {c : Nat} {q : vw_C} (h : vwCl[c]? = some q) : c < 12 := by
  have := (List.getElem?_eq_some_iff.mp h).1
  simpa [vwCl] using this
theorem jx_fs_get {α : Type} {f : Nat → α} {N k : Nat} (h : k < N) : ((List.range N).map f)[k]? = some (f k) := by
  rw [List.getElem?_map, List.getElem?_range h]; rfl
/-- a slot of an object is changed: the list of what it holds -/
theorem jx_fs_set {α : Type} {f g : Nat → α} {N k : Nat} (hne : ∀ j, j ≠ k → g j = f j) : (List.range N).map g = ((List.range N).map f).set k (g k) := by
  apply List.ext_getElem?
  intro j
  rw [List.getElem?_set]
  simp only [List.length_map, List.length_range]
  by_cases hj : k = j
  · subst hj
    rw [if_pos rfl]
    by_cases hl : k < N
    · rw [if_pos hl, jx_fs_get hl]
    · rw [if_neg hl, List.getElem?_eq_none (by simp; omega)]
  · rw [if_neg hj]
    by_cases hl : j < N
    · rw [jx_fs_get hl, jx_fs_get hl, hne j (fun e => hj e.symm)]
    · rw [List.getElem?_eq_none (by simp; omega), List.getElem?_eq_none (by simp; omega)]
/-- other cells' slots stay -/
theorem jx_other {n n' : Nat} {r r' : jm_Rf} (h : jm_nm[n]? = some r) (h' : jm_nm[n']? = some r') (hn : n' ≠ n) : ¬ (r'.1 = r.1 ∧ r'.2.1 = r.2.1 ∧ r'.2.2 = r.2.2) := by
  rintro ⟨a, b, d⟩
  have : r' = r := by
    obtain ⟨x, y, z⟩ := r
    obtain ⟨x', y', z'⟩ := r'
    simp only at a b d
    subst a; subst b; subst d
    rfl
  rw [this] at h'
  exact hn ((jx_pos h').symm.trans (jx_pos h))
theorem jx_cnt_uI {md : Bool} {μ : jm_M} {K i j k : Nat} {x : Int32} (h : K ≠ 500) : jm_cnt md (jm_uI μ.1 K i j k x, μ.2) = jm_cnt md μ := by
  unfold jm_cnt
  dsimp only
  rw [jx_uI_ne (fun q => h q.1.symm)]
theorem jx_cnt_uL {md : Bool} {μ : jm_M} {f : jm_ML} : jm_cnt md (μ.1, f) = jm_cnt md μ := rfl
theorem jx_in_uI {md : Bool} {μ : jm_M} {K i j k : Nat} {x : Int32} (h : K ≠ 500) {r : jm_Rf} : jx_in md (jm_uI μ.1 K i j k x, μ.2) r ↔ jx_in md μ r := by
  unfold jx_in
  rw [jx_cnt_uI h]
theorem jx_ok_uI {md : Bool} {μ : jm_M} {K i j k : Nat} {x : Int32} (h : K ≠ 500) {r : jm_Rf} : jx_ok md (jm_uI μ.1 K i j k x, μ.2) r ↔ jx_ok md μ r := by
  unfold jx_ok
  rw [jx_in_uI h]
theorem jx_oks_uI {md : Bool} {μ : jm_M} {K i j k : Nat} {x : Int32} (h : K ≠ 500) {st : List jm_V} (hs : jx_oks md μ st) : jx_oks md (jm_uI μ.1 K i j k x, μ.2) st := by
  intro v hv
  have := hs v hv
  rcases v with a | a | a | a
  · trivial
  · trivial
  · exact (jx_ok_uI h).mpr this
  · trivial
theorem jx_oks_uL {md : Bool} {μ : jm_M} {f : jm_ML} {st : List jm_V} (hs : jx_oks md μ st) : jx_oks md (μ.1, f) st := hs
/-- a memory changed at one cell of ours: the heap's picture -/
theorem jx_H2_one {G : jx_G} {md : Bool} {μ μ' : jm_M} {H H' : Heap} {n : Nat} {r : jm_Rf} (h : jx_H2 G md μ H) (hn : n < jm_cnt md μ) (hr : jm_nm[n]? = some r)
    (hc : jm_cnt md μ' = jm_cnt md μ) (ho : ∀ K i j, K ≠ 500 → ¬ (K = r.1 ∧ i = r.2.1 ∧ j = r.2.2) → ¬ (K = r.1 + 600 ∧ i = r.2.1 ∧ j = r.2.2) → μ'.1 K i j = μ.1 K i j ∧ μ'.2 K i j = μ.2 K i j) (hw : ∀ k, jx_rs r k → jx_w md μ' r k = true → jx_in md μ (jm_R r.1 r.2.1 r.2.2 k))
    (hP : va_P G.1 vwCl ((jx_ws G md μ).set n (jx_B G + n, jx_ct G md μ' r)) H') : jx_H2 G md μ' H' := by
  have hin : ∀ q, jx_in md μ' q ↔ jx_in md μ q := fun q => by unfold jx_in; rw [hc]
  have h60 := jx_k60 hr
  have oth : ∀ n' r', jm_nm[n']? = some r' → n' ≠ n → (μ'.1 r'.1 r'.2.1 r'.2.2 = μ.1 r'.1 r'.2.1 r'.2.2 ∧ μ'.2 r'.1 r'.2.1 r'.2.2 = μ.2 r'.1 r'.2.1 r'.2.2) ∧ μ'.1 (r'.1 + 600) r'.2.1 r'.2.2 = μ.1 (r'.1 + 600) r'.2.1 r'.2.2 := by
    intro n' r' h' hne
    have h60' := jx_k60 h'
    have hd := jx_other hr h' hne
    refine ⟨ho _ _ _ (by omega) hd (by omega), (ho _ _ _ (by omega) (by omega) (fun q => hd ⟨by omega, q.2⟩)).1⟩
  refine ⟨by rw [hc]; exact h.1, ?_, fun q k hq hs hk => ?_, fun hm n' r' hl h' k => ?_⟩
  · rw [jx_ws_set h.1 hr hc (fun n' r' h' hne => jx_ct_congr (oth n' r' h' hne).1.1 (oth n' r' h' hne).1.2 (oth n' r' h' hne).2)]
    exact hP
  · rw [hin] at hq ⊢
    obtain ⟨n', hl, h'⟩ := hq
    by_cases hne : n' = n
    · subst hne
      rw [hr] at h'
      cases h'
      exact hw k hs hk
    · refine h.2.2.1 q k ⟨n', hl, h'⟩ hs ?_
      unfold jx_w at hk ⊢
      rw [(oth n' q h' hne).2] at hk
      exact hk
  · have hne : n' ≠ n := by intro e; rw [hc, e] at hl; omega
    rw [(oth n' r' h' hne).1.1, (oth n' r' h' hne).1.2, (oth n' r' h' hne).2]
    exact h.2.2.2 hm n' r' (by rw [← hc]; exact hl) h' k
/-! ===== one step: getfield, putfield ===== -/
theorem jx_nbeq {a b : Nat} (h : a ≠ b) : Nat.beq a b = false := by
  cases hb : Nat.beq a b with
  | false => rfl
  | true => exact absurd (Nat.eq_of_beq_eq_true hb) h
theorem jx_w_congr {md : Bool} {μ μ' : jm_M} {r : jm_Rf} {k : Nat} (h : μ'.1 (r.1 + 600) r.2.1 r.2.2 k = μ.1 (r.1 + 600) r.2.1 r.2.2 k) : jx_w md μ' r k = jx_w md μ r k := by
  unfold jx_w
  simp only [h]
theorem jx_fv_congr {G : jx_G} {md : Bool} {μ μ' : jm_M} {r : jm_Rf} {ty k : Nat} (h1 : μ'.1 r.1 r.2.1 r.2.2 k = μ.1 r.1 r.2.1 r.2.2 k) (h2 : μ'.2 r.1 r.2.1 r.2.2 k = μ.2 r.1 r.2.1 r.2.2 k) (h3 : jx_w md μ' r k = jx_w md μ r k) : jx_fv G md μ' r ty k = jx_fv G md μ r ty k := by
  unfold jx_fv
  simp only [h1, h2, h3]
theorem jx_rI {μ : jm_M} {r : jm_Rf} {k : Nat} (h : r.1 < 60) : jm_rI μ r k = μ.1 r.1 r.2.1 r.2.2 k := by
  have h1 : Nat.beq r.1 60 = false := jx_nbeq (by omega)
  have h2 : Nat.beq r.1 61 = false := jx_nbeq (by omega)
  unfold jm_rI
  rw [h1, h2]
  rfl
theorem jx_nm14 : ∀ r ∈ jm_nm, jm_kcl r.1 ≠ 14 := by decide +kernel
theorem jx_gd {K : jm_KT} {C' : jm_CT} {b : Bool} {pc : Nat} {ls st : List jm_V} {μ : jm_M} {res : jm_V × jm_M} (h : jm_act K C' (jm_gd b pc ls st μ) = some res) : b = true ∧ K pc ls st μ = some res := by
  cases b with
  | true => exact ⟨rfl, h⟩
  | false => cases h
theorem jx_bit {x : Int32} (h : x &&& 1 = x) : fits .boolean (.int x) = true := by
  have h1 : x.toBitVec &&& 1#32 = x.toBitVec := by
    have := congrArg Int32.toBitVec h
    simpa using this
  have h2 : x.toBitVec.toNat % 2 = x.toBitVec.toNat := by
    have := congrArg BitVec.toNat h1
    rw [BitVec.toNat_and] at this
    simpa using this
  have h3 : x.toBitVec.toNat = 0 ∨ x.toBitVec.toNat = 1 := by omega
  rcases h3 with h3 | h3
  · have : x = 0 := by apply Int32.toBitVec_inj.mp; apply BitVec.eq_of_toNat_eq; simpa using h3
    rw [this]; rfl
  · have : x = 1 := by apply Int32.toBitVec_inj.mp; apply BitVec.eq_of_toNat_eq; simpa using h3
    rw [this]; rfl
section JX4
variable {p : Program} {l : Launch} {e : Env} {R : Room} {s : State} {m : MethodId} {args : Array Value} {below : List Frame} {meth : Method} {c : Code} {Q : State → Prop} {G : jx_G} {L : Nat} {xs : Nat → Int32} {md : Bool} {n0 nL : Nat} {cc : ByteArray} {own : String}
variable {pc : Nat} {ls st : List jm_V} {μ : jm_M}
theorem jy_getfield (C : jx_C p s m args c G L xs cc nL own n0) {cls idx c' k ty : Nat} {r : jm_Rf} (hcn : jm_cn[cls]? = some own) (hf : jm_find (jm_fl.getD cls []) idx = some (c', k, ty)) (hkc : jm_kcl r.1 = c') (hd : decode cc pc = .ok (.getfield idx, 3))
    {K : jm_KT} {C' : jm_CT} {res : jm_V × jm_M} (h : jm_act K C' (jm_getf md ty r k (pc + 3) ls st μ) = some res) (KK : ∀ st', K (pc + 3) ls st' μ = some res → jx_J p l e R s m args below meth c Q G L xs md n0 nL (pc + 3) ls st' μ) : jx_J p l e R s m args below meth c Q G L xs md n0 nL pc ls (.inr (.inr (.inl r)) :: st) μ := by
  intro H locs LS S
  have hO := S.2.2.2.2
  have hok : jx_ok md μ r := hO.h
  rcases jx_field hf hcn with ⟨q, hq, hk, hl, hty⟩ | ⟨h14, hs⟩
  · obtain ⟨⟨n, hn, hr⟩, hat⟩ := jx_obj_in hok (by rw [hkc]; exact jx_vw12 hq)
    have hcls := jx_cls_all hq
    have h60 := jx_k60 hr
    have hws := jx_ws_get (G := G) hn hr
    rw [jx_ct_obj hat, hkc] at hws
    have hN : k < jx_N c' := by rw [← hcls.2.2.2.1]; exact hk
    have hget := jx_fs_get (f := fun k => jx_fv G md μ r (jx_ty c' k) k) hN
    have main : ∀ v, jx_v G v = jx_fv G md μ r ty k → jx_okv md μ v → K (pc + 3) ls (v :: st) μ = some res → W p l e R s m args below meth c H locs (jm_cnt md μ - n0) (8600 * (jm_cnt md μ - n0)) Q (F0 m pc LS (jx_ad G r :: st.map (jx_v G))) := by
      intro v hv hov hk'
      have h9 := KK _ hk' H locs LS (S.st (jx_oks_cons hov hO.t))
      rw [jx_adr hr]
      exact va_get C.1 C.2.1 C.2.2.2.2.1 hcls.1 C.2.2.2.1 C.2.2.2.2.2.1.1 S.1.1.2.1 n hws hq k hk (C.2.2.2.2.1 _ hl) (fun x h => h) (v := jx_v G v) (by rw [hget, hty, hv]) hd h9
    obtain ⟨ty0, -, htr⟩ := hcls.2.1
    have htr := htr k hk
    rw [hty] at htr
    match ty, htr, h, main, hty with
    | 0, _, h, main, _ => exact main (.inl (jm_rI μ r k)) (by rw [jx_rI h60]; rfl) trivial h
    | 1, _, h, main, _ => exact main (.inl (jm_rI μ r k &&& 1)) (by rw [jx_rI h60]; rfl) trivial h
    | 2, _, h, main, _ => exact main (.inr (.inl (μ.2 r.1 r.2.1 r.2.2 k))) rfl trivial h
    | 3, _, h, main, hty =>
      obtain ⟨hb, hK⟩ := jx_gd h
      have hw : jx_w md μ r k = true := hb
      obtain ⟨n', hn', hr'⟩ := S.1.1.2.2.1 r k ⟨n, hn, hr⟩ (Or.inr ⟨hat, by rw [hkc]; exact hty⟩) hw
      refine main (.inr (.inr (.inl (jm_R r.1 r.2.1 r.2.2 k)))) ?_ (Or.inl ⟨n', hn', hr'⟩) hK
      show jx_ad G _ = if jx_w md μ r k = true then _ else _
      rw [if_pos hw, jx_adr hr', jx_pos hr']
    | t + 4, htr, _, _, _ => simp [jx_tyr] at htr
  · have hkc : jm_kcl r.1 = 14 := hkc.trans h14
    obtain ⟨K0, i, j⟩ := r
    have h3 : K0 = 60 ∧ i < 3 := by
      rcases hok with ⟨n, -, hr⟩ | ⟨a, b⟩ | ⟨a, -⟩ | a | a
      · exact absurd hkc (jx_nm14 _ (List.mem_of_getElem? hr))
      · exact ⟨a, b⟩
      · simp only at a; subst a; exact absurd (show jm_kcl 61 = 14 from hkc) (by decide +kernel)
      · simp only at a; subst a; exact absurd (show jm_kcl 62 = 14 from hkc) (by decide +kernel)
      · cases a; exact absurd (show jm_kcl 70 = 14 from hkc) (by decide +kernel)
    obtain ⟨rfl, hi⟩ := h3
    have hE := C.2.2.2.2.2.1.2.2.2.1.1 i hi
    show W p l e R s m args below meth c H locs _ _ Q (F0 m pc LS (.ref (G.2.2.2.1 i) :: st.map (jx_v G)))
    rcases hs with ⟨rfl, rfl, hl⟩ | ⟨rfl, rfl, hl⟩
    · obtain ⟨-, hK⟩ := jx_gd h
      exact vk_getf C.1 C.2.1 hE.2.2.1 S.2.1 C.2.2.2.1 (C.2.2.2.2.1 _ hl) (fun x h => h) hd (KK _ hK H locs LS (S.st (jx_oks_cons (Or.inr (Or.inr (Or.inl ⟨rfl, hi⟩))) hO.t)))
    · exact vk_getf C.1 C.2.1 hE.2.1 S.2.1 C.2.2.2.1 (C.2.2.2.2.1 _ hl) (fun x h => h) hd (KK _ h H locs LS (S.st hO.t.i))
theorem jx_scr_uI {K i j k : Nat} {x : Int32} (hK : K ≠ 70) (h : jx_scr L xs μ) : jx_scr L xs (jm_uI μ.1 K i j k x, μ.2) := by
  refine ⟨fun q => ?_, ?_, h.2.2⟩
  · show jm_uI μ.1 K i j k x 70 0 0 q = _
    rw [jx_uI_ne (fun z => hK z.1.symm)]; exact h.1 q
  · show jm_uI μ.1 K i j k x 70 0 1 0 = _
    rw [jx_uI_ne (fun z => hK z.1.symm)]; exact h.2.1
/-- an int goes into a slot of a cell of ours -/
theorem jx_St_uI {n k : Nat} {r : jm_Rf} {x : Int32} {H H' : Heap} {locs locs' : List Loc} {LS : Array Slot} (S : jx_St G L xs md μ nL ls st s H locs LS) (hn : n < jm_cnt md μ) (hr : jm_nm[n]? = some r)
    (hP : va_P G.1 vwCl ((jx_ws G md μ).set n (jx_B G + n, jx_ct G md (jm_uI μ.1 r.1 r.2.1 r.2.2 k x, μ.2) r)) H') (hS : va_S (jx_A G) s.heap H' locs') {st' : List jm_V} (hst : jx_oks md μ st') : jx_St G L xs md (jm_uI μ.1 r.1 r.2.1 r.2.2 k x, μ.2) nL ls st' s H' locs' LS := by
  have h60 := jx_k60 hr
  refine ⟨⟨jx_H2_one S.1.1 hn hr (jx_cnt_uI (by omega)) (fun K i j h1 h2 h3 => ⟨jx_uI_ne h2, rfl⟩) (fun q hs hw => S.1.1.2.2.1 r q ⟨n, hn, hr⟩ hs ?_) hP, jx_scr_uI (by omega) S.1.2⟩, hS, S.2.2.1, jx_oks_uI (by omega) S.2.2.2.1, jx_oks_uI (by omega) hst⟩
  rw [jx_w_congr (μ := μ) (congrFun (jx_uI_ne (fun z => by omega)) q)] at hw
  exact hw
theorem jx_St_uL {n k : Nat} {r : jm_Rf} {x : Int64} {H H' : Heap} {locs locs' : List Loc} {LS : Array Slot} (S : jx_St G L xs md μ nL ls st s H locs LS) (hn : n < jm_cnt md μ) (hr : jm_nm[n]? = some r)
    (hP : va_P G.1 vwCl ((jx_ws G md μ).set n (jx_B G + n, jx_ct G md (μ.1, jm_uL μ.2 r.1 r.2.1 r.2.2 k x) r)) H') (hS : va_S (jx_A G) s.heap H' locs') {st' : List jm_V} (hst : jx_oks md μ st') : jx_St G L xs md (μ.1, jm_uL μ.2 r.1 r.2.1 r.2.2 k x) nL ls st' s H' locs' LS :=
  ⟨⟨jx_H2_one S.1.1 hn hr rfl (fun K i j h1 h2 h3 => ⟨rfl, jx_uL_ne h2⟩) (fun q hs hw => S.1.1.2.2.1 r q ⟨n, hn, hr⟩ hs hw) hP, S.1.2⟩, hS, S.2.2.1, S.2.2.2.1, hst⟩
theorem jx_fv_uI {r : jm_Rf} {k j ty : Nat} {x : Int32} (hj : j ≠ k) : jx_fv G md (jm_uI μ.1 r.1 r.2.1 r.2.2 k x, μ.2) r ty j = jx_fv G md μ r ty j :=
  jx_fv_congr (by show jm_uI μ.1 r.1 r.2.1 r.2.2 k x r.1 r.2.1 r.2.2 j = _; rw [jx_uI_at]; simp [upd, hj]) rfl (jx_w_congr (congrFun (jx_uI_ne (fun z => by omega)) j))
theorem jx_fv_uL {r : jm_Rf} {k j ty : Nat} {x : Int64} (hj : j ≠ k) : jx_fv G md (μ.1, jm_uL μ.2 r.1 r.2.1 r.2.2 k x) r ty j = jx_fv G md μ r ty j :=
  jx_fv_congr rfl (by show jm_uL μ.2 r.1 r.2.1 r.2.2 k x r.1 r.2.1 r.2.2 j = _; rw [jx_uL_at]; simp [vp_updL, hj]) rfl
theorem jy_putI (C : jx_C p s m args c G L xs cc nL own n0) {cls idx c' k ty : Nat} {r : jm_Rf} {x : Int32} (hcn : jm_cn[cls]? = some own) (hf : jm_find (jm_fl.getD cls []) idx = some (c', k, ty)) (hkc : jm_kcl r.1 = c') (h60 : r.1 < 60) (hd : decode cc pc = .ok (.putfield idx, 3))
    (ht : ty = 0 ∨ (ty = 1 ∧ x &&& 1 = x)) (KK : jx_J p l e R s m args below meth c Q G L xs md n0 nL (pc + 3) ls st (jm_uI μ.1 r.1 r.2.1 r.2.2 k x, μ.2)) : jx_J p l e R s m args below meth c Q G L xs md n0 nL pc ls (.inl x :: .inr (.inr (.inl r)) :: st) μ := by
  intro H locs LS S
  have hO := S.2.2.2.2
  have hok : jx_ok md μ r := hO.t.h
  rcases jx_field hf hcn with ⟨q, hq, hk, hl, hty⟩ | ⟨h14, hs⟩
  · obtain ⟨⟨n, hn, hr⟩, hat⟩ := jx_obj_in hok (by rw [hkc]; exact jx_vw12 hq)
    have hcls := jx_cls_all hq
    have hws := jx_ws_get (G := G) hn hr
    rw [jx_ct_obj hat, hkc] at hws
    have hN : k < jx_N c' := by rw [← hcls.2.2.2.1]; exact hk
    obtain ⟨ty0, hpt, htr⟩ := hcls.2.1
    have htr := htr k hk
    rw [hty] at htr
    have hfin : (q.2.1 k).2.2.2 = false := by
      rw [(hcls.2.2.2.2.1 k hk).1, hty]
      rcases ht with rfl | ⟨rfl, -⟩ <;> rfl
    have hnf : narrow (ty0 k) (.int x) = .int x ∧ fits (ty0 k) (.int x) = true ∧ jx_fv G md (jm_uI μ.1 r.1 r.2.1 r.2.2 k x, μ.2) r ty k = .int x := by
      have ex : (jm_uI μ.1 r.1 r.2.1 r.2.2 k x) r.1 r.2.1 r.2.2 k = x := by rw [jx_uI_at]; simp [upd]
      rcases ht with rfl | ⟨rfl, hx⟩
      · cases hy : ty0 k <;> rw [hy] at htr <;> first | (exact ⟨rfl, rfl, by show Value.int (jm_uI μ.1 r.1 r.2.1 r.2.2 k x r.1 r.2.1 r.2.2 k) = _; rw [ex]⟩) | (cases htr)
      · cases hy : ty0 k <;> rw [hy] at htr <;> first | (refine ⟨by show Value.int (x &&& 1) = _; rw [hx], ?_, by show Value.int (jm_uI μ.1 r.1 r.2.1 r.2.2 k x r.1 r.2.1 r.2.2 k &&& 1) = _; rw [ex, hx]⟩) | (cases htr)
        exact jx_bit hx
    show W p l e R s m args below meth c H locs _ _ Q (F0 m pc LS (.int x :: jx_ad G r :: st.map (jx_v G)))
    rw [jx_adr hr]
    refine va_put C.1 C.2.1 C.2.2.2.2.1 hcls.1 ty0 hpt hcls.2.2.1 C.2.2.2.1 C.2.2.2.2.2.1.1 S.1.1.2.1 (jx_va_D G md μ) S.2.1 n hws hq k hk (C.2.2.2.2.1 _ hl) (fun x h => h) hfin (hpt k hk) hnf.1 hnf.2.1 (by simpa using hN) hd (fun H1 locs1 hP1 hD1 hS1 => ?_)
    have h9 := KK H1 locs1 LS (jx_St_uI (k := k) (x := x) S hn hr ?_ hS1 hO.t.t)
    · rw [jx_cnt_uI (by omega)] at h9
      exact h9
    · rw [jx_ct_obj hat, hkc, jx_fs_set (f := fun k => jx_fv G md μ r (jx_ty c' k) k) (k := k) (fun j hj => jx_fv_uI hj), hty, hnf.2.2]
      exact hP1
  · have hkc : jm_kcl r.1 = 14 := hkc.trans h14
    rcases hok with ⟨n, -, hr⟩ | ⟨a, b⟩ | ⟨a, -⟩ | a | a
    · exact absurd hkc (jx_nm14 _ (List.mem_of_getElem? hr))
    · omega
    · omega
    · omega
    · rw [a] at h60; exact absurd h60 (by decide)
end JX4
