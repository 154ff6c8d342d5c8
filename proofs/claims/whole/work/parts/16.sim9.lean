/-! ===== one step: new rows ===== -/
theorem jx_wd_arr : Cond.arrayClass .int ∈ lw_tbl ∧ Cond.arrayClass .long ∈ lw_tbl ∧ Cond.arrayClass .byte ∈ lw_tbl ∧ Cond.arrayClass .boolean ∈ lw_tbl := by decide +kernel
theorem jx_arrV_congr {cA : ClassId} {N : Nat} {f g : Nat → Value} (h : ∀ j, f j = g j) : arrV cA N f = arrV cA N g := by
  have : f = g := funext h
  rw [this]
section JX9
variable {p : Program} {l : Launch} {e : Env} {R : Room} {s : State} {m : MethodId} {args : Array Value} {below : List Frame} {meth : Method} {c : Code} {Q : State → Prop} {G : jx_G} {L : Nat} {xs : Nat → Int32} {n0 nL : Nat} {cc : ByteArray} {own : String}
variable {pc : Nat} {ls st : List jm_V} {μ : jm_M}
theorem jy_newarray (C : jx_C p s m args c G L xs cc nL own n0) {t : ArrayType} {n : Int32} {r : jm_Rf} (hr : jm_nm[(μ.1 500 0 0 0).toNatClampNeg]? = some r) (hat : jm_kat r.1 = jm_atc t) (hlt4 : jm_kat r.1 < 4) (hn : 0 ≤ n) (hln : n.toNatClampNeg = jm_kln r.1) (h0 : 0 ≤ μ.1 500 0 0 0) (hn0 : n0 ≤ jm_cnt true μ) (hrc : jm_cnt true μ + 1 - n0 ≤ R.cells) (hrs : 8600 * (jm_cnt true μ + 1 - n0) ≤ R.slots) (hd : decode cc pc = .ok (.newarray t, 2))
    (KK : jx_J p l e R s m args below meth c Q G L xs true n0 nL (pc + 2) ls (.inr (.inr (.inl r)) :: st) (jm_uI μ.1 500 0 0 0 (μ.1 500 0 0 0 + 1), μ.2)) : jx_J p l e R s m args below meth c Q G L xs true n0 nL pc ls (.inl n :: st) μ := by
  intro H locs LS S
  have hO := S.2.2.2.2
  have hlt : jm_cnt true μ < 179 := jx_lt hr
  have hcu := jx_cnt_up h0 hlt
  have hnew := fun (H1 : Heap) hk hS hat => jx_St_new (H1 := H1) S hr h0 hk hS hat hO.t
  generalize (jm_uI μ.1 500 0 0 0 (μ.1 500 0 0 0 + 1), μ.2) = μ' at hcu hnew KK
  have h60 := jx_k60 hr
  have hz := S.1.1.2.2.2 rfl _ r (Nat.le_refl _) hr
  have hsz := jx_szK r.1 (by omega)
  have hcb : componentBytes (newarray.typeOf t) ≤ 8 := by cases t <;> decide
  have harr : (Cond.arrayClass (newarray.typeOf t)).before args s = true ∧ ∃ k : Nat, (jx_tys G)[k]? = some (G.2.1 (jm_atc t), newarray.typeOf t) ∧ (∀ cA, s.vm.findClass ("[" ++ (newarray.typeOf t).toString) = some cA → cA = G.2.1 (jm_atc t)) := by
    have hK := C.2.2.2.2.2.1.1.2
    have fin : ∀ (k : Nat) (ty : FieldType), (jx_tys G)[k]? = some (G.2.1 (jm_atc t), ty) → (∀ C', ty ≠ .object C') → (∀ cA, s.vm.findClass ("[" ++ ty.toString) = some cA → cA = G.2.1 (jm_atc t)) := by
      intro k ty hk hne cA hcA
      have h2 := (hK k _ hk).2
      have h3 : s.vm.findClass ("[" ++ ty.toString) = some (G.2.1 (jm_atc t)) := by
        cases ty with
        | object C' => exact absurd rfl (hne C')
        | _ => exact h2
      rw [hcA] at h3
      exact Option.some.inj h3
    cases t with
    | int => exact ⟨C.2.2.2.2.1 _ (jx_gwi jx_wd_arr.1 rfl), 0, rfl, fin 0 .int rfl (fun _ h => by cases h)⟩
    | long => exact ⟨C.2.2.2.2.1 _ (jx_gwi jx_wd_arr.2.1 rfl), 1, rfl, fin 1 .long rfl (fun _ h => by cases h)⟩
    | byte => exact ⟨C.2.2.2.2.1 _ (jx_gwi jx_wd_arr.2.2.1 rfl), 2, rfl, fin 2 .byte rfl (fun _ h => by cases h)⟩
    | boolean => exact ⟨C.2.2.2.2.1 _ (jx_gwi jx_wd_arr.2.2.2 rfl), 3, rfl, fin 3 .boolean rfl (fun _ h => by cases h)⟩
    | _ => exact absurd hlt4 (by rw [hat]; decide)
  obtain ⟨harr, k0, hk0, hfind⟩ := harr
  refine jx_Wsz C S hn0 (fun hsz' => ?_)
  show W p l e R s m args below meth c H locs _ _ Q (F0 m pc LS (.int n :: st.map (jx_v G)))
  have hb8 : jm_kln r.1 * componentBytes (newarray.typeOf t) ≤ 536870912 := Nat.le_trans (Nat.mul_le_mul hsz hcb) (by decide)
  refine va_newaK C.1 C.2.1 harr rfl hd rfl (jx_nn hn) hln hb8 (by omega) (by omega) hsz' (fun H1 cA e1 z1 o1 hAr hNm => ?_)
  have hcA := hfind cA hNm
  subst hcA
  refine W.widen (k := jm_cnt true μ' - n0) (n := 8600 * (jm_cnt true μ' - n0)) (by rw [hcu]; omega) (by rw [hcu]; omega) ?_
  have h9 := KK H1 locs LS (hnew H1 (fun q' hq' => o1 q' (by omega)) ⟨Nat.le_trans S.2.1.1 (by omega), fun x h1 h2 => (o1 x (by have := S.2.1.1; omega)).trans (S.2.1.2.1 x h1 h2), S.2.1.2.2⟩ ?_)
  · have h9 : W p l e R s m args below meth c H1 locs _ _ Q (F0 m (pc + 2) LS (jx_ad G r :: st.map (jx_v G))) := h9
    rw [jx_adr hr] at h9
    exact h9
  · have hzI : ∀ j, μ.1 r.1 r.2.1 r.2.2 j = 0 := fun j => (hz j).1
    have hzL : ∀ j, μ.2 r.1 r.2.1 r.2.2 j = 0 := fun j => (hz j).2.1
    cases t with
    | int =>
      have e2 : jx_ct G true μ r = .inl (G.2.1 0, jm_kln r.1, .inl (μ.1 r.1 r.2.1 r.2.2)) := by unfold jx_ct; rw [hat]; rfl
      rw [e2]
      show H1[jx_B G + jm_cnt true μ]? = some (vp_cell _ _)
      rw [vp_cell_i, e1]
      exact congrArg some (jx_arrV_congr (fun j => by rw [hzI j]; rfl))
    | long =>
      have e2 : jx_ct G true μ r = .inl (G.2.1 1, jm_kln r.1, .inr (.inl (μ.2 r.1 r.2.1 r.2.2))) := by unfold jx_ct; rw [hat]; rfl
      rw [e2]
      show H1[jx_B G + jm_cnt true μ]? = some (vp_cell _ _)
      rw [vp_cell_l, e1]
      exact congrArg some (jx_arrV_congr (fun j => by rw [hzL j]; rfl))
    | byte =>
      have e2 : jx_ct G true μ r = .inl (G.2.1 2, jm_kln r.1, .inl (μ.1 r.1 r.2.1 r.2.2)) := by unfold jx_ct; rw [hat]; rfl
      rw [e2]
      show H1[jx_B G + jm_cnt true μ]? = some (vp_cell _ _)
      rw [vp_cell_i, e1]
      exact congrArg some (jx_arrV_congr (fun j => by rw [hzI j]; rfl))
    | boolean =>
      have e2 : jx_ct G true μ r = .inl (G.2.1 3, jm_kln r.1, .inl (μ.1 r.1 r.2.1 r.2.2)) := by unfold jx_ct; rw [hat]; rfl
      rw [e2]
      show H1[jx_B G + jm_cnt true μ]? = some (vp_cell _ _)
      rw [vp_cell_i, e1]
      exact congrArg some (jx_arrV_congr (fun j => by rw [hzI j]; rfl))
    | _ => exact absurd hlt4 (by rw [hat]; decide)
theorem jy_anewarray (C : jx_C p s m args c G L xs cc nL own n0) {cls idx c' : Nat} {n : Int32} {r : jm_Rf} (hcn : jm_cn[cls]? = some own) (hf : jm_find (jm_xl.getD cls []) idx = some c') (hr : jm_nm[(μ.1 500 0 0 0).toNatClampNeg]? = some r) (hat : jm_kat r.1 = 4) (hel : jm_kel r.1 = c') (hn : 0 ≤ n) (hln : n.toNatClampNeg = jm_kln r.1) (h0 : 0 ≤ μ.1 500 0 0 0) (hn0 : n0 ≤ jm_cnt true μ) (hrc : jm_cnt true μ + 1 - n0 ≤ R.cells) (hrs : 8600 * (jm_cnt true μ + 1 - n0) ≤ R.slots) (hd : decode cc pc = .ok (.anewarray idx, 3))
    (KK : jx_J p l e R s m args below meth c Q G L xs true n0 nL (pc + 3) ls (.inr (.inr (.inl r)) :: st) (jm_uI μ.1 500 0 0 0 (μ.1 500 0 0 0 + 1), μ.2)) : jx_J p l e R s m args below meth c Q G L xs true n0 nL pc ls (.inl n :: st) μ := by
  intro H locs LS S
  have hO := S.2.2.2.2
  obtain ⟨hl, h12⟩ := jx_xl hcn hf
  obtain ⟨q, hq⟩ := jx_vw_get h12
  have hcls := jx_cls_all hq
  have hnm : jm_cn.getD c' "" = q.1 := jx_cn_get hcls.2.2.2.2.2.2.2
  rw [hnm] at hl
  have hlt : jm_cnt true μ < 179 := jx_lt hr
  have hcu := jx_cnt_up h0 hlt
  have hnew := fun (H1 : Heap) hk hS hat => jx_St_new (H1 := H1) S hr h0 hk hS hat hO.t
  generalize (jm_uI μ.1 500 0 0 0 (μ.1 500 0 0 0 + 1), μ.2) = μ' at hcu hnew KK
  have h60 := jx_k60 hr
  have hz := S.1.1.2.2.2 rfl _ r (Nat.le_refl _) hr
  have hsz := jx_szK r.1 (by omega)
  have hK := C.2.2.2.2.2.1.1.2
  have hAO := C.2.2.2.2.2.1.2.2.2.2.2.2.2.1
  have hcc : va_AO q.1 s ∧ ∀ cA, s.vm.findClass ("[" ++ (FieldType.object q.1).toString) = some cA → cA = G.2.1 (4 + c') := by
    have fin : ∀ (k : Nat), (jx_tys G)[k]? = some (G.2.1 (4 + c'), .object q.1) → ∀ cA, s.vm.findClass ("[" ++ (FieldType.object q.1).toString) = some cA → cA = G.2.1 (4 + c') := by
      intro k hk cA hcA
      obtain ⟨kA, comp, -, -, -, h4⟩ := (hK k _ hk).2
      rw [hcA] at h4
      exact Option.some.inj h4
    have hkel := jx_kel4 r.1 (by omega) hat
    rw [hel] at hkel
    rcases hkel with z | z | z <;> subst z <;> cases hq
    · exact ⟨hAO.1, fin 4 rfl⟩
    · exact ⟨hAO.2.1, fin 5 rfl⟩
    · exact ⟨hAO.2.2, fin 6 rfl⟩
  refine jx_Wsz C S hn0 (fun hsz' => ?_)
  show W p l e R s m args below meth c H locs _ _ Q (F0 m pc LS (.int n :: st.map (jx_v G)))
  have hb8 : jm_kln r.1 * 4 ≤ 536870912 := Nat.le_trans (Nat.mul_le_mul hsz (Nat.le_refl 4)) (by decide)
  refine W.anew C.1 C.2.1 C.2.2.2.1 (C.2.2.2.2.1 _ hl) (va_AO.use hcc.1) rfl hd rfl (jx_nn hn) (by rw [hln]; exact hb8) (by omega) (by omega) (fun cA kA comp f1 f2 f3 f4 => ?_)
  have hcA := hcc.2 cA f1
  subst hcA
  generalize hH1 : H.push ({ cls := G.2.1 (4 + c'), slots := Array.replicate n.toNatClampNeg .null, vm := .none } : Cell) = H1
  have z1 : H1.size = H.size + 1 := by rw [← hH1, Array.size_push]
  have e1 : H1[H.size]? = some (arrV (G.2.1 (4 + c')) n.toNatClampNeg (fun _ => .null)) := by rw [← hH1, Array.getElem?_push_size, ← arrV_new]
  have o1 : ∀ q : Nat, q < H.size → H1[q]? = H[q]? := fun q hq => by rw [← hH1, Array.getElem?_push, if_neg (Nat.ne_of_lt hq)]
  refine W.widen (k := jm_cnt true μ' - n0) (n := 8600 * (jm_cnt true μ' - n0)) (by rw [hcu]; omega) (by rw [hcu]; omega) ?_
  have h9 := KK H1 locs LS (hnew H1 (fun q' hq' => o1 q' hq') ⟨Nat.le_trans S.2.1.1 (by omega), fun x h1 h2 => (o1 x (by have := S.2.1.1; omega)).trans (S.2.1.2.1 x h1 h2), S.2.1.2.2⟩ ?_)
  · have h9 : W p l e R s m args below meth c H1 locs _ _ Q (F0 m (pc + 3) LS (jx_ad G r :: st.map (jx_v G))) := h9
    rw [jx_adr hr] at h9
    rw [hsz']
    exact h9
  · have e2 : jx_ct G true μ r = .inl (G.2.1 (4 + jm_kel r.1), jm_kln r.1, .inr (.inr (.inr (.inr (fun k => if jx_w true μ r k = true then some (jx_B G + jm_pos (jm_R r.1 r.2.1 r.2.2 k)) else none))))) := by unfold jx_ct; rw [hat]; rfl
    rw [e2, hel]
    show H1[jx_B G + jm_cnt true μ]? = some (vp_cell _ _)
    rw [vp_cell_q, ← hsz', e1, hln]
    refine congrArg some (jx_arrV_congr (fun j => ?_))
    have hwj : jx_w true μ r j = false := by
      unfold jx_w
      simp only [(hz j).2.2, cond_true]
      decide
    rw [hwj]
    rfl
end JX9
