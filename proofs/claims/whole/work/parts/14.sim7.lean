/-! ===== one step: references into rows, copies, Math, Object's constructor ===== -/
theorem jx_cs {G : jx_G} (hs : jx_sv G) : ∀ st : List jm_V, ((st.map (jx_v G)).map fun v => v.category).sum = jm_cs st
  | [] => rfl
  | .inl x :: st => by
    show 1 + ((st.map (jx_v G)).map fun v => v.category).sum = 1 + jm_cs st
    rw [jx_cs hs st]
  | .inr (.inl x) :: st => by
    show 2 + ((st.map (jx_v G)).map fun v => v.category).sum = 2 + jm_cs st
    rw [jx_cs hs st]
  | .inr (.inr (.inl r)) :: st => by
    show (jx_ad G r).category + ((st.map (jx_v G)).map fun v => v.category).sum = 1 + jm_cs st
    rw [jx_cs hs st, jx_ad_cat hs]
  | .inr (.inr (.inr u)) :: st => by
    show 1 + ((st.map (jx_v G)).map fun v => v.category).sum = 1 + jm_cs st
    rw [jx_cs hs st]
theorem jx_nn {x : Int32} (h : 0 ≤ x) : ¬ x < 0 := Int32.not_lt.mpr h
theorem jx_cI_ne {f : jm_MI} {a b : jm_Rf} {sp dp n K i j : Nat} (h : ¬ (K = b.1 ∧ i = b.2.1 ∧ j = b.2.2)) : jm_cI f a b sp dp n K i j = f K i j := by
  unfold jm_cI
  by_cases hK : K = b.1
  · rw [if_pos hK, if_neg (fun q => h ⟨hK, q⟩), hK]
  · rw [if_neg hK]
theorem jx_cI_at (f : jm_MI) (a b : jm_Rf) (sp dp n : Nat) : jm_cI f a b sp dp n b.1 b.2.1 b.2.2 = va_cpy (f a.1 a.2.1 a.2.2) (f b.1 b.2.1 b.2.2) sp dp n := by
  unfold jm_cI
  rw [if_pos rfl, if_pos ⟨rfl, rfl⟩]
theorem jx_cL_ne {f : jm_ML} {a b : jm_Rf} {sp dp n K i j : Nat} (h : ¬ (K = b.1 ∧ i = b.2.1 ∧ j = b.2.2)) : jm_cL f a b sp dp n K i j = f K i j := by
  unfold jm_cL
  by_cases hK : K = b.1
  · rw [if_pos hK, if_neg (fun q => h ⟨hK, q⟩), hK]
  · rw [if_neg hK]
theorem jx_cL_at (f : jm_ML) (a b : jm_Rf) (sp dp n : Nat) : jm_cL f a b sp dp n b.1 b.2.1 b.2.2 = va_cpy (f a.1 a.2.1 a.2.2) (f b.1 b.2.1 b.2.2) sp dp n := by
  unfold jm_cL
  rw [if_pos rfl, if_pos ⟨rfl, rfl⟩]
theorem jx_wd_copy : Cond.native arraycopyName ∈ lw_tbl ∧ Cond.static arraycopyName ∈ lw_tbl ∧ Cond.initialized "java/lang/System" ∈ lw_tbl := by decide +kernel
theorem jx_wd_max : Cond.static Lib.Math.max.name ∈ lw_tbl ∧ Cond.initialized "java/lang/Math" ∈ lw_tbl ∧ Cond.code Lib.Math.max.name Lib.Math.max.code 2 (some .int) ∈ lw_tbl := by decide +kernel
theorem jx_wd_min : Cond.static Lib.Math.min.name ∈ lw_tbl ∧ Cond.code Lib.Math.min.name Lib.Math.min.code 2 (some .int) ∈ lw_tbl := by decide +kernel
theorem jx_wd_obj : Cond.instanceMethod objectInit ∈ lw_tbl ∧ Cond.code objectInit ⟨#[0xb1]⟩ 1 none ∈ lw_tbl := by decide +kernel
theorem jx_gwi {w : Cond} (h : w ∈ lw_tbl) (hg : goodWord w = true) : w ∈ jx_gw := List.mem_filter.mpr ⟨h, hg⟩
theorem jx_nfw : nativeFrameWords "java/lang/System" "arraycopy" 5 ≤ 40 := by decide +kernel
section JX7
variable {p : Program} {l : Launch} {e : Env} {R : Room} {s : State} {m : MethodId} {args : Array Value} {below : List Frame} {meth : Method} {c : Code} {Q : State → Prop} {G : jx_G} {L : Nat} {xs : Nat → Int32} {md : Bool} {n0 nL : Nat} {cc : ByteArray} {own : String}
variable {pc : Nat} {ls st : List jm_V} {μ : jm_M}
theorem jy_aastore (C : jx_C p s m args c G L xs cc nL own n0) {r q' : jm_Rf} {i : Int32} (hm : md = true) (hat : jm_kat r.1 = 4) (hi : vp_in i (jm_kln r.1)) (hq' : q' = jm_R r.1 r.2.1 r.2.2 (jm_ix i)) (hg : q'.1 < 60) (hel : jm_kcl q'.1 = jm_kel r.1) (hd : decode cc pc = .ok (.aastore, 1))
    (KK : jx_J p l e R s m args below meth c Q G L xs md n0 nL (pc + 1) ls st (jm_uI μ.1 (r.1 + 600) r.2.1 r.2.2 (jm_ix i) 1, μ.2)) : jx_J p l e R s m args below meth c Q G L xs md n0 nL pc ls (.inr (.inr (.inl q')) :: .inl i :: .inr (.inr (.inl r)) :: st) μ := by
  intro H locs LS S
  have hO := S.2.2.2.2
  have h61 : r.1 ≠ 61 := by intro z; rw [z] at hat; exact absurd hat (by decide +kernel)
  obtain ⟨n, hn, hr⟩ := jx_arr_in hO.t.t.h (by rw [hat]; decide) h61
  have h60 := jx_k60 hr
  have hkel := jx_kel4 r.1 (by omega) hat
  obtain ⟨⟨n', hn', hr'⟩, hat'⟩ := jx_obj_in (r := q') hO.h (by rw [hel]; omega)
  have hws := jx_ws_get (G := G) hn hr
  have hws' := jx_ws_get (G := G) hn' hr'
  rw [jx_ct_obj hat', hel] at hws'
  have hct : ∀ μ, jx_ct G md μ r = .inl (G.2.1 (4 + jm_kel r.1), jm_kln r.1, .inr (.inr (.inr (.inr (fun k => if jx_w md μ r k = true then some (jx_B G + jm_pos (jm_R r.1 r.2.1 r.2.2 k)) else none))))) := fun μ => by unfold jx_ct; rw [hat]; rfl
  rw [hct] at hws
  show W p l e R s m args below meth c H locs _ _ Q (F0 m pc LS (jx_ad G q' :: .int i :: jx_ad G r :: st.map (jx_v G)))
  rw [jx_adr hr, jx_adr hr']
  have hup : (fun k => if jx_w md (jm_uI μ.1 (r.1 + 600) r.2.1 r.2.2 (jm_ix i) 1, μ.2) r k = true then some (jx_B G + jm_pos (jm_R r.1 r.2.1 r.2.2 k)) else none) = va_up (fun k => if jx_w md μ r k = true then some (jx_B G + jm_pos (jm_R r.1 r.2.1 r.2.2 k)) else none) (jm_ix i) (some (jx_B G + n')) := by
    funext k
    rw [jx_w_uR hm]
    unfold va_up
    by_cases hk : k = jm_ix i
    · rw [if_pos hk, if_pos hk, if_pos rfl, hk, ← hq', jx_pos hr']
    · rw [if_neg hk, if_neg hk]
  have fin : ∀ (t0 : Nat) (q : vw_C), (jx_tys G)[t0]? = some (G.2.1 (4 + jm_kel r.1), .object q.1) → vwCl[jm_kel r.1]? = some q → W p l e R s m args below meth c H locs (jm_cnt md μ - n0) (8600 * (jm_cnt md μ - n0)) Q (F0 m pc LS (.ref (jx_B G + n') :: .int i :: .ref (jx_B G + n) :: st.map (jx_v G))) := by
    intro t0 q ht hq
    refine va_astq C.1 C.2.1 C.2.2.2.2.2.1.1 S.1.1.2.1 (jx_va_D G md μ) S.2.1 n t0 n' (jm_kel r.1) hws ht hws' hq hi hd (fun H1 locs1 hP1 hD1 hS1 => ?_)
    have h9 := KK H1 locs1 LS (jx_St_uR (k := jm_ix i) S hm hn hr (by rw [← hq']; exact ⟨n', hn', hr'⟩) ?_ hS1 hO.t.t.t)
    · rw [jx_cnt_uI (by omega)] at h9
      exact h9
    · rw [hct, hup]
      exact hP1
  rcases hkel with q | q | q <;> rw [q] at fin
  · exact fin 4 (RX7, TX7, 3) rfl rfl
  · exact fin 5 (RX8, TX8, 10) rfl rfl
  · exact fin 6 (RX10, TX10, 10) rfl rfl
theorem jy_copyI (C : jx_C p s m args c G L xs cc nL own n0) {idx : Nat} {a b : jm_Rf} {sp dp n : Int32} (ha : jm_kat a.1 = 0) (hb : jm_kat b.1 = 0) (hg : 0 ≤ sp ∧ 0 ≤ dp ∧ 0 ≤ n ∧ jm_ix sp + jm_ix n ≤ jm_kln a.1 ∧ jm_ix dp + jm_ix n ≤ jm_kln b.1) (hcs : jm_cs st ≤ 8) (hfr : 1 ≤ R.frames) (hlo : 80 ≤ R.locals) (hl : Cond.methodLink own idx arraycopyName ∈ jx_gw) (hd : decode cc pc = .ok (.invokestatic idx, 3))
    (KK : jx_J p l e R s m args below meth c Q G L xs md n0 nL (pc + 3) ls st (jm_cI μ.1 a b (jm_ix sp) (jm_ix dp) (jm_ix n), μ.2)) : jx_J p l e R s m args below meth c Q G L xs md n0 nL pc ls (.inl n :: .inl dp :: .inr (.inr (.inl b)) :: .inl sp :: .inr (.inr (.inl a)) :: st) μ := by
  intro H locs LS S
  have hO := S.2.2.2.2
  have h61a : a.1 ≠ 61 := by intro z; rw [z] at ha; exact absurd ha (by decide +kernel)
  have h61b : b.1 ≠ 61 := by intro z; rw [z] at hb; exact absurd hb (by decide +kernel)
  obtain ⟨na, hna, hra⟩ := jx_arr_in hO.t.t.t.t.h (by rw [ha]; decide) h61a
  obtain ⟨nb, hnb, hrb⟩ := jx_arr_in hO.t.t.h (by rw [hb]; decide) h61b
  have h60 := jx_k60 hrb
  have hwa := jx_ws_get (G := G) hna hra
  have hwb := jx_ws_get (G := G) hnb hrb
  have hca : ∀ μ, jx_ct G md μ a = .inl (G.2.1 0, jm_kln a.1, .inl (μ.1 a.1 a.2.1 a.2.2)) := fun μ => by unfold jx_ct; rw [ha]; rfl
  have hcb : ∀ μ, jx_ct G md μ b = .inl (G.2.1 0, jm_kln b.1, .inl (μ.1 b.1 b.2.1 b.2.2)) := fun μ => by unfold jx_ct; rw [hb]; rfl
  rw [hca] at hwa
  rw [hcb] at hwb
  have hsv := C.2.2.2.2.2.1.2.2.2.2.2.2.2.2
  show W p l e R s m args below meth c H locs _ _ Q (F0 m pc LS (.int n :: .int dp :: jx_ad G b :: .int sp :: jx_ad G a :: st.map (jx_v G)))
  rw [jx_adr hra, jx_adr hrb]
  refine va_copyi C.1 C.2.1 (C.2.2.1.trans S.2.2.1.2.1.symm) C.2.2.2.1 (C.2.2.2.2.1 _ hl) (C.2.2.2.2.1 _ (jx_gwi jx_wd_copy.1 rfl)) (C.2.2.2.2.1 _ (jx_gwi jx_wd_copy.2.1 rfl)) (C.2.2.2.2.1 _ (jx_gwi jx_wd_copy.2.2 rfl)) C.2.2.2.2.2.1.1 S.1.1.2.1 (jx_va_D G md μ) S.2.1 na nb 0 0 hwa hwb rfl rfl rfl (jx_nn hg.1) (jx_nn hg.2.1) (jx_nn hg.2.2.1) hg.2.2.2.1 hg.2.2.2.2 (fun _ _ => rfl) hfr (by rw [jx_cs hsv]; have := jx_nfw; omega) hd (fun H1 locs1 hP1 hD1 hS1 => ?_)
  have hcnt : jm_cnt md (jm_cI μ.1 a b (jm_ix sp) (jm_ix dp) (jm_ix n), μ.2) = jm_cnt md μ := by
    unfold jm_cnt
    dsimp only
    rw [jx_cI_ne (fun z => by omega)]
  have oks : ∀ st', jx_oks md μ st' → jx_oks md (jm_cI μ.1 a b (jm_ix sp) (jm_ix dp) (jm_ix n), μ.2) st' := by
    intro st' h v hv
    have := h v hv
    rcases v with x | x | x | x
    · trivial
    · trivial
    · show jx_ok _ _ _
      unfold jx_ok jx_in
      rw [hcnt]
      exact this
    · trivial
  have h9 := KK H1 locs1 LS ⟨⟨jx_H2_one S.1.1 hnb hrb hcnt (fun K i j h1 h2 h3 => ⟨jx_cI_ne h2, rfl⟩) (fun q hs hw => ?_) ?_, ⟨fun q => ?_, ?_, S.1.2.2.2⟩⟩, hS1, S.2.2.1, oks _ S.2.2.2.1, oks _ hO.t.t.t.t.t⟩
  · rw [hcnt] at h9
    exact h9
  · rcases hs with ⟨z, -⟩ | ⟨z, -⟩ <;> rw [hb] at z <;> cases z
  · rw [hcb]
    dsimp only
    rw [jx_cI_at]
    exact hP1
  · show jm_cI μ.1 a b _ _ _ 70 0 0 q = _
    rw [jx_cI_ne (fun z => by omega)]; exact S.1.2.1 q
  · show jm_cI μ.1 a b _ _ _ 70 0 1 0 = _
    rw [jx_cI_ne (fun z => by omega)]; exact S.1.2.2.1
theorem jy_copyL (C : jx_C p s m args c G L xs cc nL own n0) {idx : Nat} {a b : jm_Rf} {sp dp n : Int32} (ha : jm_kat a.1 = 1) (hb : jm_kat b.1 = 1) (hg : 0 ≤ sp ∧ 0 ≤ dp ∧ 0 ≤ n ∧ jm_ix sp + jm_ix n ≤ jm_kln a.1 ∧ jm_ix dp + jm_ix n ≤ jm_kln b.1) (hcs : jm_cs st ≤ 8) (hfr : 1 ≤ R.frames) (hlo : 80 ≤ R.locals) (hl : Cond.methodLink own idx arraycopyName ∈ jx_gw) (hd : decode cc pc = .ok (.invokestatic idx, 3))
    (KK : jx_J p l e R s m args below meth c Q G L xs md n0 nL (pc + 3) ls st (μ.1, jm_cL μ.2 a b (jm_ix sp) (jm_ix dp) (jm_ix n))) : jx_J p l e R s m args below meth c Q G L xs md n0 nL pc ls (.inl n :: .inl dp :: .inr (.inr (.inl b)) :: .inl sp :: .inr (.inr (.inl a)) :: st) μ := by
  intro H locs LS S
  have hO := S.2.2.2.2
  have h61a : a.1 ≠ 61 := by intro z; rw [z] at ha; exact absurd ha (by decide +kernel)
  have h61b : b.1 ≠ 61 := by intro z; rw [z] at hb; exact absurd hb (by decide +kernel)
  obtain ⟨na, hna, hra⟩ := jx_arr_in hO.t.t.t.t.h (by rw [ha]; decide) h61a
  obtain ⟨nb, hnb, hrb⟩ := jx_arr_in hO.t.t.h (by rw [hb]; decide) h61b
  have h60 := jx_k60 hrb
  have hwa := jx_ws_get (G := G) hna hra
  have hwb := jx_ws_get (G := G) hnb hrb
  have hca : ∀ μ, jx_ct G md μ a = .inl (G.2.1 1, jm_kln a.1, .inr (.inl (μ.2 a.1 a.2.1 a.2.2))) := fun μ => by unfold jx_ct; rw [ha]; rfl
  have hcb : ∀ μ, jx_ct G md μ b = .inl (G.2.1 1, jm_kln b.1, .inr (.inl (μ.2 b.1 b.2.1 b.2.2))) := fun μ => by unfold jx_ct; rw [hb]; rfl
  rw [hca] at hwa
  rw [hcb] at hwb
  have hsv := C.2.2.2.2.2.1.2.2.2.2.2.2.2.2
  show W p l e R s m args below meth c H locs _ _ Q (F0 m pc LS (.int n :: .int dp :: jx_ad G b :: .int sp :: jx_ad G a :: st.map (jx_v G)))
  rw [jx_adr hra, jx_adr hrb]
  refine va_copyl C.1 C.2.1 (C.2.2.1.trans S.2.2.1.2.1.symm) C.2.2.2.1 (C.2.2.2.2.1 _ hl) (C.2.2.2.2.1 _ (jx_gwi jx_wd_copy.1 rfl)) (C.2.2.2.2.1 _ (jx_gwi jx_wd_copy.2.1 rfl)) (C.2.2.2.2.1 _ (jx_gwi jx_wd_copy.2.2 rfl)) C.2.2.2.2.2.1.1 S.1.1.2.1 (jx_va_D G md μ) S.2.1 na nb 1 1 hwa hwb rfl rfl rfl (jx_nn hg.1) (jx_nn hg.2.1) (jx_nn hg.2.2.1) hg.2.2.2.1 hg.2.2.2.2 (fun _ _ => rfl) hfr (by rw [jx_cs hsv]; have := jx_nfw; omega) hd (fun H1 locs1 hP1 hD1 hS1 => ?_)
  refine KK H1 locs1 LS ⟨⟨jx_H2_one S.1.1 hnb hrb rfl (fun K i j h1 h2 h3 => ⟨rfl, jx_cL_ne h2⟩) (fun q hs hw => ?_) ?_, S.1.2⟩, hS1, S.2.2.1, S.2.2.2.1, hO.t.t.t.t.t⟩
  · rcases hs with ⟨z, -⟩ | ⟨z, -⟩ <;> rw [hb] at z <;> cases z
  · rw [hcb]
    dsimp only
    rw [jx_cL_at]
    exact hP1
theorem jy_max (C : jx_C p s m args c G L xs cc nL own n0) {idx : Nat} {x y : Int32} (hcs : jm_cs st ≤ 8) (hfr : 1 ≤ R.frames) (hlo : 80 ≤ R.locals) (hrc : jm_cnt md μ - n0 ≤ R.cells) (hrs : 8600 * (jm_cnt md μ - n0) ≤ R.slots) (hl : Cond.methodLink own idx Lib.Math.max.name ∈ jx_gw) (hd : decode cc pc = .ok (.invokestatic idx, 3))
    (KK : jx_J p l e R s m args below meth c Q G L xs md n0 nL (pc + 3) ls (.inl (if x < y then y else x) :: st) μ) : jx_J p l e R s m args below meth c Q G L xs md n0 nL pc ls (.inl y :: .inl x :: st) μ := by
  intro H locs LS S
  have hO := S.2.2.2.2
  have hsv := C.2.2.2.2.2.1.2.2.2.2.2.2.2.2
  exact va_mmax C.1 C.2.1 (C.2.2.1.trans S.2.2.1.2.1.symm) C.2.2.2.1 (C.2.2.2.2.1 _ hl) (C.2.2.2.2.1 _ (jx_gwi jx_wd_max.1 rfl)) (C.2.2.2.2.1 _ (jx_gwi jx_wd_max.2.1 rfl)) (C.2.2.2.2.1 _ (jx_gwi jx_wd_max.2.2 rfl)) hfr (by rw [jx_cs hsv]; omega) hrc hrs hd (KK H locs LS (S.st hO.t.t.i))
theorem jy_min (C : jx_C p s m args c G L xs cc nL own n0) {idx : Nat} {x y : Int32} (hcs : jm_cs st ≤ 8) (hfr : 1 ≤ R.frames) (hlo : 80 ≤ R.locals) (hrc : jm_cnt md μ - n0 ≤ R.cells) (hrs : 8600 * (jm_cnt md μ - n0) ≤ R.slots) (hl : Cond.methodLink own idx Lib.Math.min.name ∈ jx_gw) (hd : decode cc pc = .ok (.invokestatic idx, 3))
    (KK : jx_J p l e R s m args below meth c Q G L xs md n0 nL (pc + 3) ls (.inl (if y < x then y else x) :: st) μ) : jx_J p l e R s m args below meth c Q G L xs md n0 nL pc ls (.inl y :: .inl x :: st) μ := by
  intro H locs LS S
  have hO := S.2.2.2.2
  have hsv := C.2.2.2.2.2.1.2.2.2.2.2.2.2.2
  exact va_mmin C.1 C.2.1 (C.2.2.1.trans S.2.2.1.2.1.symm) C.2.2.2.1 (C.2.2.2.2.1 _ hl) (C.2.2.2.2.1 _ (jx_gwi jx_wd_min.1 rfl)) (C.2.2.2.2.1 _ (jx_gwi jx_wd_max.2.1 rfl)) (C.2.2.2.2.1 _ (jx_gwi jx_wd_min.2 rfl)) hfr (by rw [jx_cs hsv]; omega) hrc hrs hd (KK H locs LS (S.st hO.t.t.i))
theorem jy_objInit (C : jx_C p s m args c G L xs cc nL own n0) {idx : Nat} {r : jm_Rf} (h60 : r.1 < 60) (hcs : jm_cs st ≤ 8) (hfr : 1 ≤ R.frames) (hlo : 80 ≤ R.locals) (hl : Cond.methodLink own idx objectInit ∈ jx_gw) (hd : decode cc pc = .ok (.invokespecial idx, 3))
    (KK : jx_J p l e R s m args below meth c Q G L xs md n0 nL (pc + 3) ls st μ) : jx_J p l e R s m args below meth c Q G L xs md n0 nL pc ls (.inr (.inr (.inl r)) :: st) μ := by
  intro H locs LS S
  have hO := S.2.2.2.2
  have hsv := C.2.2.2.2.2.1.2.2.2.2.2.2.2.2
  have e1 : jx_ad G r = .ref (jx_B G + jm_pos r) := by
    unfold jx_ad
    rw [if_neg (by omega), if_neg (by omega), if_neg (by omega), if_neg (by omega)]
  show W p l e R s m args below meth c H locs _ _ Q (F0 m pc LS (jx_ad G r :: st.map (jx_v G)))
  rw [e1]
  exact W.objInit C.1 C.2.1 C.2.2.2.1 (C.2.2.2.2.1 _ hl) (C.2.2.2.2.1 _ (jx_gwi jx_wd_obj.1 rfl)) (C.2.2.2.2.1 _ (jx_gwi jx_wd_obj.2 rfl)) rfl (S.2.2.1.2.1.trans C.2.2.1.symm) rfl hd hfr (by show 2 * 0 + ((st.map (jx_v G)).map fun v => v.category).sum + 12 ≤ _; rw [jx_cs hsv]; omega) (KK H locs LS (S.st hO.t))
end JX7
