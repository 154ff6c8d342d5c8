/-! ===== one step: new cells ===== -/
def jx_xlh : List (List (Nat × Nat)) := [[],
  [],
  [],
  [],
  [(28, 402)],
  [],
  [],
  [(9, 248), (17, 250)],
  [],
  [],
  [(9, 159), (19, 161), (28, 209), (37, 229), (44, 242), (58, 396), (65, 443), (72, 465)],
  [],
  [],
  [(7, 151), (10, 1519)],
  [],
  [],
  [],
  [],
  []]
theorem jx_xl_all : (List.range 19).all (fun cls => (jm_xl.getD cls []).all (fun e => match jm_find (jx_xlh.getD cls []) e.1 with | some i => jx_at i (.classLink (jm_cn.getD cls "") e.1 (jm_cn.getD e.2 "")) && Nat.blt e.2 12 | none => false)) = true := by decide +kernel
theorem jx_xl_len : jm_xl.length = 19 := by decide +kernel
theorem jx_xl {cls idx c' : Nat} {own : String} (ho : jm_cn[cls]? = some own) (h : jm_find (jm_xl.getD cls []) idx = some c') : Cond.classLink own idx (jm_cn.getD c' "") ∈ jx_gw ∧ c' < 12 := by
  have hin := jx_find_in h
  by_cases hc : cls < 19
  · have h1 := List.all_eq_true.mp (List.all_eq_true.mp jx_xl_all cls (List.mem_range.mpr hc)) _ hin
    rw [jx_cn_get ho] at h1
    dsimp only at h1
    cases hf : jm_find (jx_xlh.getD cls []) idx with
    | none => rw [hf] at h1; cases h1
    | some i =>
      rw [hf] at h1
      simp only [Bool.and_eq_true] at h1
      exact ⟨jx_at_in h1.1, Nat.blt_eq.mp h1.2⟩
  · have e : jm_xl.getD cls [] = [] := by simp [List.getD, List.getElem?_eq_none (show jm_xl.length ≤ cls by rw [jx_xl_len]; omega)]
    rw [e] at hin
    cases hin
theorem jx_vw_get {c : Nat} (h : c < 12) : ∃ q, vwCl[c]? = some q := ⟨_, List.getElem?_eq_getElem (show c < vwCl.length from h)⟩
theorem jx_szN : ∀ c, c < 12 → jx_N c ≤ 8600 := by decide +kernel
theorem jx_szK : ∀ K, K < 62 → jm_kln K ≤ 8600 := by decide +kernel
/-- the count goes up by one -/
theorem jx_cnt_up {μ : jm_M} (h0 : 0 ≤ μ.1 500 0 0 0) (hl : (μ.1 500 0 0 0).toNatClampNeg < 179) : jm_cnt true (jm_uI μ.1 500 0 0 0 (μ.1 500 0 0 0 + 1), μ.2) = jm_cnt true μ + 1 := by
  show ((jm_uI μ.1 500 0 0 0 (μ.1 500 0 0 0 + 1)) 500 0 0 0).toNatClampNeg = (μ.1 500 0 0 0).toNatClampNeg + 1
  rw [jx_uI_val, if_pos rfl]
  obtain ⟨j, hj, e⟩ := nI_of (jx_nn h0)
  rw [e] at hl ⊢
  rw [nI_clamp hj] at hl ⊢
  rw [nI_1, nI_clamp (by omega)]
section JX8
variable {p : Program} {l : Launch} {e : Env} {R : Room} {s : State} {m : MethodId} {args : Array Value} {below : List Frame} {meth : Method} {c : Code} {Q : State → Prop} {G : jx_G} {L : Nat} {xs : Nat → Int32} {n0 nL : Nat} {cc : ByteArray} {own : String}
variable {pc : Nat} {ls st : List jm_V} {μ : jm_M}
theorem jx_size {md : Bool} (C : jx_C p s m args c G L xs cc nL own n0) {H : Heap} {locs : List Loc} {LS : Array Slot} (S : jx_St G L xs md μ nL ls st s H locs LS) (hn0 : n0 ≤ jm_cnt md μ) {T : State} {sl : Nat} (hT : T.heap = H) (X : Stand p l e R s m args below meth c T locs (jm_cnt md μ - n0) sl) : H.size = jx_B G + jm_cnt md μ := by
  have h1 := X.heapSize
  rw [hT, C.2.2.2.2.2.2] at h1
  have h2 := S.2.1.1
  rw [C.2.2.2.2.2.2] at h2
  by_cases h0 : jm_cnt md μ = 0
  · omega
  · have hl : jm_cnt md μ - 1 < 179 := by have := S.1.1.1; omega
    have hr : jm_nm[jm_cnt md μ - 1]? = some (jm_nm[jm_cnt md μ - 1]'(by rw [jx_nm_len]; exact hl)) := List.getElem?_eq_getElem _
    have hw := jx_ws_get (G := G) (md := md) (μ := μ) (by omega) hr
    have h3 := (S.1.1.2.1 _ _ hw).lt
    dsimp only at h3
    omega
theorem jx_Wsz {md : Bool} (C : jx_C p s m args c G L xs cc nL own n0) {H : Heap} {locs : List Loc} {LS : Array Slot} (S : jx_St G L xs md μ nL ls st s H locs LS) (hn0 : n0 ≤ jm_cnt md μ) {sl : Nat} {g : JFrame} (k : H.size = jx_B G + jm_cnt md μ → W p l e R s m args below meth c H locs (jm_cnt md μ - n0) sl Q g) : W p l e R s m args below meth c H locs (jm_cnt md μ - n0) sl Q g :=
  fun T hT X => k (jx_size C S hn0 hT X) T hT X
/-- behind a new cell -/
theorem jx_St_new {H H1 : Heap} {locs : List Loc} {LS : Array Slot} {r : jm_Rf} (S : jx_St G L xs true μ nL ls st s H locs LS) (hr : jm_nm[(μ.1 500 0 0 0).toNatClampNeg]? = some r) (h0 : 0 ≤ μ.1 500 0 0 0) (hk : ∀ q, q < H.size → H1[q]? = H[q]?) (hS : va_S (jx_A G) s.heap H1 locs)
    (hat : va_at G.1 vwCl (jx_B G + jm_cnt true μ, jx_ct G true μ r) H1) {st' : List jm_V} (hst : jx_oks true μ st') : jx_St G L xs true (jm_uI μ.1 500 0 0 0 (μ.1 500 0 0 0 + 1), μ.2) nL ls (.inr (.inr (.inl r)) :: st') s H1 locs LS := by
  have hl : jm_cnt true μ < 179 := jx_lt hr
  have hr' : jm_nm[jm_cnt true μ]? = some r := hr
  have hc := jx_cnt_up h0 hl
  have hz := S.1.1.2.2.2 rfl _ r (Nat.le_refl _) hr'
  generalize hμ' : (jm_uI μ.1 500 0 0 0 (μ.1 500 0 0 0 + 1), μ.2) = μ' at hc ⊢
  have e1 : ∀ K i j, K ≠ 500 → μ'.1 K i j = μ.1 K i j := fun K i j h => by rw [← hμ']; exact jx_uI_ne (fun z => h z.1)
  have e2 : μ'.2 = μ.2 := by rw [← hμ']
  have hin : ∀ q, jx_in true μ q → jx_in true μ' q := fun q ⟨n, hn, h⟩ => ⟨n, by rw [hc]; omega, h⟩
  have hok : ∀ q, jx_ok true μ q → jx_ok true μ' q := fun q h => by
    rcases h with h | h
    · exact Or.inl (hin q h)
    · exact Or.inr h
  have hoks : ∀ l, jx_oks true μ l → jx_oks true μ' l := fun l h v hv => by
    have := h v hv
    rcases v with a | a | a | a
    · trivial
    · trivial
    · exact hok _ this
    · trivial
  have hw : ∀ q k, jx_w true μ' q k = jx_w true μ q k := fun q k => jx_w_congr (congrFun (e1 _ _ _ (by omega)) k)
  have hct : ∀ q : jm_Rf, q.1 < 60 → jx_ct G true μ' q = jx_ct G true μ q := fun q hq => jx_ct_congr (e1 _ _ _ (by omega)) (by rw [e2]) (e1 _ _ _ (by omega))
  have hws : jx_ws G true μ' = jx_ws G true μ ++ [(jx_B G + jm_cnt true μ, jx_ct G true μ r)] := by
    unfold jx_ws
    rw [hc, List.range_succ, List.map_append]
    congr 1
    · apply List.map_congr_left
      intro n hn
      have hn := List.mem_range.mp hn
      have : jm_nm[n]? = some (jm_nm[n]'(by rw [jx_nm_len]; omega)) := List.getElem?_eq_getElem _
      rw [jx_getD this, hct _ (jx_k60 this)]
    · simp only [List.map_cons, List.map_nil, jx_getD hr', hct r (jx_k60 hr')]
  refine ⟨⟨⟨by rw [hc]; omega, ?_, fun q k hq hs hk2 => ?_, fun _ n q hn hq k => ?_⟩, ⟨fun j => ?_, ?_, S.1.2.2.2⟩⟩, hS, S.2.2.1, hoks _ S.2.2.2.1, jx_oks_cons (Or.inl ⟨_, by rw [hc]; omega, hr'⟩) (hoks _ hst)⟩
  · rw [hws]
    refine (S.1.1.2.1.kept (fun k q hq => hk q.1 ((S.1.1.2.1 k q hq).lt))).app (fun k q hq => ?_)
    have hz : k < 1 := (List.getElem?_eq_some_iff.mp hq).1
    rw [show k = 0 by omega] at hq
    cases hq
    exact hat
  · rw [hw] at hk2
    obtain ⟨n, hn, h⟩ := hq
    rw [hc] at hn
    by_cases hnn : n = jm_cnt true μ
    · rw [hnn, hr'] at h
      cases h
      have h3 := (hz k).2.2
      unfold jx_w at hk2
      dsimp only [cond_true] at hk2
      rw [h3] at hk2
      exact absurd hk2 (by decide)
    · exact hin _ (S.1.1.2.2.1 q k ⟨n, by omega, h⟩ hs hk2)
  · rw [hc] at hn
    have h60 := jx_k60 hq
    rw [e1 _ _ _ (by omega), e2, e1 _ _ _ (by omega)]
    exact S.1.1.2.2.2 rfl n q (by omega) hq k
  · rw [e1 _ _ _ (by omega)]; exact S.1.2.1 j
  · rw [e1 _ _ _ (by omega)]; exact S.1.2.2.1
theorem jx_fv_0 {md : Bool} {r : jm_Rf} {t j : Nat} {ft : FieldType} (h1 : μ.1 r.1 r.2.1 r.2.2 j = 0) (h2 : μ.2 r.1 r.2.1 r.2.2 j = 0) (h3 : jx_w md μ r j = false) (ht : jx_tyr t ft = true) : defaultValue ft = jx_fv G md μ r t j := by
  match t, ft, ht with
  | 0, .int, _ => show Value.int 0 = .int _; rw [h1]
  | 1, .boolean, _ => show Value.int 0 = .int (_ &&& 1); rw [h1]; rfl
  | 2, .long, _ => show Value.long 0 = .long _; rw [h2]
  | 3, .object _, _ => show Value.null = (if jx_w md μ r j = true then _ else _); rw [h3]; rfl
  | 3, .array _, _ => show Value.null = (if jx_w md μ r j = true then _ else _); rw [h3]; rfl
theorem jy_new (C : jx_C p s m args c G L xs cc nL own n0) {cls idx c' : Nat} {r : jm_Rf} (hcn : jm_cn[cls]? = some own) (hf : jm_find (jm_xl.getD cls []) idx = some c') (hr : jm_nm[(μ.1 500 0 0 0).toNatClampNeg]? = some r) (hkc : jm_kcl r.1 = c') (h0 : 0 ≤ μ.1 500 0 0 0) (hn0 : n0 ≤ jm_cnt true μ) (hrc : jm_cnt true μ + 1 - n0 ≤ R.cells) (hrs : 8600 * (jm_cnt true μ + 1 - n0) ≤ R.slots) (hd : decode cc pc = .ok (.new idx, 3))
    (KK : jx_J p l e R s m args below meth c Q G L xs true n0 nL (pc + 3) ls (.inr (.inr (.inl r)) :: st) (jm_uI μ.1 500 0 0 0 (μ.1 500 0 0 0 + 1), μ.2)) : jx_J p l e R s m args below meth c Q G L xs true n0 nL pc ls st μ := by
  intro H locs LS S
  have hO := S.2.2.2.2
  obtain ⟨hl, h12⟩ := jx_xl hcn hf
  obtain ⟨q, hq⟩ := jx_vw_get h12
  have hcls := jx_cls_all hq
  have hnm : jm_cn.getD c' "" = q.1 := jx_cn_get hcls.2.2.2.2.2.2.2
  rw [hnm] at hl
  obtain ⟨ty0, hpt, htr⟩ := hcls.2.1
  have hKn := C.2.2.2.2.2.1.1.1 c' q hq
  have hN := hcls.2.2.2.1
  have hNle := jx_szN c' h12
  have hlt : jm_cnt true μ < 179 := jx_lt hr
  have hcu := jx_cnt_up h0 hlt
  have hnew := fun (H1 : Heap) hk hS hat => jx_St_new (H1 := H1) S hr h0 hk hS hat hO
  generalize (jm_uI μ.1 500 0 0 0 (μ.1 500 0 0 0 + 1), μ.2) = μ' at hcu hnew KK
  have h60 := jx_k60 hr
  have hat9 : jm_kat r.1 = 9 := jx_kd_obj r.1 (by omega) (by rw [hkc]; exact h12)
  have hz := S.1.1.2.2.2 rfl _ r (Nat.le_refl _) hr
  refine jx_Wsz C S hn0 (fun hsz => ?_)
  refine W.newcK C.1 C.2.1 C.2.2.2.1 (C.2.2.2.2.1 _ hl) (C.2.2.2.2.1 _ hcls.2.2.2.2.2.1) (C.2.2.2.2.1 _ hcls.2.2.2.2.2.2.1) rfl hd (by omega) (by omega) hKn.2.1 hsz (fun H1 kC hkC e1 z1 o1 => ?_)
  refine W.widen (k := jm_cnt true μ' - n0) (n := 8600 * (jm_cnt true μ' - n0)) (by rw [hcu]; omega) (by rw [hcu]; omega) ?_
  have h9 := KK H1 locs LS (hnew H1 (fun q' hq' => o1 q' (by omega)) ⟨Nat.le_trans S.2.1.1 (by omega), fun x h1 h2 => (o1 x (by have := S.2.1.1; omega)).trans (S.2.1.2.1 x h1 h2), S.2.1.2.2⟩ ?_)
  · have h9 : W p l e R s m args below meth c H1 locs _ _ Q (F0 m (pc + 3) LS (jx_ad G r :: st.map (jx_v G))) := h9
    rw [jx_adr hr] at h9
    exact h9
  · rw [jx_ct_obj hat9, hkc]
    refine ⟨q, hq, (u_born ty0 C.2.2.2.2.1 hcls.1 hKn hkC e1 hpt).to (fun j hj => ?_)⟩
    have hjN : j < jx_N c' := by rw [← hN]; exact hj
    unfold vp_V
    rw [List.getD, jx_fs_get hjN]
    have ht := htr j hj
    have hzj := hz j
    have hwj : jx_w true μ r j = false := by
      unfold jx_w
      simp only [hzj.2.2, cond_true]
      decide
    exact jx_fv_0 hzj.1 hzj.2.1 hwj ht
end JX8
