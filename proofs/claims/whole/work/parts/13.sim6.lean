/-! ===== one step: constants, strings, arrays of references, copies ===== -/
def jx_kih : List (List (Nat × Nat)) := [[(76, 1484)],
  [],
  [],
  [(90, 987)],
  [],
  [],
  [],
  [],
  [],
  [],
  [],
  [(145, 1752), (450, 2193)],
  [(11, 1097)],
  [],
  [],
  [],
  [],
  [(264, 1463), (265, 1068), (266, 1069), (267, 1070)],
  []]
def jx_klh : List (List (Nat × Nat)) := [[],
  [],
  [],
  [(102, 993)],
  [],
  [(59, 681), (61, 682), (70, 738), (72, 739)],
  [],
  [],
  [],
  [(49, 1079), (62, 1239)],
  [],
  [(113, 1713), (285, 1840), (402, 2097), (415, 2129), (442, 2162), (463, 2175), (465, 2176), (480, 2202)],
  [],
  [(32, 2219)],
  [],
  [],
  [],
  [],
  []]
theorem jx_kI_all : (List.range 19).all (fun cls => (jm_kI.getD cls []).all (fun e => match jm_find (jx_kih.getD cls []) e.1 with | some i => jx_at i (.constant (jm_cn.getD cls "") e.1 e.2) | none => false)) = true := by decide +kernel
theorem jx_kI_len : jm_kI.length = 19 := by decide +kernel
theorem jx_kI {cls idx : Nat} {own : String} {v : Int32} (ho : jm_cn[cls]? = some own) (h : jm_find (jm_kI.getD cls []) idx = some v) : Cond.constant own idx v ∈ jx_gw := by
  have hin := jx_find_in h
  by_cases hc : cls < 19
  · have h1 := List.all_eq_true.mp (List.all_eq_true.mp jx_kI_all cls (List.mem_range.mpr hc)) _ hin
    rw [jx_cn_get ho] at h1
    dsimp only at h1
    cases hf : jm_find (jx_kih.getD cls []) idx with
    | none => rw [hf] at h1; cases h1
    | some i => rw [hf] at h1; exact jx_at_in h1
  · have e : jm_kI.getD cls [] = [] := by simp [List.getD, List.getElem?_eq_none (show jm_kI.length ≤ cls by rw [jx_kI_len]; omega)]
    rw [e] at hin
    cases hin
theorem jx_kL_all : (List.range 19).all (fun cls => (jm_kL.getD cls []).all (fun e => match jm_find (jx_klh.getD cls []) e.1 with | some i => jx_at i (.constantLong (jm_cn.getD cls "") e.1 e.2) | none => false)) = true := by decide +kernel
theorem jx_kL_len : jm_kL.length = 19 := by decide +kernel
theorem jx_kL {cls idx : Nat} {own : String} {v : Int64} (ho : jm_cn[cls]? = some own) (h : jm_find (jm_kL.getD cls []) idx = some v) : Cond.constantLong own idx v ∈ jx_gw := by
  have hin := jx_find_in h
  by_cases hc : cls < 19
  · have h1 := List.all_eq_true.mp (List.all_eq_true.mp jx_kL_all cls (List.mem_range.mpr hc)) _ hin
    rw [jx_cn_get ho] at h1
    dsimp only at h1
    cases hf : jm_find (jx_klh.getD cls []) idx with
    | none => rw [hf] at h1; cases h1
    | some i => rw [hf] at h1; exact jx_at_in h1
  · have e : jm_kL.getD cls [] = [] := by simp [List.getD, List.getElem?_eq_none (show jm_kL.length ≤ cls by rw [jx_kL_len]; omega)]
    rw [e] at hin
    cases hin
theorem jx_kS_all : ∀ cls, cls < 19 → ∀ e ∈ jm_kS.getD cls [], (cls, e) ∈ [(5, 74, 1), (5, 95, 0), (11, 184, 2)] := by decide +kernel
theorem jx_kS_len : jm_kS.length = 19 := by decide +kernel
theorem jx_gs_all : ∀ cls, cls < 19 → ∀ e ∈ jm_gs.getD cls [], (cls, e) ∈ [(14, 38, 0), (14, 1053, 1)] := by decide +kernel
theorem jx_gs_len : jm_gs.length = 19 := by decide +kernel
theorem jx_kel4 : ∀ K, K < 62 → jm_kat K = 4 → (jm_kel K = 6 ∨ jm_kel K = 7 ∨ jm_kel K = 9) := by decide +kernel
/-- any row of ours, with the place of its type -/
theorem jx_arr_any {G : jx_G} {md : Bool} {μ : jm_M} {r : jm_Rf} (hk : jm_kat r.1 < 5) (h62 : r.1 < 62) : ∃ (t0 : Nat) (ty : FieldType) (cA : ClassId) (x : vp_A), (jx_ct G md μ r = .inl (cA, x) ∧ x.1 = jm_kln r.1) ∧ (jx_tys G)[t0]? = some (cA, ty) := by
  rcases (show jm_kat r.1 = 0 ∨ jm_kat r.1 = 1 ∨ jm_kat r.1 = 2 ∨ jm_kat r.1 = 3 ∨ jm_kat r.1 = 4 by omega) with h | h | h | h | h
  · exact ⟨0, .int, _, _, ⟨by unfold jx_ct; rw [h]; rfl, rfl⟩, rfl⟩
  · exact ⟨1, .long, _, _, ⟨by unfold jx_ct; rw [h]; rfl, rfl⟩, rfl⟩
  · exact ⟨2, .byte, _, _, ⟨by unfold jx_ct; rw [h]; rfl, rfl⟩, rfl⟩
  · exact ⟨3, .boolean, _, _, ⟨by unfold jx_ct; rw [h]; rfl, rfl⟩, rfl⟩
  · have hct : jx_ct G md μ r = .inl (G.2.1 (4 + jm_kel r.1), jm_kln r.1, .inr (.inr (.inr (.inr (fun k => if jx_w md μ r k = true then some (jx_B G + jm_pos (jm_R r.1 r.2.1 r.2.2 k)) else none))))) := by unfold jx_ct; rw [h]; rfl
    rcases jx_kel4 r.1 h62 h with q | q | q <;> rw [q] at hct
    · exact ⟨4, _, _, _, ⟨hct, rfl⟩, rfl⟩
    · exact ⟨5, _, _, _, ⟨hct, rfl⟩, rfl⟩
    · exact ⟨6, _, _, _, ⟨hct, rfl⟩, rfl⟩
section JX6
variable {p : Program} {l : Launch} {e : Env} {R : Room} {s : State} {m : MethodId} {args : Array Value} {below : List Frame} {meth : Method} {c : Code} {Q : State → Prop} {G : jx_G} {L : Nat} {xs : Nat → Int32} {md : Bool} {n0 nL : Nat} {cc : ByteArray} {own : String}
variable {pc : Nat} {ls st : List jm_V} {μ : jm_M}
theorem jy_ldcI (C : jx_C p s m args c G L xs cc nL own n0) {cls idx : Nat} {v : Int32} (hcn : jm_cn[cls]? = some own) (hf : jm_find (jm_kI.getD cls []) idx = some v) (hd : decode cc pc = .ok (.ldc idx, 2)) (KK : jx_J p l e R s m args below meth c Q G L xs md n0 nL (pc + 2) ls (.inl v :: st) μ) : jx_J p l e R s m args below meth c Q G L xs md n0 nL (pc) ls st μ := by
  intro H locs LS S
  have hO := S.2.2.2.2
  exact lv_ldc C.1 C.2.1 C.2.2.2.1 (C.2.2.2.2.1 _ (jx_kI hcn hf)) hd (KK H locs LS (S.st hO.i))
theorem jy_ldcw (C : jx_C p s m args c G L xs cc nL own n0) {cls idx : Nat} {v : Int32} (hcn : jm_cn[cls]? = some own) (hf : jm_find (jm_kI.getD cls []) idx = some v) (hd : decode cc pc = .ok (.ldc_w idx, 3)) (KK : jx_J p l e R s m args below meth c Q G L xs md n0 nL (pc + 3) ls (.inl v :: st) μ) : jx_J p l e R s m args below meth c Q G L xs md n0 nL (pc) ls st μ := by
  intro H locs LS S
  have hO := S.2.2.2.2
  exact lv_ldcw C.1 C.2.1 C.2.2.2.1 (C.2.2.2.2.1 _ (jx_kI hcn hf)) hd (KK H locs LS (S.st hO.i))
theorem jy_ldc2 (C : jx_C p s m args c G L xs cc nL own n0) {cls idx : Nat} {v : Int64} (hcn : jm_cn[cls]? = some own) (hf : jm_find (jm_kL.getD cls []) idx = some v) (hd : decode cc pc = .ok (.ldc2_w idx, 3)) (KK : jx_J p l e R s m args below meth c Q G L xs md n0 nL (pc + 3) ls (.inr (.inl v) :: st) μ) : jx_J p l e R s m args below meth c Q G L xs md n0 nL (pc) ls st μ := by
  intro H locs LS S
  have hO := S.2.2.2.2
  exact lv_ldc2 C.1 C.2.1 C.2.2.2.1 (C.2.2.2.2.1 _ (jx_kL hcn hf)) hd (KK H locs LS (S.st hO.l))
theorem jy_ldcS (C : jx_C p s m args c G L xs cc nL own n0) {cls idx n : Nat} (hcn : jm_cn[cls]? = some own) (hf : jm_find (jm_kS.getD cls []) idx = some n) (hd : decode cc pc = .ok (.ldc idx, 2)) (KK : jx_J p l e R s m args below meth c Q G L xs md n0 nL (pc + 2) ls (.inr (.inr (.inl (60, n, 0))) :: st) μ) : jx_J p l e R s m args below meth c Q G L xs md n0 nL (pc) ls st μ := by
  intro H locs LS S
  have hO := S.2.2.2.2
  have hin := jx_find_in hf
  have hc : cls < 19 := by
    rcases Nat.lt_or_ge cls 19 with q | q
    · exact q
    · have e : jm_kS.getD cls [] = [] := by simp [List.getD, List.getElem?_eq_none (show jm_kS.length ≤ cls by rw [jx_kS_len]; omega)]
      rw [e] at hin
      cases hin
  have h3 := jx_kS_all cls hc _ hin
  simp only [List.mem_cons, List.not_mem_nil, or_false, Prod.mk.injEq] at h3
  rcases h3 with ⟨rfl, rfl, rfl⟩ | ⟨rfl, rfl, rfl⟩ | ⟨rfl, rfl, rfl⟩
  · have e := Option.some.inj hcn
    subst e
    exact va_ldcS C.1 C.2.1 C.2.2.2.1 C.2.2.2.2.2.1.2.2.2.2.1.2.1 hd (KK H locs LS (S.st (jx_oks_cons (Or.inr (Or.inl ⟨rfl, by decide⟩)) hO)))
  · have e := Option.some.inj hcn
    subst e
    exact va_ldcS C.1 C.2.1 C.2.2.2.1 C.2.2.2.2.2.1.2.2.2.2.1.1 hd (KK H locs LS (S.st (jx_oks_cons (Or.inr (Or.inl ⟨rfl, by decide⟩)) hO)))
  · have e := Option.some.inj hcn
    subst e
    exact va_ldcS C.1 C.2.1 C.2.2.2.1 C.2.2.2.2.2.1.2.2.2.2.1.2.2 hd (KK H locs LS (S.st (jx_oks_cons (Or.inr (Or.inl ⟨rfl, by decide⟩)) hO)))
theorem jy_getstatic (C : jx_C p s m args c G L xs cc nL own n0) {cls idx w : Nat} (hcn : jm_cn[cls]? = some own) (hf : jm_find (jm_gs.getD cls []) idx = some w) (hd : decode cc pc = .ok (.getstatic idx, 3)) (KK : ∀ v : jm_V, v = (match w with | 0 => .inl 1 | _ => .inr (.inr (.inl (62, 0, 0)))) → jx_J p l e R s m args below meth c Q G L xs md n0 nL (pc + 3) ls (v :: st) μ) : jx_J p l e R s m args below meth c Q G L xs md n0 nL (pc) ls st μ := by
  intro H locs LS S
  have hO := S.2.2.2.2
  have hin := jx_find_in hf
  have hc : cls < 19 := by
    rcases Nat.lt_or_ge cls 19 with q | q
    · exact q
    · have e : jm_gs.getD cls [] = [] := by simp [List.getD, List.getElem?_eq_none (show jm_gs.length ≤ cls by rw [jx_gs_len]; omega)]
      rw [e] at hin
      cases hin
  have h3 := jx_gs_all cls hc _ hin
  simp only [List.mem_cons, List.not_mem_nil, or_false, Prod.mk.injEq] at h3
  rcases h3 with ⟨rfl, rfl, rfl⟩ | ⟨rfl, rfl, rfl⟩
  · have e := Option.some.inj hcn
    subst e
    have hl : (Cond.fieldLink RJ0 38 "java/lang/String" "COMPACT_STRINGS" "Z").before args s = true := C.2.2.2.2.1 _ (jx_at_in (i := 695) (by decide +kernel))
    exact va_gets C.1 C.2.1 C.2.2.2.2.2.1.2.1 S.2.1 C.2.2.2.1 hl (fun x h => h) hd (KK _ rfl H locs LS (S.st hO.i))
  · have e := Option.some.inj hcn
    subst e
    have hl : (Cond.fieldLink RJ0 1053 "jdk/internal/util/Preconditions" "SIOOBE_FORMATTER" "Ljava/util/function/BiFunction;").before args s = true := C.2.2.2.2.1 _ (jx_at_in (i := 711) (by decide +kernel))
    exact va_gets C.1 C.2.1 C.2.2.2.2.2.1.2.2.1 S.2.1 C.2.2.2.1 hl (fun x h => h) hd (KK _ rfl H locs LS (S.st (jx_oks_cons (Or.inr (Or.inr (Or.inr (Or.inl rfl)))) hO)))
theorem jy_baload61 (C : jx_C p s m args c G L xs cc nL own n0) {r : jm_Rf} {i : Int32} (h61 : r.1 = 61) (hi : vp_in i (jm_len μ r)) (hd : decode cc pc = .ok (.baload, 1)) (KK : jx_J p l e R s m args below meth c Q G L xs md n0 nL (pc + 1) ls (.inl (jm_rI μ r (jm_ix i)) :: st) μ) : jx_J p l e R s m args below meth c Q G L xs md n0 nL (pc) ls (.inl i :: .inr (.inr (.inl r)) :: st) μ := by
  intro H locs LS S
  have hO := S.2.2.2.2
  obtain ⟨K0, a, b⟩ := r
  simp only at h61
  subst h61
  have ha : a < 3 := by
    rcases hO.t.h with ⟨n, -, hr⟩ | ⟨q, -⟩ | ⟨-, q⟩ | q | q
    · exact absurd (show 61 < 60 from jx_k60 hr) (by decide)
    · exact absurd (show 61 = 60 from q) (by decide)
    · exact q
    · exact absurd (show 61 = 62 from q) (by decide)
    · cases q
  have hE := (C.2.2.2.2.2.1.2.2.2.1.1 a ha).2.2.2
  have hlen : jx_sl.getD a 0 = (jm_st.getD a []).length := by
    rcases (show a = 0 ∨ a = 1 ∨ a = 2 by omega) with rfl | rfl | rfl <;> rfl
  rw [hlen] at hE
  exact va_tb C.1 C.2.1 hE S.2.1 hi rfl hd (KK H locs LS (S.st hO.t.t.i))
theorem jy_alen (C : jx_C p s m args c G L xs cc nL own n0) {r : jm_Rf} (hk : jm_kat r.1 < 5 ∨ r.1 = 70) (hd : decode cc pc = .ok (.arraylength, 1)) (KK : jx_J p l e R s m args below meth c Q G L xs md n0 nL (pc + 1) ls (.inl (Int32.ofNat (jm_len μ r)) :: st) μ) : jx_J p l e R s m args below meth c Q G L xs md n0 nL (pc) ls (.inr (.inr (.inl r)) :: st) μ := by
  intro H locs LS S
  have hO := S.2.2.2.2
  have h9 := KK H locs LS (S.st hO.t.i)
  by_cases h70 : r.1 = 70
  · have hr : r = (70, 0, 0) := by
      rcases hO.h with ⟨n, -, hr⟩ | ⟨q, -⟩ | ⟨q, -⟩ | q | q
      · have := jx_k60 hr; omega
      · omega
      · omega
      · omega
      · exact q
    subst hr
    have hX := C.2.2.2.2.2.1.2.2.2.2.2.1
    have e : jm_len μ (70, 0, 0) = L := by
      show (μ.1 70 0 1 0).toNatClampNeg = L
      rw [S.1.2.2.1]
      exact nI_clamp S.1.2.2.2
    rw [e] at h9
    exact va_slen C.1 C.2.1 hX.1 (Nat.lt_of_lt_of_le hX.2 (by rw [C.2.2.2.2.2.2]; omega)) (Nat.not_le.mpr hX.2) S.2.1 hd h9
  have hk : jm_kat r.1 < 5 := by rcases hk with q | q; exact q; exact absurd q h70
  by_cases h61 : r.1 = 61
  · obtain ⟨K0, a, b⟩ := r
    simp only at h61
    subst h61
    have ha : a < 3 := by
      rcases hO.h with ⟨n, -, hr⟩ | ⟨q, -⟩ | ⟨-, q⟩ | q | q
      · exact absurd (show 61 < 60 from jx_k60 hr) (by decide)
      · exact absurd (show 61 = 60 from q) (by decide)
      · exact q
      · exact absurd (show 61 = 62 from q) (by decide)
      · cases q
    have hE := (C.2.2.2.2.2.1.2.2.2.1.1 a ha).2.2.2
    have hlen : jx_sl.getD a 0 = (jm_st.getD a []).length := by
      rcases (show a = 0 ∨ a = 1 ∨ a = 2 by omega) with rfl | rfl | rfl <;> rfl
    rw [hlen] at hE
    exact va_tlen C.1 C.2.1 hE S.2.1 rfl hd h9
  · obtain ⟨n, hn, hr⟩ := jx_arr_in hO.h hk h61
    have h60 := jx_k60 hr
    rw [jx_lenI h60] at h9
    have hws := jx_ws_get (G := G) hn hr
    show W p l e R s m args below meth c H locs _ _ Q (F0 m pc LS (jx_ad G r :: st.map (jx_v G)))
    rw [jx_adr hr]
    obtain ⟨t0, ty, cA, x, hct, ht⟩ := jx_arr_any (G := G) (md := md) (μ := μ) (r := r) hk (by omega)
    rw [hct.1] at hws
    exact va_alen C.1 C.2.1 C.2.2.2.2.2.1.1 S.1.1.2.1 n t0 hws ht rfl hd (by rw [hct.2]; exact h9)
theorem jy_iaload70 (C : jx_C p s m args c G L xs cc nL own n0) {r : jm_Rf} {i : Int32} (h70 : r.1 = 70) (hi : vp_in i (jm_len μ r)) (hd : decode cc pc = .ok (.iaload, 1)) (KK : jx_J p l e R s m args below meth c Q G L xs md n0 nL (pc + 1) ls (.inl (jm_rI μ r (jm_ix i)) :: st) μ) : jx_J p l e R s m args below meth c Q G L xs md n0 nL (pc) ls (.inl i :: .inr (.inr (.inl r)) :: st) μ := by
  intro H locs LS S
  have hO := S.2.2.2.2
  have hr : r = (70, 0, 0) := by
    rcases hO.t.h with ⟨n, -, hr⟩ | ⟨q, -⟩ | ⟨q, -⟩ | q | q
    · have := jx_k60 hr; omega
    · omega
    · omega
    · omega
    · exact q
  subst hr
  have hX := C.2.2.2.2.2.1.2.2.2.2.2.1
  have e : jm_len μ (70, 0, 0) = L := by
    show (μ.1 70 0 1 0).toNatClampNeg = L
    rw [S.1.2.2.1]
    exact nI_clamp S.1.2.2.2
  rw [e] at hi
  have h9 := KK H locs LS (S.st hO.t.t.i)
  have e2 : jm_rI μ (70, 0, 0) (jm_ix i) = xs (jm_ix i) := S.1.2.1 _
  rw [e2] at h9
  exact va_sld C.1 C.2.1 hX.1 (Nat.lt_of_lt_of_le hX.2 (by rw [C.2.2.2.2.2.2]; omega)) (Nat.not_le.mpr hX.2) S.2.1 hi hd h9
theorem jy_aaload (C : jx_C p s m args c G L xs cc nL own n0) {r : jm_Rf} {i : Int32} (hat : jm_kat r.1 = 4) (hi : vp_in i (jm_kln r.1)) (hw : jx_w md μ r (jm_ix i) = true) (hd : decode cc pc = .ok (.aaload, 1)) (KK : jx_J p l e R s m args below meth c Q G L xs md n0 nL (pc + 1) ls (.inr (.inr (.inl (jm_R r.1 r.2.1 r.2.2 (jm_ix i)))) :: st) μ) : jx_J p l e R s m args below meth c Q G L xs md n0 nL (pc) ls (.inl i :: .inr (.inr (.inl r)) :: st) μ := by
  intro H locs LS S
  have hO := S.2.2.2.2
  have h61 : r.1 ≠ 61 := by intro e; rw [e] at hat; exact absurd hat (by decide +kernel)
  obtain ⟨n, hn, hr⟩ := jx_arr_in hO.t.h (by rw [hat]; decide) h61
  have h60 := jx_k60 hr
  have hlt : jm_ix i < jm_kln r.1 := Nat.not_le.mp fun q => hi (Or.inr q)
  obtain ⟨n', hn', hr'⟩ := S.1.1.2.2.1 r (jm_ix i) ⟨n, hn, hr⟩ (Or.inl ⟨hat, hlt⟩) hw
  have hws := jx_ws_get (G := G) hn hr
  have hct : jx_ct G md μ r = .inl (G.2.1 (4 + jm_kel r.1), jm_kln r.1, .inr (.inr (.inr (.inr (fun k => if jx_w md μ r k = true then some (jx_B G + jm_pos (jm_R r.1 r.2.1 r.2.2 k)) else none))))) := by unfold jx_ct; rw [hat]; rfl
  rw [hct] at hws
  have h9 := KK H locs LS (S.st (jx_oks_cons (Or.inl ⟨n', hn', hr'⟩) hO.t.t))
  have h9 : W p l e R s m args below meth c H locs (jm_cnt md μ - n0) (8600 * (jm_cnt md μ - n0)) Q (F0 m (pc + 1) LS (jx_ad G (jm_R r.1 r.2.1 r.2.2 (jm_ix i)) :: st.map (jx_v G))) := h9
  rw [jx_adr hr'] at h9
  show W p l e R s m args below meth c H locs _ _ Q (F0 m pc LS (.int i :: jx_ad G r :: st.map (jx_v G)))
  rw [jx_adr hr]
  have hev : va_rf (if jx_w md μ r (jm_ix i) = true then some (jx_B G + jm_pos (jm_R r.1 r.2.1 r.2.2 (jm_ix i))) else none) = .ref (jx_B G + n') := by rw [if_pos hw, jx_pos hr']; rfl
  have hkel := jx_kel4 r.1 (by omega) hat
  have h10 : ∀ (t0 : Nat) (Cn : String), (jx_tys G)[t0]? = some (G.2.1 (4 + jm_kel r.1), .object Cn) → W p l e R s m args below meth c H locs (jm_cnt md μ - n0) (8600 * (jm_cnt md μ - n0)) Q (F0 m pc LS (.int i :: .ref (jx_B G + n) :: st.map (jx_v G))) := fun t0 Cn ht => va_aldq C.1 C.2.1 C.2.2.2.2.2.1.1 S.1.1.2.1 n t0 hws ht hi hd (by show W p l e R s m args below meth c H locs _ _ Q (F0 m (pc + 1) LS (va_rf (if jx_w md μ r (jm_ix i) = true then some (jx_B G + jm_pos (jm_R r.1 r.2.1 r.2.2 (jm_ix i))) else none) :: st.map (jx_v G))); rw [hev]; exact h9)
  rcases hkel with q | q | q <;> rw [q] at h10
  · exact h10 4 RX7 rfl
  · exact h10 5 RX8 rfl
  · exact h10 6 RX10 rfl
end JX6
