/-! ===== one step: calls ===== -/
theorem jx_lok_all {cls : Nat} {e : Nat × Nat × Nat × Nat} (h : e ∈ jm_ml.getD cls []) : jx_lok cls e = true := by
  match cls, h with
  | 0, h => exact List.all_eq_true.mp jx_lok_0 e h
  | 1, h => exact List.all_eq_true.mp jx_lok_1 e h
  | 2, h => exact List.all_eq_true.mp jx_lok_2 e h
  | 3, h => exact List.all_eq_true.mp jx_lok_3 e h
  | 4, h => exact List.all_eq_true.mp jx_lok_4 e h
  | 5, h => exact List.all_eq_true.mp jx_lok_5 e h
  | 6, h => exact List.all_eq_true.mp jx_lok_6 e h
  | 7, h => exact List.all_eq_true.mp jx_lok_7 e h
  | 8, h => exact List.all_eq_true.mp jx_lok_8 e h
  | 9, h => exact List.all_eq_true.mp jx_lok_9 e h
  | 10, h => exact List.all_eq_true.mp jx_lok_10 e h
  | 11, h => exact List.all_eq_true.mp jx_lok_11 e h
  | 12, h => exact List.all_eq_true.mp jx_lok_12 e h
  | 13, h => exact List.all_eq_true.mp jx_lok_13 e h
  | 14, h => exact List.all_eq_true.mp jx_lok_14 e h
  | 15, h => exact List.all_eq_true.mp jx_lok_15 e h
  | 16, h => exact List.all_eq_true.mp jx_lok_16 e h
  | 17, h => exact List.all_eq_true.mp jx_lok_17 e h
  | 18, h => exact List.all_eq_true.mp jx_lok_18 e h
  | c + 19, h =>
    have hl : jm_ml.length = 19 := by decide +kernel
    rw [show jm_ml.getD (c + 19) [] = [] by simp [List.getD, List.getElem?_eq_none (show jm_ml.length ≤ c + 19 by omega)]] at h
    cases h
theorem jx_mc_all : (List.range 353).all (fun k => match jm_mt[k]? with | some t => Nat.beq (jm_mc k) t.1 | none => false) = true := by decide +kernel
theorem jx_mc {k : Nat} {t : Nat × Nat × Nat × jm_Cd} (h : jm_mt[k]? = some t) (hk : k < 353) : jm_mc k = t.1 := by
  have h1 := List.all_eq_true.mp jx_mc_all k (List.mem_range.mpr hk)
  rw [h] at h1
  exact Nat.eq_of_beq_eq_true h1
/-- a call's link -/
theorem jx_link {cls idx k np rk : Nat} {own : String} (ho : jm_cn[cls]? = some own) (h : jm_find (jm_ml.getD cls []) idx = some (k, np, rk)) :
    (k = 1000 ∧ Cond.methodLink own idx arraycopyName ∈ jx_gw) ∨ (k = 1001 ∧ Cond.methodLink own idx objectInit ∈ jx_gw) ∨ (k = 1002 ∧ Cond.methodLink own idx Lib.Math.max.name ∈ jx_gw) ∨ (k = 1003 ∧ Cond.methodLink own idx Lib.Math.min.name ∈ jx_gw) ∨
    (k ≠ 1000 ∧ k ≠ 1001 ∧ k ≠ 1002 ∧ k ≠ 1003 ∧ ∃ (q : jx_YT) (t : Nat × Nat × Nat × jm_Cd), jx_y[k]? = some q ∧ jm_mt[k]? = some t ∧ (Cond.methodLink own idx q.1 ∈ jx_gw ∨ (jx_nst own idx q.1 = true ∧ q.2.1 = 2)) ∧ np = q.2.2.1 + (match q.2.1 with | 0 => 0 | _ => 1) ∧ rk = jx_rk t.2.1) := by
  have h1 := jx_lok_all (jx_find_in h)
  unfold jx_lok at h1
  rw [jx_cn_get ho] at h1
  dsimp only at h1
  cases hf : jm_find (jx_mh.getD cls []) idx with
  | none => rw [hf] at h1; cases h1
  | some i =>
    rw [hf] at h1
    dsimp only at h1
    split at h1
    · exact Or.inl ⟨rfl, jx_at_in h1⟩
    · exact Or.inr (Or.inl ⟨rfl, jx_at_in h1⟩)
    · exact Or.inr (Or.inr (Or.inl ⟨rfl, jx_at_in h1⟩))
    · exact Or.inr (Or.inr (Or.inr (Or.inl ⟨rfl, jx_at_in h1⟩)))
    · rename_i n0 n1 n2 n3
      refine Or.inr (Or.inr (Or.inr (Or.inr ⟨n0, n1, n2, n3, ?_⟩)))
      cases hq : jx_y[k]? with
      | none => rw [hq] at h1; cases h1
      | some q =>
        cases ht : jm_mt[k]? with
        | none => rw [hq, ht] at h1; cases h1
        | some t =>
          rw [hq, ht] at h1
          simp only [Bool.and_eq_true, Bool.or_eq_true] at h1
          refine ⟨q, t, rfl, rfl, ?_, Nat.eq_of_beq_eq_true h1.1.2, Nat.eq_of_beq_eq_true h1.2⟩
          rcases h1.1.1 with z | z
          · exact Or.inl (jx_at_in z)
          · exact Or.inr ⟨z.1, Nat.eq_of_beq_eq_true z.2⟩
def jx_rv : jm_V → List jm_V
  | .inl x => [.inl x]
  | .inr (.inl y) => [.inr (.inl y)]
  | _ => []
theorem jx_rv_map (G : jx_G) (v : jm_V) : (jx_rv v).map (jx_v G) = (jx_ro v).toList := by
  rcases v with a | a | a | a <;> rfl
theorem jx_isr_of {c : Nat} {as : List jm_V} (h : jm_isr c as = true) : ∃ r as', as = .inr (.inr (.inl r)) :: as' ∧ jm_kcl r.1 = c := by
  match as, h with
  | .inr (.inr (.inl r)) :: as', h => exact ⟨r, as', rfl, Nat.eq_of_beq_eq_true h⟩
section JX11
variable {p : Program} {l : Launch} {e : Env} {R : Room} {s : State} {m : MethodId} {args : Array Value} {below : List Frame} {meth : Method} {c : Code} {Q : State → Prop} {G : jx_G} {L : Nat} {xs : Nat → Int32} {md : Bool} {n0 nL : Nat} {cc : ByteArray} {own : String}
variable {pc : Nat} {ls st : List jm_V} {μ : jm_M}
theorem jx_call_go {H : Heap} {locs : List Loc} {LS : Array Slot} (S : jx_St G L xs md μ nL ls st s H locs LS) (hn0 : n0 ≤ jm_cnt md μ) {v : jm_V} {μ' : jm_M} (hle : jx_le md μ μ') {np : Nat} {a : Array Value}
    (hr : va_Run p l e R s m args below meth c H locs (jm_cnt md μ - n0) (8600 * (jm_cnt md μ - n0)) (jm_cnt md μ' - jm_cnt md μ) (8600 * (jm_cnt md μ' - jm_cnt md μ)) (F0 m pc LS (st.map (jx_v G))) ((st.drop np).map (jx_v G)) (jx_Qc G md v μ' a) (jx_A G))
    (KK : jx_J p l e R s m args below meth c Q G L xs md n0 nL (pc + 3) ls (jx_rv v ++ st.drop np) μ') : W p l e R s m args below meth c H locs (jm_cnt md μ - n0) (8600 * (jm_cnt md μ - n0)) Q (F0 m pc LS (st.map (jx_v G))) := by
  refine jx_after hr S.2.1 (fun H1 locs1 hP1 hS1 => ?_)
  have h1 := hle.1
  have hoks : jx_oks md μ' (jx_rv v ++ st.drop np) := by
    intro w hw
    rcases List.mem_append.mp hw with h | h
    · rcases v with a | a | a | a
      · rw [List.mem_singleton.mp h]; trivial
      · rw [List.mem_singleton.mp h]; trivial
      · cases h
      · cases h
    · exact hle.oks S.2.2.2.2 w (List.mem_of_mem_drop h)
  have h9 := KK H1 locs1 LS ⟨⟨hP1, hle.scr S.1.2⟩, hS1, S.2.2.1, hle.oks S.2.2.2.1, hoks⟩
  rw [List.map_append, jx_rv_map] at h9
  rw [show jm_cnt md μ - n0 + (jm_cnt md μ' - jm_cnt md μ) = jm_cnt md μ' - n0 by omega, show 8600 * (jm_cnt md μ - n0) + 8600 * (jm_cnt md μ' - jm_cnt md μ) = 8600 * (jm_cnt md μ' - n0) by omega]
  exact h9
theorem jx_stk (G : jx_G) (st : List jm_V) (np : Nat) : st.map (jx_v G) = ((st.take np).reverse.map (jx_v G)).reverse ++ (st.drop np).map (jx_v G) := by
  rw [← List.map_reverse, List.reverse_reverse, ← List.map_append, List.take_append_drop]
theorem jx_gwc {w : Cond} (h : w ∈ jx_gw) : GoodIn jx_gw (w :: jx_gw) := fun x hx => by
  rcases List.mem_cons.mp hx with rfl | hx
  · exact jx_gw_good _ h
  · exact jx_gw_good _ hx
theorem jy_callS (C : jx_C p s m args c G L xs cc nL own n0) {cls idx k np rk d : Nat} {v : jm_V} {μ' : jm_M} (hcn : jm_cn[cls]? = some own) (hf : jm_find (jm_ml.getD cls []) idx = some (k, np, rk)) (hk : k ≠ 1000 ∧ k ≠ 1001 ∧ k ≠ 1002 ∧ k ≠ 1003) (hkind : ∀ q, jx_y[k]? = some q → q.2.1 = 0) (hnp : np ≤ st.length) (hcs : jm_cs (st.drop np) ≤ 8) (hfr : d + 1 ≤ R.frames) (hlo : 80 * (d + 1) ≤ R.locals) (hn0 : n0 ≤ jm_cnt md μ) (hle : jx_le md μ μ') (hrc : jm_cnt md μ' - n0 ≤ R.cells) (hrs : 8600 * (jm_cnt md μ' - n0) ≤ R.slots)
    (hM : jx_Mt l md d k (st.take np).reverse μ v μ') (hd : decode cc pc = .ok (.invokestatic idx, 3))
    (KK : jx_J p l e R s m args below meth c Q G L xs md n0 nL (pc + 3) ls (jx_rv v ++ st.drop np) μ') : jx_J p l e R s m args below meth c Q G L xs md n0 nL pc ls st μ := by
  intro H locs LS S
  have hO := S.2.2.2.2
  have h1 := hle.1
  refine jx_Wsz C S hn0 (fun hsz => ?_)
  rcases jx_link hcn hf with z | z | z | z | ⟨-, -, -, -, q, t, hq, ht, hl, hn, -⟩
  · exact absurd z.1 hk.1
  · exact absurd z.1 hk.2.1
  · exact absurd z.1 hk.2.2.1
  · exact absurd z.1 hk.2.2.2
  have hq0 := hkind q hq
  rw [hq0] at hn
  have hn : np = q.2.2.1 := hn
  have hl : Cond.methodLink own idx q.1 ∈ jx_gw := by
    rcases hl with z | z
    · exact z
    · have := z.2; omega
  obtain ⟨⟨b, hb, hck⟩, hini, hst0, -, -, hnm, hpl, hcn2, hps, h60, -⟩ := jx_meth hq ht
  have hMet := hM G L xs q t b hq ht hb S.1.2 (fun w hw => hO w (List.mem_of_mem_take (List.mem_reverse.mp hw)))
  refine jx_call_go S hn0 hle (np := np) (va_runS (Ts := jx_gw) (As := (st.take np).reverse.map (jx_v G)) (n := q.2.2.1) ⟨C.1, C.2.1, C.2.2.1, C.2.2.2.1, C.2.2.2.2.1⟩ hMet ⟨callB_of q.2.2.1 C.2.2.2.2.1 (jx_gwc hb) rfl rfl rfl (C.2.2.2.2.1 _ hini) (C.2.2.2.2.1 _ hl) ⟨hnm.1, hnm.2, hps⟩ ⟨by show d + 1 ≤ _; omega, by show 8 + (t.2.2.1 + 11) + 80 * d ≤ _; omega⟩, C.2.2.2.2.1 _ (hst0 hq0)⟩ ⟨jx_blind _ _ _ _ _ _, jx_pre C S hsz _⟩ rfl (by simp; omega) S.2.2.1.2.1 (jx_stk G st np) ?_ hd ⟨by omega, by omega⟩) KK
  show 2 * 0 + (((st.drop np).map (jx_v G)).map fun v => v.category).sum ≤ 8
  rw [jx_cs C.2.2.2.2.2.1.2.2.2.2.2.2.2.2]
  omega
theorem jy_callV (C : jx_C p s m args c G L xs cc nL own n0) {cls idx k np rk d : Nat} {v : jm_V} {μ' : jm_M} (hcn : jm_cn[cls]? = some own) (hf : jm_find (jm_ml.getD cls []) idx = some (k, np, rk)) (hk : k ≠ 1000 ∧ k ≠ 1001 ∧ k ≠ 1002 ∧ k ≠ 1003) (hkind : ∀ q, jx_y[k]? = some q → q.2.1 = 1) (hnp : np ≤ st.length) (hcs : jm_cs (st.drop np) ≤ 8) (hisr : jm_isr (jm_mc k) (st.take np).reverse = true) (hfr : d + 1 ≤ R.frames) (hlo : 80 * (d + 1) ≤ R.locals) (hn0 : n0 ≤ jm_cnt md μ) (hle : jx_le md μ μ') (hrc : jm_cnt md μ' - n0 ≤ R.cells) (hrs : 8600 * (jm_cnt md μ' - n0) ≤ R.slots)
    (hM : jx_Mt l md d k (st.take np).reverse μ v μ') (hd : decode cc pc = .ok (.invokevirtual idx, 3))
    (KK : jx_J p l e R s m args below meth c Q G L xs md n0 nL (pc + 3) ls (jx_rv v ++ st.drop np) μ') : jx_J p l e R s m args below meth c Q G L xs md n0 nL pc ls st μ := by
  intro H locs LS S
  have hO := S.2.2.2.2
  have h1 := hle.1
  refine jx_Wsz C S hn0 (fun hsz => ?_)
  rcases jx_link hcn hf with z | z | z | z | ⟨-, -, -, -, q, t, hq, ht, hl, hn, -⟩
  · exact absurd z.1 hk.1
  · exact absurd z.1 hk.2.1
  · exact absurd z.1 hk.2.2.1
  · exact absurd z.1 hk.2.2.2
  have hq0 := hkind q hq
  rw [hq0] at hn
  have hn : np = q.2.2.1 + 1 := hn
  have hl : Cond.methodLink own idx q.1 ∈ jx_gw := by
    rcases hl with z | z
    · exact z
    · have := z.2; omega
  obtain ⟨⟨b, hb, hck⟩, hini, -, hst1, -, hnm, hpl, hcn2, hps, h60, -⟩ := jx_meth hq ht
  have hoas : jx_oks md μ (st.take np).reverse := fun w hw => hO w (List.mem_of_mem_take (List.mem_reverse.mp hw))
  have hMet := hM G L xs q t b hq ht hb S.1.2 hoas
  have hpre := jx_pre C S hsz (st.take np).reverse
  have hstk := jx_stk G st np
  have hlen : (st.take np).reverse.length = np := by simp; omega
  obtain ⟨r, as', has, hkr⟩ := jx_isr_of hisr
  rw [has] at hoas hpre hstk hlen
  have h353 : k < 353 := by
    have := (List.getElem?_eq_some_iff.mp hq).1
    rwa [jx_y_len] at this
  rw [jx_mc ht h353] at hkr
  obtain ⟨b', hb', hcell⟩ := jx_recv C S hoas.h hkr hcn2
  have em : ((.inr (.inr (.inl r)) :: as' : List jm_V)).map (jx_v G) = .ref b' :: as'.map (jx_v G) := by
    show jx_ad G r :: _ = _
    rw [hb']
  rw [em] at hstk hpre
  refine jx_call_go S hn0 hle (np := np) (va_runV (Ts := jx_gw) (C := q.1.cls) (b := b') (As := as'.map (jx_v G)) (n := q.2.2.1) ⟨C.1, C.2.1, C.2.2.1, C.2.2.2.1, C.2.2.2.2.1⟩ (by rw [has] at hMet; exact hMet) ⟨callB_of q.2.2.1 C.2.2.2.2.1 (jx_gwc hb) rfl rfl rfl (C.2.2.2.2.1 _ hini) (C.2.2.2.2.1 _ hl) ⟨hnm.1, hnm.2, hps⟩ ⟨by show d + 1 ≤ _; omega, by show 8 + (t.2.2.1 + 11) + 80 * d ≤ _; omega⟩, C.2.2.2.2.1 _ (hst1 hq0).1, C.2.2.2.2.1 _ (hst1 hq0).2⟩ ⟨jx_blind _ _ _ _ _ _, hcell, hpre⟩ rfl (by simp at hlen ⊢; omega) S.2.2.1.2.1 ?_ ?_ hd ⟨by omega, by omega⟩) KK
  · show st.map (jx_v G) = _
    rw [hstk]
    simp
  show 2 * 0 + (((st.drop np).map (jx_v G)).map fun v => v.category).sum ≤ 8
  rw [jx_cs C.2.2.2.2.2.1.2.2.2.2.2.2.2.2]
  omega
theorem jy_callI (C : jx_C p s m args c G L xs cc nL own n0) {cls idx k np rk d : Nat} {v : jm_V} {μ' : jm_M} (hcn : jm_cn[cls]? = some own) (hf : jm_find (jm_ml.getD cls []) idx = some (k, np, rk)) (hk : k ≠ 1000 ∧ k ≠ 1001 ∧ k ≠ 1002 ∧ k ≠ 1003) (hkind : ∀ q, jx_y[k]? = some q → q.2.1 = 2) (hnp : np ≤ st.length) (hcs : jm_cs (st.drop np) ≤ 8) (hisr : jm_isr (jm_mc k) (st.take np).reverse = true) (hfr : d + 1 ≤ R.frames) (hlo : 80 * (d + 1) ≤ R.locals) (hn0 : n0 ≤ jm_cnt md μ) (hle : jx_le md μ μ') (hrc : jm_cnt md μ' - n0 ≤ R.cells) (hrs : 8600 * (jm_cnt md μ' - n0) ≤ R.slots)
    (hM : jx_Mt l md d k (st.take np).reverse μ v μ') (hd : decode cc pc = .ok (.invokespecial idx, 3))
    (KK : jx_J p l e R s m args below meth c Q G L xs md n0 nL (pc + 3) ls (jx_rv v ++ st.drop np) μ') : jx_J p l e R s m args below meth c Q G L xs md n0 nL pc ls st μ := by
  intro H locs LS S
  have hO := S.2.2.2.2
  have h1 := hle.1
  refine jx_Wsz C S hn0 (fun hsz => ?_)
  rcases jx_link hcn hf with z | z | z | z | ⟨-, -, -, -, q, t, hq, ht, hl, hn, -⟩
  · exact absurd z.1 hk.1
  · exact absurd z.1 hk.2.1
  · exact absurd z.1 hk.2.2.1
  · exact absurd z.1 hk.2.2.2
  have hq0 := hkind q hq
  rw [hq0] at hn
  have hn : np = q.2.2.1 + 1 := hn
  obtain ⟨⟨b, hb, hck⟩, hini, -, -, hst2, hnm, hpl, hcn2, hps, h60, -⟩ := jx_meth hq ht
  have hoas : jx_oks md μ (st.take np).reverse := fun w hw => hO w (List.mem_of_mem_take (List.mem_reverse.mp hw))
  have hMet := hM G L xs q t b hq ht hb S.1.2 hoas
  have hpre := jx_pre C S hsz (st.take np).reverse
  have hstk := jx_stk G st np
  have hlen : (st.take np).reverse.length = np := by simp; omega
  obtain ⟨r, as', has, hkr⟩ := jx_isr_of hisr
  rw [has] at hoas hpre hstk hlen hMet
  have h353 : k < 353 := by
    have := (List.getElem?_eq_some_iff.mp hq).1
    rwa [jx_y_len] at this
  rw [jx_mc ht h353] at hkr
  obtain ⟨b', hb', hcell⟩ := jx_recv C S hoas.h hkr hcn2
  have em : ((.inr (.inr (.inl r)) :: as' : List jm_V)).map (jx_v G) = .ref b' :: as'.map (jx_v G) := by
    show jx_ad G r :: _ = _
    rw [hb']
  rw [em] at hstk hpre
  obtain ⟨hin, hnam, hrt⟩ := hst2 hq0
  rw [hrt] at hb hMet
  have hst3 : (F0 m pc LS (st.map (jx_v G))).stack = (as'.map (jx_v G)).reverse ++ .ref b' :: (st.drop np).map (jx_v G) := by
    show st.map (jx_v G) = _
    rw [hstk]
    simp
  have hW8 : 2 * (F0 m pc LS (st.map (jx_v G))).monitorRoom + (((st.drop np).map (jx_v G)).map fun v => v.category).sum ≤ 8 := by
    show 2 * 0 + (((st.drop np).map (jx_v G)).map fun v => v.category).sum ≤ 8
    rw [jx_cs C.2.2.2.2.2.1.2.2.2.2.2.2.2.2]
    omega
  have hlen' : (as'.map (jx_v G)).length = q.2.2.1 := by simp at hlen ⊢; omega
  rcases hl with hl | ⟨hl, -⟩
  · exact jx_call_go S hn0 hle (np := np) (va_runI (Ts := jx_gw) (b := b') (As := as'.map (jx_v G)) (n := q.2.2.1) ⟨C.1, C.2.1, C.2.2.1, C.2.2.2.1, C.2.2.2.2.1⟩ hMet ⟨callB_of q.2.2.1 C.2.2.2.2.1 (jx_gwc hb) rfl rfl rfl (C.2.2.2.2.1 _ hini) (C.2.2.2.2.1 _ hl) ⟨hnm.1, hnm.2, hps⟩ ⟨by show d + 1 ≤ _; omega, by show 8 + (t.2.2.1 + 11) + 80 * d ≤ _; omega⟩, hnam, C.2.2.2.2.1 _ hin⟩ ⟨jx_blind _ _ _ _ _ _, hpre⟩ rfl hlen' S.2.2.1.2.1 hst3 hW8 hd ⟨by omega, by omega⟩) KK
  · have hnw : va_Nw (.methodLinkNest own idx q.1 "WornWords") s := by
      unfold jx_nst at hl
      obtain ⟨w, hw, he⟩ := List.any_eq_true.mp hl
      have he := of_decide_eq_true he
      have := C.2.2.2.2.2.1.2.2.2.2.2.2.1 w hw
      rw [he] at this
      exact this
    exact jx_call_go S hn0 hle (np := np) (va_runIN (Ts := jx_gw) (b := b') (As := as'.map (jx_v G)) (n := q.2.2.1) ⟨C.1, C.2.1, C.2.2.1, C.2.2.2.1, C.2.2.2.2.1⟩ hMet ⟨va_cnB q.2.2.1 C.2.2.2.2.1 (jx_gwc hb) rfl rfl rfl hnw (C.2.2.2.2.1 _ hini) ⟨hnm.1, hnm.2, hps⟩ ⟨by show d + 1 ≤ _; omega, by show 8 + (t.2.2.1 + 11) + 80 * d ≤ _; omega⟩, hnam, C.2.2.2.2.1 _ hin⟩ ⟨jx_blind _ _ _ _ _ _, hpre⟩ rfl hlen' S.2.2.1.2.1 hst3 hW8 hd ⟨by omega, by omega⟩) KK
end JX11
