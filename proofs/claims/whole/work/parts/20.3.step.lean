section JXM
variable {p : Program} {l : Launch} {e : Env} {R : Room} {s : State} {m : MethodId} {args : Array Value} {below : List Frame} {meth : Method} {c : Code} {Q : State → Prop} {G : jx_G} {L : Nat} {xs : Nat → Int32} {md : Bool} {n0 nL : Nat} {cc : ByteArray} {own : String}
variable {pc : Nat} {ls st : List jm_V} {μ : jm_M}
set_option maxHeartbeats 40000000 in
theorem jx_stepJ (C : jx_C p s m args c G L xs cc nL own n0) {K : jm_KT} {CC : jm_CT} {d cls rt len : Nat} {ins : Instr} {v : jm_V} {μ' : jm_M} (hcn : jm_cn[cls]? = some own) (hini : meth.name = "<init>" ∨ jx_nop cls [(0, ins)] = true) (hik : jx_ik cls ins = true) (hd : decode cc pc = .ok (ins, len)) (hlen : jm_il ins = 0 ∨ len = jm_il ins)
    (hn0 : n0 ≤ jm_cnt md μ) (hfr : d + 1 ≤ R.frames) (hlo : 80 * (d + 1) ≤ R.locals) (hrc : jm_cnt md μ' - n0 ≤ R.cells) (hrs : 8600 * (jm_cnt md μ' - n0) ≤ R.slots)
    (h : jm_act K CC (jm_step md cls rt ins pc ls st μ) = some (v, μ'))
    (hKle : ∀ pc ls st μ1, K pc ls st μ1 = some (v, μ') → jx_le md μ1 μ')
    (hK : ∀ pc ls st μ1, n0 ≤ jm_cnt md μ1 → K pc ls st μ1 = some (v, μ') → jx_J p l e R s m args below meth c Q G L xs md n0 nL pc ls st μ1)
    (hCC : ∀ k as μ1 w μ2, CC k as μ1 = some (w, μ2) → jx_le md μ1 μ2 ∧ jx_Mt l md d k as μ1 w μ2 ∧ ∀ t, jm_mt[k]? = some t → t.2.1 = 0 → w = jm_j)
    (hQ : ∀ (pc' : Nat) (H : Heap) (locs : List Loc) (LS : Array Slot), jx_rd cc pc' rt v → va_S (jx_A G) s.heap H locs → jx_H2 G md μ' H → W p l e R s m args below meth c H locs (jm_cnt md μ' - n0) (8600 * (jm_cnt md μ' - n0)) Q (F0 m pc' LS (jx_ro v).toList)) : jx_J p l e R s m args below meth c Q G L xs md n0 nL pc ls st μ := by
  have hsv := C.2.2.2.2.2.1.2.2.2.2.2.2.2.2
  have hKm : ∀ pc ls st μ1, jx_le md μ μ1 → K pc ls st μ1 = some (v, μ') → jx_J p l e R s m args below meth c Q G L xs md n0 nL pc ls st μ1 := fun pc ls st μ1 hle h => hK pc ls st μ1 (Nat.le_trans hn0 hle.1) h
  have hfr1 : 1 ≤ R.frames := by omega
  have hlo1 : 80 ≤ R.locals := by omega
  cases ins with
  | iconst n =>
    have hl := jx_il1 (k := 0) hlen rfl
    subst hl
    exact jy_iconst C hd (hK _ _ _ _ hn0 h)
  | bipush n =>
    have hl := jx_il1 (k := 1) hlen rfl
    subst hl
    exact jy_bipush C hd (hK _ _ _ _ hn0 h)
  | sipush n =>
    have hl := jx_il1 (k := 2) hlen rfl
    subst hl
    exact jy_sipush C hd (hK _ _ _ _ hn0 h)
  | lconst n =>
    have hl := jx_il1 (k := 0) hlen rfl
    subst hl
    exact jy_lconst C hd (hK _ _ _ _ hn0 h)
  | iload_n k =>
    have hl := jx_il1 (k := 0) hlen rfl
    subst hl
    obtain ⟨x, hg, h⟩ := ji_iload_n h
    exact jy_iload_n C hg hd (hK _ _ _ _ hn0 h)
  | iload k =>
    have hl := jx_il1 (k := 1) hlen rfl
    subst hl
    obtain ⟨x, hg, h⟩ := ji_iload h
    exact jy_iload C hg hd (hK _ _ _ _ hn0 h)
  | aload_n k =>
    have hl := jx_il1 (k := 0) hlen rfl
    subst hl
    obtain ⟨x, hg, h⟩ := ji_aload_n h
    exact jy_aload_n C hg hd (hK _ _ _ _ hn0 h)
  | aload k =>
    have hl := jx_il1 (k := 1) hlen rfl
    subst hl
    obtain ⟨x, hg, h⟩ := ji_aload h
    exact jy_aload C hg hd (hK _ _ _ _ hn0 h)
  | lload_n k =>
    have hl := jx_il1 (k := 0) hlen rfl
    subst hl
    obtain ⟨x, hg, hg2, h⟩ := ji_lload_n h
    exact jy_lload_n C hg hg2 hd (hK _ _ _ _ hn0 h)
  | lload k =>
    have hl := jx_il1 (k := 1) hlen rfl
    subst hl
    obtain ⟨x, hg, hg2, h⟩ := ji_lload h
    exact jy_lload C hg hg2 hd (hK _ _ _ _ hn0 h)
  | istore_n k =>
    have hl := jx_il1 (k := 0) hlen rfl
    subst hl
    obtain ⟨x, st', rfl, hb, h⟩ := ji_istore_n h
    exact jy_istore_n C hb hd (hK _ _ _ _ hn0 h)
  | istore k =>
    have hl := jx_il1 (k := 1) hlen rfl
    subst hl
    obtain ⟨x, st', rfl, hb, h⟩ := ji_istore h
    exact jy_istore C hb hd (hK _ _ _ _ hn0 h)
  | lstore_n k =>
    have hl := jx_il1 (k := 0) hlen rfl
    subst hl
    obtain ⟨x, st', rfl, hb, h⟩ := ji_lstore_n h
    exact jy_lstore_n C hb hd (hK _ _ _ _ hn0 h)
  | lstore k =>
    have hl := jx_il1 (k := 1) hlen rfl
    subst hl
    obtain ⟨x, st', rfl, hb, h⟩ := ji_lstore h
    exact jy_lstore C hb hd (hK _ _ _ _ hn0 h)
  | astore_n k =>
    have hl := jx_il1 (k := 0) hlen rfl
    subst hl
    obtain ⟨x, st', rfl, hb, h⟩ := ji_astore_n h
    exact jy_astore_n C hb hd (hK _ _ _ _ hn0 h)
  | astore k =>
    have hl := jx_il1 (k := 1) hlen rfl
    subst hl
    obtain ⟨x, st', rfl, hb, h⟩ := ji_astore h
    exact jy_astore C hb hd (hK _ _ _ _ hn0 h)
  | iinc k n =>
    have hl := jx_il1 (k := 2) hlen rfl
    subst hl
    obtain ⟨x, hg, hb, h⟩ := ji_iinc h
    exact jy_iinc C hg hb hd (hK _ _ _ _ hn0 h)
  | iadd =>
    have hl := jx_il1 (k := 0) hlen rfl
    subst hl
    obtain ⟨y, x, st', rfl, h⟩ := ji_iadd h
    exact jy_iadd C hd (hK _ _ _ _ hn0 h)
  | isub =>
    have hl := jx_il1 (k := 0) hlen rfl
    subst hl
    obtain ⟨y, x, st', rfl, h⟩ := ji_isub h
    exact jy_isub C hd (hK _ _ _ _ hn0 h)
  | imul =>
    have hl := jx_il1 (k := 0) hlen rfl
    subst hl
    obtain ⟨y, x, st', rfl, h⟩ := ji_imul h
    exact jy_imul C hd (hK _ _ _ _ hn0 h)
  | iand =>
    have hl := jx_il1 (k := 0) hlen rfl
    subst hl
    obtain ⟨y, x, st', rfl, h⟩ := ji_iand h
    exact jy_iand C hd (hK _ _ _ _ hn0 h)
  | ior =>
    have hl := jx_il1 (k := 0) hlen rfl
    subst hl
    obtain ⟨y, x, st', rfl, h⟩ := ji_ior h
    exact jy_ior C hd (hK _ _ _ _ hn0 h)
  | ixor =>
    have hl := jx_il1 (k := 0) hlen rfl
    subst hl
    obtain ⟨y, x, st', rfl, h⟩ := ji_ixor h
    exact jy_ixor C hd (hK _ _ _ _ hn0 h)
  | ishl =>
    have hl := jx_il1 (k := 0) hlen rfl
    subst hl
    obtain ⟨y, x, st', rfl, h⟩ := ji_ishl h
    exact jy_ishl C hd (hK _ _ _ _ hn0 h)
  | ishr =>
    have hl := jx_il1 (k := 0) hlen rfl
    subst hl
    obtain ⟨y, x, st', rfl, h⟩ := ji_ishr h
    exact jy_ishr C hd (hK _ _ _ _ hn0 h)
  | iushr =>
    have hl := jx_il1 (k := 0) hlen rfl
    subst hl
    obtain ⟨y, x, st', rfl, h⟩ := ji_iushr h
    exact jy_iushr C hd (hK _ _ _ _ hn0 h)
  | ladd =>
    have hl := jx_il1 (k := 0) hlen rfl
    subst hl
    obtain ⟨y, x, st', rfl, h⟩ := ji_ladd h
    exact jy_ladd C hd (hK _ _ _ _ hn0 h)
  | lsub =>
    have hl := jx_il1 (k := 0) hlen rfl
    subst hl
    obtain ⟨y, x, st', rfl, h⟩ := ji_lsub h
    exact jy_lsub C hd (hK _ _ _ _ hn0 h)
  | lmul =>
    have hl := jx_il1 (k := 0) hlen rfl
    subst hl
    obtain ⟨y, x, st', rfl, h⟩ := ji_lmul h
    exact jy_lmul C hd (hK _ _ _ _ hn0 h)
  | land =>
    have hl := jx_il1 (k := 0) hlen rfl
    subst hl
    obtain ⟨y, x, st', rfl, h⟩ := ji_land h
    exact jy_land C hd (hK _ _ _ _ hn0 h)
  | lor =>
    have hl := jx_il1 (k := 0) hlen rfl
    subst hl
    obtain ⟨y, x, st', rfl, h⟩ := ji_lor h
    exact jy_lor C hd (hK _ _ _ _ hn0 h)
  | lshl =>
    have hl := jx_il1 (k := 0) hlen rfl
    subst hl
    obtain ⟨y, x, st', rfl, h⟩ := ji_lshl h
    exact jy_lshl C hd (hK _ _ _ _ hn0 h)
  | lshr =>
    have hl := jx_il1 (k := 0) hlen rfl
    subst hl
    obtain ⟨y, x, st', rfl, h⟩ := ji_lshr h
    exact jy_lshr C hd (hK _ _ _ _ hn0 h)
  | lushr =>
    have hl := jx_il1 (k := 0) hlen rfl
    subst hl
    obtain ⟨y, x, st', rfl, h⟩ := ji_lushr h
    exact jy_lushr C hd (hK _ _ _ _ hn0 h)
  | lcmp =>
    have hl := jx_il1 (k := 0) hlen rfl
    subst hl
    obtain ⟨y, x, st', rfl, h⟩ := ji_lcmp h
    exact jy_lcmp C hd (hK _ _ _ _ hn0 h)
  | idiv =>
    have hl := jx_il1 (k := 0) hlen rfl
    subst hl
    obtain ⟨y, x, st', rfl, hb, h⟩ := ji_idiv h
    exact jy_idiv C hb hd (hK _ _ _ _ hn0 h)
  | irem =>
    have hl := jx_il1 (k := 0) hlen rfl
    subst hl
    obtain ⟨y, x, st', rfl, hb, h⟩ := ji_irem h
    exact jy_irem C hb hd (hK _ _ _ _ hn0 h)
  | ldiv =>
    have hl := jx_il1 (k := 0) hlen rfl
    subst hl
    obtain ⟨y, x, st', rfl, hb, h⟩ := ji_ldiv h
    exact jy_ldiv C hb hd (hK _ _ _ _ hn0 h)
  | lrem =>
    have hl := jx_il1 (k := 0) hlen rfl
    subst hl
    obtain ⟨y, x, st', rfl, hb, h⟩ := ji_lrem h
    exact jy_lrem C hb hd (hK _ _ _ _ hn0 h)
  | i2l =>
    have hl := jx_il1 (k := 0) hlen rfl
    subst hl
    obtain ⟨x, st', rfl, h⟩ := ji_i2l h
    exact jy_i2l C hd (hK _ _ _ _ hn0 h)
  | l2i =>
    have hl := jx_il1 (k := 0) hlen rfl
    subst hl
    obtain ⟨x, st', rfl, h⟩ := ji_l2i h
    exact jy_l2i C hd (hK _ _ _ _ hn0 h)
  | i2b =>
    have hl := jx_il1 (k := 0) hlen rfl
    subst hl
    obtain ⟨x, st', rfl, h⟩ := ji_i2b h
    exact jy_i2b C hd (hK _ _ _ _ hn0 h)
  | i2s =>
    have hl := jx_il1 (k := 0) hlen rfl
    subst hl
    obtain ⟨x, st', rfl, h⟩ := ji_i2s h
    exact jy_i2s C hd (hK _ _ _ _ hn0 h)
  | i2c =>
    have hl := jx_il1 (k := 0) hlen rfl
    subst hl
    obtain ⟨x, st', rfl, h⟩ := ji_i2c h
    exact jy_i2c C hd (hK _ _ _ _ hn0 h)
  | dup =>
    have hl := jx_il1 (k := 0) hlen rfl
    subst hl
    rcases ji_dup h with ⟨x, st', rfl, h⟩ | ⟨x, st', rfl, h⟩
    · exact jy_dup C rfl hd (hK _ _ _ _ hn0 h)
    · exact jy_dup C (jx_ad_cat hsv _) hd (hK _ _ _ _ hn0 h)
  | pop =>
    have hl := jx_il1 (k := 0) hlen rfl
    subst hl
    rcases ji_pop h with ⟨x, st', rfl, h⟩ | ⟨x, st', rfl, h⟩
    · exact jy_pop C rfl hd (hK _ _ _ _ hn0 h)
    · exact jy_pop C (jx_ad_cat hsv _) hd (hK _ _ _ _ hn0 h)
  | dup2 =>
    have hl := jx_il1 (k := 0) hlen rfl
    subst hl
    rcases ji_dup2 h with ⟨x, st', rfl, h⟩ | ⟨x, y, st', rfl, h⟩
    · exact jy_dup2l C hd (hK _ _ _ _ hn0 h)
    · exact jy_dup2 C rfl (jx_ad_cat hsv _) hd (hK _ _ _ _ hn0 h)
  | ifCond cn off =>
    have hl := jx_il1 (k := 2) hlen rfl
    subst hl
    obtain ⟨x, st', rfl, hb, h⟩ := ji_ifCond h
    exact jy_ifCond C hd hb (fun hb => hK _ _ _ _ hn0 (jx_bc1 h hb)) (fun hb => hK _ _ _ _ hn0 (jx_bc2 h hb))
  | if_icmp cn off =>
    have hl := jx_il1 (k := 2) hlen rfl
    subst hl
    obtain ⟨y, x, st', rfl, hb, h⟩ := ji_if_icmp h
    exact jy_if_icmp C hd hb (fun hb => hK _ _ _ _ hn0 (jx_bc1 h hb)) (fun hb => hK _ _ _ _ hn0 (jx_bc2 h hb))
  | goto off =>
    have hl := jx_il1 (k := 2) hlen rfl
    subst hl
    obtain ⟨hb, h⟩ := jx_bif h
    exact jy_goto C (of_decide_eq_true hb) hd (hK _ _ _ _ hn0 h)
  | tableswitch dflt lo hi offs =>
    obtain ⟨x, st', rfl, g1, g2, g3, g4, g5, h⟩ := ji_tableswitch h
    exact jy_tableswitch C hd g1 g2 g3 g4 g5 h (fun pc' h' => hK _ _ _ _ hn0 h')
  | getfield idx =>
    have hl := jx_il1 (k := 2) hlen rfl
    subst hl
    obtain ⟨r, st', c', k, ty, rfl, hf, hb, h⟩ := ji_getfield h
    exact jy_getfield C hcn hf hb hd h (fun st' h' => hK _ _ _ _ hn0 h')
  | putfield idx =>
    have hl := jx_il1 (k := 2) hlen rfl
    subst hl
    obtain ⟨w, r, st', c', k, ty, rfl, hf, hkc, h60, h3, h⟩ := ji_putfield h
    unfold jm_putf at h
    split at h
    · exact jy_putI C hcn hf hkc h60 hd (Or.inl rfl) (hKm _ _ _ _ (jx_le_uI (by omega) (by omega)) h)
    · obtain ⟨hg, h⟩ := jx_gd h
      exact jy_putI C hcn hf hkc h60 hd (Or.inr ⟨rfl, of_decide_eq_true hg⟩) (hKm _ _ _ _ (jx_le_uI (by omega) (by omega)) h)
    · exact jy_putL C hcn hf hkc h60 hd (hKm _ _ _ _ jx_le_uL h)
    · obtain ⟨hg, h⟩ := jx_gd h
      simp only [Bool.and_eq_true] at hg
      have hin : meth.name = "<init>" := by
        rcases hini with z | z
        · exact z
        · rw [jx_nop_put hf] at z; cases z
      have hcc : c' = cls := by
        simp only [Bool.or_eq_true] at h3
        rcases h3 with z | z
        · cases z
        · exact Nat.eq_of_beq_eq_true z
      exact jy_putR C hcn hf hkc h60 hd hg.1.1 (of_decide_eq_true hg.2) hin hcc (Nat.blt_eq.mp hg.1.2) (hKm _ _ _ _ (jx_le_uI (by omega) (by omega)) h)
    · cases h
  | getstatic idx =>
    have hl := jx_il1 (k := 2) hlen rfl
    subst hl
    delta jm_step at h
    dsimp only at h
    cases hf : jm_find (jm_gs.getD cls []) idx with
    | none => rw [hf] at h; cases h
    | some w =>
      rw [hf] at h
      cases w with
      | zero => exact jy_getstatic C hcn hf hd (fun v hv => by subst hv; exact hK _ _ _ _ hn0 h)
      | succ w => exact jy_getstatic C hcn hf hd (fun v hv => by subst hv; exact hK _ _ _ _ hn0 h)
  | iaload =>
    have hl := jx_il1 (k := 0) hlen rfl
    subst hl
    obtain ⟨i, r, st', rfl⟩ := ji_iaload h
    exact jz_iaload C hd h hKm
  | baload =>
    have hl := jx_il1 (k := 0) hlen rfl
    subst hl
    obtain ⟨i, r, st', rfl⟩ := ji_baload h
    exact jz_baload C hd h hKm
  | laload =>
    have hl := jx_il1 (k := 0) hlen rfl
    subst hl
    obtain ⟨i, r, st', rfl⟩ := ji_laload h
    exact jz_laload C hd h hKm
  | aaload =>
    have hl := jx_il1 (k := 0) hlen rfl
    subst hl
    obtain ⟨i, r, st', rfl⟩ := ji_aaload h
    exact jz_aaload C hd h hKm
  | iastore =>
    have hl := jx_il1 (k := 0) hlen rfl
    subst hl
    obtain ⟨x, i, r, st', rfl⟩ := ji_iastore h
    exact jz_iastore C hd h hKm
  | bastore =>
    have hl := jx_il1 (k := 0) hlen rfl
    subst hl
    obtain ⟨x, i, r, st', rfl⟩ := ji_bastore h
    exact jz_bastore C hd h hKm
  | lastore =>
    have hl := jx_il1 (k := 0) hlen rfl
    subst hl
    obtain ⟨x, i, r, st', rfl⟩ := ji_lastore h
    exact jz_lastore C hd h hKm
  | aastore =>
    have hl := jx_il1 (k := 0) hlen rfl
    subst hl
    obtain ⟨q, i, r, st', rfl⟩ := ji_aastore h
    exact jz_aastore C hd h hKm
  | arraylength =>
    have hl := jx_il1 (k := 0) hlen rfl
    subst hl
    obtain ⟨r, st', rfl⟩ := ji_arraylength h
    exact jz_arraylength C hd h hKm
  | ldc idx =>
    have hl := jx_il1 (k := 1) hlen rfl
    subst hl
    exact jz_ldc C hcn hd h hKm
  | ldc_w idx =>
    have hl := jx_il1 (k := 2) hlen rfl
    subst hl
    exact jz_ldc_w C hcn hd h hKm
  | ldc2_w idx =>
    have hl := jx_il1 (k := 2) hlen rfl
    subst hl
    exact jz_ldc2_w C hcn hd h hKm
  | new idx =>
    have hl := jx_il1 (k := 2) hlen rfl
    subst hl
    exact jz_new C hcn hn0 hrc hrs hKle hd h hKm
  | newarray t =>
    have hl := jx_il1 (k := 1) hlen rfl
    subst hl
    obtain ⟨n, st', rfl⟩ := ji_newarray h
    exact jz_newarray C hn0 hrc hrs hKle hd h hKm
  | anewarray idx =>
    have hl := jx_il1 (k := 2) hlen rfl
    subst hl
    obtain ⟨n, st', rfl⟩ := ji_anewarray h
    exact jz_anewarray C hcn hn0 hrc hrs hKle hd h hKm
  | invokevirtual idx =>
    have hl := jx_il1 (k := 2) hlen rfl
    subst hl
    exact jz_invokevirtual C hcn hfr hlo hn0 hrc hrs hKle hCC hik hd h hKm
  | invokestatic idx =>
    have hl := jx_il1 (k := 2) hlen rfl
    subst hl
    exact jz_invokestatic C hcn hfr hlo hn0 hrc hrs hKle hCC hik hd h hKm
  | invokespecial idx =>
    have hl := jx_il1 (k := 2) hlen rfl
    subst hl
    exact jz_invokespecial C hcn hfr hlo hn0 hrc hrs hKle hCC hik hd h hKm
  | ireturn =>
    have hl := jx_il1 (k := 0) hlen rfl
    subst hl
    obtain ⟨x, rfl, h1, h2, he⟩ := ji_ireturn h
    cases he
    intro H locs LS S
    exact hQ pc H locs LS (Or.inr (Or.inr ⟨h1, ⟨x, rfl, h2⟩, hd⟩)) S.2.1 S.1.1
  | lreturn =>
    have hl := jx_il1 (k := 0) hlen rfl
    subst hl
    obtain ⟨x, rfl, h1, he⟩ := ji_lreturn h
    cases he
    intro H locs LS S
    exact hQ pc H locs LS (Or.inr (Or.inl ⟨h1, ⟨x, rfl⟩, hd⟩)) S.2.1 S.1.1
  | return_ =>
    have hl := jx_il1 (k := 0) hlen rfl
    subst hl
    obtain ⟨rfl, h1, he⟩ := ji_return h
    cases he
    intro H locs LS S
    exact hQ pc H locs LS (Or.inl ⟨h1, rfl, hd⟩) S.2.1 S.1.1
  | _ => cases h
end JXM
