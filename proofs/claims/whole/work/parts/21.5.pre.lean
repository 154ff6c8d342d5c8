/-! ===== the law's first instructions: both objects are made ===== -/
theorem jx_ck_split {cc : ByteArray} {l : jm_Cd} {a n : Nat} (h1 : jx_ck cc ((l.drop a).take n) = true) (h2 : jx_ck cc (l.drop (a + n)) = true) : jx_ck cc (l.drop a) = true := by
  unfold jx_ck at h1 h2 ⊢
  rw [← List.take_append_drop n (l.drop a), List.all_append, List.drop_drop, h1, h2]
  rfl
theorem jx_ckl_end : jx_ck code (jc_L_law.drop 1125) = true := by decide +kernel
set_option maxRecDepth 20000 in
theorem jx_ck_law : jx_ck code jc_L_law = true := (jx_ck_split (a := 0) (n := 25) jx_ckl_0 (jx_ck_split (a := 25) (n := 25) jx_ckl_25 (jx_ck_split (a := 50) (n := 25) jx_ckl_50 (jx_ck_split (a := 75) (n := 25) jx_ckl_75 (jx_ck_split (a := 100) (n := 25) jx_ckl_100 (jx_ck_split (a := 125) (n := 25) jx_ckl_125 (jx_ck_split (a := 150) (n := 25) jx_ckl_150 (jx_ck_split (a := 175) (n := 25) jx_ckl_175 (jx_ck_split (a := 200) (n := 25) jx_ckl_200 (jx_ck_split (a := 225) (n := 25) jx_ckl_225 (jx_ck_split (a := 250) (n := 25) jx_ckl_250 (jx_ck_split (a := 275) (n := 25) jx_ckl_275 (jx_ck_split (a := 300) (n := 25) jx_ckl_300 (jx_ck_split (a := 325) (n := 25) jx_ckl_325 (jx_ck_split (a := 350) (n := 25) jx_ckl_350 (jx_ck_split (a := 375) (n := 25) jx_ckl_375 (jx_ck_split (a := 400) (n := 25) jx_ckl_400 (jx_ck_split (a := 425) (n := 25) jx_ckl_425 (jx_ck_split (a := 450) (n := 25) jx_ckl_450 (jx_ck_split (a := 475) (n := 25) jx_ckl_475 (jx_ck_split (a := 500) (n := 25) jx_ckl_500 (jx_ck_split (a := 525) (n := 25) jx_ckl_525 (jx_ck_split (a := 550) (n := 25) jx_ckl_550 (jx_ck_split (a := 575) (n := 25) jx_ckl_575 (jx_ck_split (a := 600) (n := 25) jx_ckl_600 (jx_ck_split (a := 625) (n := 25) jx_ckl_625 (jx_ck_split (a := 650) (n := 25) jx_ckl_650 (jx_ck_split (a := 675) (n := 25) jx_ckl_675 (jx_ck_split (a := 700) (n := 25) jx_ckl_700 (jx_ck_split (a := 725) (n := 25) jx_ckl_725 (jx_ck_split (a := 750) (n := 25) jx_ckl_750 (jx_ck_split (a := 775) (n := 25) jx_ckl_775 (jx_ck_split (a := 800) (n := 25) jx_ckl_800 (jx_ck_split (a := 825) (n := 25) jx_ckl_825 (jx_ck_split (a := 850) (n := 25) jx_ckl_850 (jx_ck_split (a := 875) (n := 25) jx_ckl_875 (jx_ck_split (a := 900) (n := 25) jx_ckl_900 (jx_ck_split (a := 925) (n := 25) jx_ckl_925 (jx_ck_split (a := 950) (n := 25) jx_ckl_950 (jx_ck_split (a := 975) (n := 25) jx_ckl_975 (jx_ck_split (a := 1000) (n := 25) jx_ckl_1000 (jx_ck_split (a := 1025) (n := 25) jx_ckl_1025 (jx_ck_split (a := 1050) (n := 25) jx_ckl_1050 (jx_ck_split (a := 1075) (n := 25) jx_ckl_1075 (jx_ck_split (a := 1100) (n := 25) jx_ckl_1100 jx_ckl_end)))))))))))))))))))))))))))))))))))))))))))))
theorem jx_dl {pc k : Nat} {ins : Instr} (h : jm_look jc_L_law pc = some (pc, ins)) (hk : jm_il ins = k + 1) : decode code pc = .ok (ins, k + 1) := by
  obtain ⟨-, n, hd, hn⟩ := jx_dec jx_ck_law h
  rw [jx_il1 hn hk] at hd
  exact hd
theorem jm_ov_nw (g : Nat → Nat → Nat → Int32) (μ : jm_M) : (jm_uI (jm_ov g μ).1 500 0 0 0 ((jm_ov g μ).1 500 0 0 0 + 1), (jm_ov g μ).2) = jm_ov g (jm_nw μ) := by
  rw [jm_ov_uI (by decide), jm_ov_1 (by decide)]
  rfl
theorem jx_kln48 : ∀ K, K < 60 → jm_kat K = 4 → jm_kln K ≤ 48 := by decide +kernel
theorem jx_N48 : ∀ c, c < 12 → jx_N c ≤ 48 := by decide +kernel
theorem jx_ty_out {c k : Nat} (h : jx_ty c k = 3) : k < jx_N c := by
  unfold jx_ty at h
  unfold jx_N
  generalize jx_ft.getD c [] = l at h ⊢
  rcases Nat.lt_or_ge k l.length with z | z
  · exact z
  · simp [List.getD, List.getElem?_eq_none z] at h
theorem jx_full_D (g : Nat → Nat → Nat → Int32) : jx_full (jm_ov g jm_mD) := by
  refine ⟨?_, fun r hr k hs => ?_⟩
  · show ((jm_ov g jm_mD).1 500 0 0 0).toNatClampNeg = 179
    rw [jm_ov_1 (by decide), jm_Q_cnt jm_mD_Q]
    decide
  · have h60 := jx_nm_kd r hr
    have hk : k < 48 ∧ jx_rsb r k = true := by
      rcases hs with ⟨h1, h2⟩ | ⟨h1, h2⟩
      · refine ⟨Nat.lt_of_lt_of_le h2 (jx_kln48 r.1 h60 h1), ?_⟩
        unfold jx_rsb
        rw [h1, Nat.blt_eq.mpr h2]
        rfl
      · have h3 := jx_ty_out h2
        have h12 : jm_kcl r.1 < 12 ∨ jm_kcl r.1 = 99 := by
          have key : ∀ K, K < 60 → (jm_kcl K < 12 ∨ jm_kcl K = 99) := by decide +kernel
          exact key r.1 h60
        rcases h12 with h12 | h12
        · refine ⟨Nat.lt_of_lt_of_le h3 (jx_N48 _ h12), ?_⟩
          unfold jx_rsb
          rw [h1, h2]
          simp
        · rw [h12] at h3
          exact absurd h3 (by rw [show jx_N 99 = 0 by decide +kernel]; omega)
    unfold jx_w
    rw [cond_true, jm_ov_1 (by omega), jm_Q_f jm_mD_Q r hr k hk.1 hk.2]
    decide
/-- the law's locals at its loop -/
abbrev jl_ls : List jm_V := [.inr (.inr (.inl (70, 0, 0))), .inr (.inr (.inl (0, 0, 0))), .inr (.inr (.inl (40, 0, 0))), jm_j]
theorem jx_prefix {p : Program} {l : Launch} {e : Env} {R : Room} {s : State} {m : MethodId} {args : Array Value} {below : List Frame} {meth : Method} {c : Code} {Q : State → Prop} {G : jx_G} {L : Nat} {xs : Nat → Int32} (g : Nat → Nat → Nat → Int32) (C : jx_C p s m args c G L xs code 4 R_law 0) (hfr : 12 ≤ R.frames) (hlo : 1000 ≤ R.locals) (hrc : 179 ≤ R.cells) (hrs : 1539400 ≤ R.slots)
    (K : jx_J p l e R s m args below meth c Q G L xs false 0 4 16 jl_ls [] (jm_ov g jm_mD)) : jx_J p l e R s m args below meth c Q G L xs true 0 4 0 [.inr (.inr (.inl (70, 0, 0))), jm_j, jm_j, jm_j] [] (jm_ov g jm_mz) := by
  have hsv := C.2.2.2.2.2.1.2.2.2.2.2.2.2.2
  have hcn : jm_cn[13]? = some R_law := rfl
  have hK := jx_switch (jx_full_D g) K
  obtain ⟨v1, h1⟩ := jm_r1_eq
  obtain ⟨v2, h2⟩ := jm_r2_eq
  have eB : jm_mB.1 500 0 0 0 = 159 := of_decide_eq_true jm_mB_P
  have h1 := jm_rung_ov g 3000 h1
  have h2 := jm_rung_ov g 3000 h2
  have l1 := jx_run_le 3000 h1
  have l2 := jx_run_le 3000 h2
  have z1 : v1 = jm_j := l1.2 rfl
  have z2 : v2 = jm_j := l2.2 rfl
  subst z1; subst z2
  have c0 : jm_cnt true (jm_ov g jm_mz) = 0 := rfl
  have c1 : jm_cnt true (jm_ov g (jm_nw jm_mz)) = 1 := rfl
  have c2 : jm_cnt true (jm_ov g jm_mB) = 159 := by
    show ((jm_ov g jm_mB).1 500 0 0 0).toNatClampNeg = 159
    rw [jm_ov_1 (by decide), eB]
    decide
  have p2 : 0 ≤ (jm_ov g jm_mB).1 500 0 0 0 := by
    rw [jm_ov_1 (by decide), eB]
    decide
  have c3 : jm_cnt true (jm_ov g (jm_nw jm_mB)) = 160 := by
    rw [← jm_ov_nw, jx_cnt_up p2 (by show jm_cnt true (jm_ov g jm_mB) < 179; rw [c2]; decide), c2]
  have c4 : jm_cnt true (jm_ov g jm_mD) = 179 := (jx_full_D g).1
  have n2 : jm_nm[((jm_ov g jm_mB).1 500 0 0 0).toNatClampNeg]? = some (40, 0, 0) := by
    show jm_nm[jm_cnt true (jm_ov g jm_mB)]? = _
    rw [c2]
    decide +kernel
  refine jy_new C (cls := 13) (idx := 7) (c' := 10) (r := (0, 0, 0)) hcn rfl rfl rfl (show (0 : Int32) ≤ 0 by decide) (Nat.zero_le _) (by rw [c0]; omega) (by rw [c0]; omega) (jx_dl rfl rfl) ?_
  rw [jm_ov_nw]
  refine jy_dup C (jx_ad_cat hsv _) (jx_dl rfl rfl) ?_
  refine jy_callI C (cls := 13) (idx := 9) (k := jn_X11_init) (np := 1) (rk := 0) (d := 10) (v := jm_j) (μ' := jm_ov g jm_mB) hcn (by decide +kernel) (by decide) (by decide +kernel) (by decide) (by decide) (by decide +kernel) (by omega) (by omega) (Nat.zero_le _) l1.1 (by rw [c2]; omega) (by rw [c2]; omega) (jx_Mt_of l (n := 3000) (d := 9) (k := jn_X11_init) (as := [.inr (.inr (.inl (0, 0, 0)))]) rfl rfl h1) (jx_dl rfl rfl) ?_
  refine jy_astore_n C (k := 1) (by decide) (jx_dl rfl rfl) ?_
  refine jy_new C (cls := 13) (idx := 10) (c' := 11) (r := (40, 0, 0)) hcn (by decide +kernel) n2 (by decide +kernel) p2 (Nat.zero_le _) (by rw [c2]; omega) (by rw [c2]; omega) (jx_dl rfl rfl) ?_
  rw [jm_ov_nw]
  refine jy_dup C (jx_ad_cat hsv _) (jx_dl rfl rfl) ?_
  refine jy_callI C (cls := 13) (idx := 12) (k := jn_X12_init) (np := 1) (rk := 0) (d := 10) (v := jm_j) (μ' := jm_ov g jm_mD) hcn (by decide +kernel) (by decide) (by decide +kernel) (by decide) (by decide) (by decide +kernel) (by omega) (by omega) (Nat.zero_le _) l2.1 (by rw [c4]; omega) (by rw [c4]; omega) (jx_Mt_of l (n := 3000) (d := 9) (k := jn_X12_init) (as := [.inr (.inr (.inl (40, 0, 0)))]) rfl rfl h2) (jx_dl rfl rfl) ?_
  exact jy_astore_n C (k := 2) (by decide) (jx_dl rfl rfl) hK
