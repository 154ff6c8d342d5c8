/-! ===== the law's loop: each case ===== -/
theorem jl_c0 {L i : Nat} {xs : Nat → Int32} (hL : L ≤ 3072) (hi : i + 6 ≤ L) {s : St} {m : jm_M} (h : Inv L xs s m) : ∃ s' m', jm_ev false 100 13 2 jc_L_law 232 [v70, vX, vM, .inl (nI i)] [] m = jm_ev false 100 13 2 jc_L_law 1596 [v70, vX, vM, .inl (nI i)] [] m' ∧ Inv L xs s' m' := by
  obtain ⟨x, s', m1, m2, e1, e2, hI, h1⟩ := jl_i (c_status) (show jm_mt[jn_X11_status]? = some (10, 1, 1, jc_X11_status) from rfl) (by decide) rfl h
  refine ⟨s', m2, ?_, hI⟩
  rw [l_L_law_232, e1]
  simp only [e2, jt_bi, jt_bl, jl_eq, jg_dT, cond_true]
theorem jl_c1 {L i : Nat} {xs : Nat → Int32} (hL : L ≤ 3072) (hi : i + 6 ≤ L) {s : St} {m : jm_M} (h : Inv L xs s m) : ∃ s' m', jm_ev false 100 13 2 jc_L_law 245 [v70, vX, vM, .inl (nI i)] [] m = jm_ev false 100 13 2 jc_L_law 1596 [v70, vX, vM, .inl (nI i)] [] m' ∧ Inv L xs s' m' := by
  obtain ⟨x, s', m1, m2, e1, e2, hI, h1⟩ := jl_l (c_top) (show jm_mt[jn_X11_top]? = some (10, 5, 1, jc_X11_top) from rfl) rfl rfl h
  refine ⟨s', m2, ?_, hI⟩
  rw [l_L_law_245, e1]
  simp only [e2, jt_bi, jt_bl, jl_cmp, cond_true]
theorem jl_c2 {L i : Nat} {xs : Nat → Int32} (hL : L ≤ 3072) (hi : i + 6 ≤ L) {s : St} {m : jm_M} (h : Inv L xs s m) : ∃ s' m', jm_ev false 100 13 2 jc_L_law 259 [v70, vX, vM, .inl (nI i)] [] m = jm_ev false 100 13 2 jc_L_law 1596 [v70, vX, vM, .inl (nI i)] [] m' ∧ Inv L xs s' m' := by
  obtain ⟨x, s', m1, m2, e1, e2, hI, h1⟩ := jl_l (c_bottom) (show jm_mt[jn_X11_bottom]? = some (10, 5, 1, jc_X11_bottom) from rfl) rfl rfl h
  refine ⟨s', m2, ?_, hI⟩
  rw [l_L_law_259, e1]
  simp only [e2, jt_bi, jt_bl, jl_cmp, cond_true]
theorem jl_c3 {L i : Nat} {xs : Nat → Int32} (hL : L ≤ 3072) (hi : i + 6 ≤ L) {s : St} {m : jm_M} (h : Inv L xs s m) : ∃ s' m', jm_ev false 100 13 2 jc_L_law 273 [v70, vX, vM, .inl (nI i)] [] m = jm_ev false 100 13 2 jc_L_law 1596 [v70, vX, vM, .inl (nI i)] [] m' ∧ Inv L xs s' m' := by
  obtain ⟨x, s', m1, m2, e1, e2, hI, h1⟩ := jl_i (c_tray (xs (i + 1)) (xs (i + 2)) (xs (i + 3))) (show jm_mt[jn_X11_tray]? = some (10, 2, 4, jc_X11_tray) from rfl) (by decide) rfl h
  refine ⟨s', m2, ?_, hI⟩
  have a1 : nI i + 1 = nI (i + 1) := nI_add i 1
  have b1 := jl_in (j := 1) hL (show i + 1 < L by omega)
  have d1 := jl_ix (j := 1) hL (show i + 1 < L by omega)
  have a2 : nI i + 2 = nI (i + 2) := nI_add i 2
  have b2 := jl_in (j := 2) hL (show i + 2 < L by omega)
  have d2 := jl_ix (j := 2) hL (show i + 2 < L by omega)
  have a3 : nI i + 3 = nI (i + 3) := nI_add i 3
  have b3 := jl_in (j := 3) hL (show i + 3 < L by omega)
  have d3 := jl_ix (j := 3) hL (show i + 3 < L by omega)
  obtain ⟨-, -, -, hx, hl⟩ := h
  obtain ⟨hx1, hl1⟩ := h1
  rw [l_L_law_273]
  simp only [hl, hl1, a1, b1, d1, a2, b2, d2, a3, b3, d3, cond_true, hx, hx1, e1, e2, jt_bi, jt_bl, jl_eq, jg_dT]
theorem jl_c4 {L i : Nat} {xs : Nat → Int32} (hL : L ≤ 3072) (hi : i + 6 ≤ L) {s : St} {m : jm_M} (h : Inv L xs s m) : ∃ s' m', jm_ev false 100 13 2 jc_L_law 316 [v70, vX, vM, .inl (nI i)] [] m = jm_ev false 100 13 2 jc_L_law 1596 [v70, vX, vM, .inl (nI i)] [] m' ∧ Inv L xs s' m' := by
  obtain ⟨x, s', m1, m2, e1, e2, hI, h1⟩ := jl_i (c_write (xs (i + 1)) (xs (i + 2)) (((xs (i + 3)).toInt64 <<< ((32 : Int32).toInt64 &&& 63)) ||| ((xs (i + 4)).toInt64 &&& (4294967295 : Int64)))) (show jm_mt[jn_X11_write]? = some (10, 2, 6, jc_X11_write) from rfl) (by decide) rfl h
  refine ⟨s', m2, ?_, hI⟩
  have a1 : nI i + 1 = nI (i + 1) := nI_add i 1
  have b1 := jl_in (j := 1) hL (show i + 1 < L by omega)
  have d1 := jl_ix (j := 1) hL (show i + 1 < L by omega)
  have a2 : nI i + 2 = nI (i + 2) := nI_add i 2
  have b2 := jl_in (j := 2) hL (show i + 2 < L by omega)
  have d2 := jl_ix (j := 2) hL (show i + 2 < L by omega)
  have a3 : nI i + 3 = nI (i + 3) := nI_add i 3
  have b3 := jl_in (j := 3) hL (show i + 3 < L by omega)
  have d3 := jl_ix (j := 3) hL (show i + 3 < L by omega)
  have a4 : nI i + 4 = nI (i + 4) := nI_add i 4
  have b4 := jl_in (j := 4) hL (show i + 4 < L by omega)
  have d4 := jl_ix (j := 4) hL (show i + 4 < L by omega)
  obtain ⟨-, -, -, hx, hl⟩ := h
  obtain ⟨hx1, hl1⟩ := h1
  rw [l_L_law_316]
  simp only [hl, hl1, a1, b1, d1, a2, b2, d2, a3, b3, d3, a4, b4, d4, cond_true, hx, hx1, e1, e2, jt_bi, jt_bl, jl_eq, jg_dT]
theorem jl_c5 {L i : Nat} {xs : Nat → Int32} (hL : L ≤ 3072) (hi : i + 6 ≤ L) {s : St} {m : jm_M} (h : Inv L xs s m) : ∃ s' m', jm_ev false 100 13 2 jc_L_law 389 [v70, vX, vM, .inl (nI i)] [] m = jm_ev false 100 13 2 jc_L_law 1596 [v70, vX, vM, .inl (nI i)] [] m' ∧ Inv L xs s' m' := by
  obtain ⟨x, s', m1, m2, e1, e2, hI, h1⟩ := jl_l (c_read (xs (i + 1)) (xs (i + 2))) (show jm_mt[jn_X11_read]? = some (10, 5, 4, jc_X11_read) from rfl) rfl rfl h
  refine ⟨s', m2, ?_, hI⟩
  have a1 : nI i + 1 = nI (i + 1) := nI_add i 1
  have b1 := jl_in (j := 1) hL (show i + 1 < L by omega)
  have d1 := jl_ix (j := 1) hL (show i + 1 < L by omega)
  have a2 : nI i + 2 = nI (i + 2) := nI_add i 2
  have b2 := jl_in (j := 2) hL (show i + 2 < L by omega)
  have d2 := jl_ix (j := 2) hL (show i + 2 < L by omega)
  obtain ⟨-, -, -, hx, hl⟩ := h
  obtain ⟨hx1, hl1⟩ := h1
  rw [l_L_law_389]
  simp only [hl, hl1, a1, b1, d1, a2, b2, d2, cond_true, hx, hx1, e1, e2, jt_bi, jt_bl, jl_cmp]
theorem jl_c6 {L i : Nat} {xs : Nat → Int32} (hL : L ≤ 3072) (hi : i + 6 ≤ L) {s : St} {m : jm_M} (h : Inv L xs s m) : ∃ s' m', jm_ev false 100 13 2 jc_L_law 423 [v70, vX, vM, .inl (nI i)] [] m = jm_ev false 100 13 2 jc_L_law 1596 [v70, vX, vM, .inl (nI i)] [] m' ∧ Inv L xs s' m' := by
  obtain ⟨x, s', m1, m2, e1, e2, hI, h1⟩ := jl_i (c_pour (xs (i + 1)) (xs (i + 2)) (xs (i + 3)) (xs (i + 4)) (xs (i + 5))) (show jm_mt[jn_X11_pour]? = some (10, 2, 8, jc_X11_pour) from rfl) (by decide) rfl h
  refine ⟨s', m2, ?_, hI⟩
  have a1 : nI i + 1 = nI (i + 1) := nI_add i 1
  have b1 := jl_in (j := 1) hL (show i + 1 < L by omega)
  have d1 := jl_ix (j := 1) hL (show i + 1 < L by omega)
  have a2 : nI i + 2 = nI (i + 2) := nI_add i 2
  have b2 := jl_in (j := 2) hL (show i + 2 < L by omega)
  have d2 := jl_ix (j := 2) hL (show i + 2 < L by omega)
  have a3 : nI i + 3 = nI (i + 3) := nI_add i 3
  have b3 := jl_in (j := 3) hL (show i + 3 < L by omega)
  have d3 := jl_ix (j := 3) hL (show i + 3 < L by omega)
  have a4 : nI i + 4 = nI (i + 4) := nI_add i 4
  have b4 := jl_in (j := 4) hL (show i + 4 < L by omega)
  have d4 := jl_ix (j := 4) hL (show i + 4 < L by omega)
  have a5 : nI i + 5 = nI (i + 5) := nI_add i 5
  have b5 := jl_in (j := 5) hL (show i + 5 < L by omega)
  have d5 := jl_ix (j := 5) hL (show i + 5 < L by omega)
  obtain ⟨-, -, -, hx, hl⟩ := h
  obtain ⟨hx1, hl1⟩ := h1
  rw [l_L_law_423]
  simp only [hl, hl1, a1, b1, d1, a2, b2, d2, a3, b3, d3, a4, b4, d4, a5, b5, d5, cond_true, hx, hx1, e1, e2, jt_bi, jt_bl, jl_eq, jg_dT]
theorem jl_c7 {L i : Nat} {xs : Nat → Int32} (hL : L ≤ 3072) (hi : i + 6 ≤ L) {s : St} {m : jm_M} (h : Inv L xs s m) : ∃ s' m', jm_ev false 100 13 2 jc_L_law 486 [v70, vX, vM, .inl (nI i)] [] m = jm_ev false 100 13 2 jc_L_law 1596 [v70, vX, vM, .inl (nI i)] [] m' ∧ Inv L xs s' m' := by
  obtain ⟨x, s', m1, m2, e1, e2, hI, h1⟩ := jl_i (c_feed (xs (i + 1)) (xs (i + 2)) (xs (i + 3)) (xs (i + 4)) (xs (i + 5))) (show jm_mt[jn_X11_feed]? = some (10, 1, 6, jc_X11_feed) from rfl) (by decide) rfl h
  refine ⟨s', m2, ?_, hI⟩
  have a1 : nI i + 1 = nI (i + 1) := nI_add i 1
  have b1 := jl_in (j := 1) hL (show i + 1 < L by omega)
  have d1 := jl_ix (j := 1) hL (show i + 1 < L by omega)
  have a2 : nI i + 2 = nI (i + 2) := nI_add i 2
  have b2 := jl_in (j := 2) hL (show i + 2 < L by omega)
  have d2 := jl_ix (j := 2) hL (show i + 2 < L by omega)
  have a3 : nI i + 3 = nI (i + 3) := nI_add i 3
  have b3 := jl_in (j := 3) hL (show i + 3 < L by omega)
  have d3 := jl_ix (j := 3) hL (show i + 3 < L by omega)
  have a4 : nI i + 4 = nI (i + 4) := nI_add i 4
  have b4 := jl_in (j := 4) hL (show i + 4 < L by omega)
  have d4 := jl_ix (j := 4) hL (show i + 4 < L by omega)
  have a5 : nI i + 5 = nI (i + 5) := nI_add i 5
  have b5 := jl_in (j := 5) hL (show i + 5 < L by omega)
  have d5 := jl_ix (j := 5) hL (show i + 5 < L by omega)
  obtain ⟨-, -, -, hx, hl⟩ := h
  obtain ⟨hx1, hl1⟩ := h1
  rw [l_L_law_486]
  simp only [hl, hl1, a1, b1, d1, a2, b2, d2, a3, b3, d3, a4, b4, d4, a5, b5, d5, cond_true, hx, hx1, e1, e2, jt_bi, jt_bl, jl_eq, jg_dT]
theorem jl_c8 {L i : Nat} {xs : Nat → Int32} (hL : L ≤ 3072) (hi : i + 6 ≤ L) {s : St} {m : jm_M} (h : Inv L xs s m) : ∃ s' m', jm_ev false 100 13 2 jc_L_law 549 [v70, vX, vM, .inl (nI i)] [] m = jm_ev false 100 13 2 jc_L_law 1596 [v70, vX, vM, .inl (nI i)] [] m' ∧ Inv L xs s' m' := by
  obtain ⟨x, s', m1, m2, e1, e2, hI, h1⟩ := jl_i (c_village (xs (i + 1))) (show jm_mt[jn_X11_village]? = some (10, 1, 3, jc_X11_village) from rfl) (by decide) rfl h
  refine ⟨s', m2, ?_, hI⟩
  have a1 : nI i + 1 = nI (i + 1) := nI_add i 1
  have b1 := jl_in (j := 1) hL (show i + 1 < L by omega)
  have d1 := jl_ix (j := 1) hL (show i + 1 < L by omega)
  obtain ⟨-, -, -, hx, hl⟩ := h
  obtain ⟨hx1, hl1⟩ := h1
  rw [l_L_law_549]
  simp only [hl, hl1, a1, b1, d1, cond_true, hx, hx1, e1, e2, jt_bi, jt_bl, jl_eq, jg_dT]
theorem jl_c9 {L i : Nat} {xs : Nat → Int32} (hL : L ≤ 3072) (hi : i + 6 ≤ L) {s : St} {m : jm_M} (h : Inv L xs s m) : ∃ s' m', jm_ev false 100 13 2 jc_L_law 572 [v70, vX, vM, .inl (nI i)] [] m = jm_ev false 100 13 2 jc_L_law 1596 [v70, vX, vM, .inl (nI i)] [] m' ∧ Inv L xs s' m' := by
  obtain ⟨x, s', m1, m2, e1, e2, hI, h1⟩ := jl_i (c_law (xs (i + 1))) (show jm_mt[jn_X11_law]? = some (10, 1, 3, jc_X11_law) from rfl) (by decide) rfl h
  refine ⟨s', m2, ?_, hI⟩
  have a1 : nI i + 1 = nI (i + 1) := nI_add i 1
  have b1 := jl_in (j := 1) hL (show i + 1 < L by omega)
  have d1 := jl_ix (j := 1) hL (show i + 1 < L by omega)
  obtain ⟨-, -, -, hx, hl⟩ := h
  obtain ⟨hx1, hl1⟩ := h1
  rw [l_L_law_572]
  simp only [hl, hl1, a1, b1, d1, cond_true, hx, hx1, e1, e2, jt_bi, jt_bl, jl_eq, jg_dT]
theorem jl_c10 {L i : Nat} {xs : Nat → Int32} (hL : L ≤ 3072) (hi : i + 6 ≤ L) {s : St} {m : jm_M} (h : Inv L xs s m) : ∃ s' m', jm_ev false 100 13 2 jc_L_law 595 [v70, vX, vM, .inl (nI i)] [] m = jm_ev false 100 13 2 jc_L_law 1596 [v70, vX, vM, .inl (nI i)] [] m' ∧ Inv L xs s' m' := by
  obtain ⟨x, s', m1, m2, e1, e2, hI, h1⟩ := jl_i (c_fault (xs (i + 1))) (show jm_mt[jn_X11_fault]? = some (10, 1, 2, jc_X11_fault) from rfl) (by decide) rfl h
  refine ⟨s', m2, ?_, hI⟩
  have a1 : nI i + 1 = nI (i + 1) := nI_add i 1
  have b1 := jl_in (j := 1) hL (show i + 1 < L by omega)
  have d1 := jl_ix (j := 1) hL (show i + 1 < L by omega)
  obtain ⟨-, -, -, hx, hl⟩ := h
  obtain ⟨hx1, hl1⟩ := h1
  rw [l_L_law_595]
  simp only [hl, hl1, a1, b1, d1, cond_true, hx, hx1, e1, e2, jt_bi, jt_bl, jl_eq, jg_dT]
theorem jl_c11 {L i : Nat} {xs : Nat → Int32} (hL : L ≤ 3072) (hi : i + 6 ≤ L) {s : St} {m : jm_M} (h : Inv L xs s m) : ∃ s' m', jm_ev false 100 13 2 jc_L_law 618 [v70, vX, vM, .inl (nI i)] [] m = jm_ev false 100 13 2 jc_L_law 1596 [v70, vX, vM, .inl (nI i)] [] m' ∧ Inv L xs s' m' := by
  obtain ⟨x, s', m1, m2, e1, e2, hI, h1⟩ := jl_i (c_told (xs (i + 1))) (show jm_mt[jn_X11_told]? = some (10, 1, 2, jc_X11_told) from rfl) (by decide) rfl h
  refine ⟨s', m2, ?_, hI⟩
  have a1 : nI i + 1 = nI (i + 1) := nI_add i 1
  have b1 := jl_in (j := 1) hL (show i + 1 < L by omega)
  have d1 := jl_ix (j := 1) hL (show i + 1 < L by omega)
  obtain ⟨-, -, -, hx, hl⟩ := h
  obtain ⟨hx1, hl1⟩ := h1
  rw [l_L_law_618]
  simp only [hl, hl1, a1, b1, d1, cond_true, hx, hx1, e1, e2, jt_bi, jt_bl, jl_eq, jg_dT]
theorem jl_c12 {L i : Nat} {xs : Nat → Int32} (hL : L ≤ 3072) (hi : i + 6 ≤ L) {s : St} {m : jm_M} (h : Inv L xs s m) : ∃ s' m', jm_ev false 100 13 2 jc_L_law 641 [v70, vX, vM, .inl (nI i)] [] m = jm_ev false 100 13 2 jc_L_law 1596 [v70, vX, vM, .inl (nI i)] [] m' ∧ Inv L xs s' m' := by
  obtain ⟨x, s', m1, m2, e1, e2, hI, h1⟩ := jl_l (c_form (xs (i + 1))) (show jm_mt[jn_X11_form]? = some (10, 5, 2, jc_X11_form) from rfl) rfl rfl h
  refine ⟨s', m2, ?_, hI⟩
  have a1 : nI i + 1 = nI (i + 1) := nI_add i 1
  have b1 := jl_in (j := 1) hL (show i + 1 < L by omega)
  have d1 := jl_ix (j := 1) hL (show i + 1 < L by omega)
  obtain ⟨-, -, -, hx, hl⟩ := h
  obtain ⟨hx1, hl1⟩ := h1
  rw [l_L_law_641]
  simp only [hl, hl1, a1, b1, d1, cond_true, hx, hx1, e1, e2, jt_bi, jt_bl, jl_cmp]
theorem jl_c13 {L i : Nat} {xs : Nat → Int32} (hL : L ≤ 3072) (hi : i + 6 ≤ L) {s : St} {m : jm_M} (h : Inv L xs s m) : ∃ s' m', jm_ev false 100 13 2 jc_L_law 665 [v70, vX, vM, .inl (nI i)] [] m = jm_ev false 100 13 2 jc_L_law 1596 [v70, vX, vM, .inl (nI i)] [] m' ∧ Inv L xs s' m' := by
  obtain ⟨x, s', m1, m2, e1, e2, hI, h1⟩ := jl_i (c_word (xs (i + 1)) (xs (i + 2))) (show jm_mt[jn_X11_word]? = some (10, 1, 4, jc_X11_word) from rfl) (by decide) rfl h
  refine ⟨s', m2, ?_, hI⟩
  have a1 : nI i + 1 = nI (i + 1) := nI_add i 1
  have b1 := jl_in (j := 1) hL (show i + 1 < L by omega)
  have d1 := jl_ix (j := 1) hL (show i + 1 < L by omega)
  have a2 : nI i + 2 = nI (i + 2) := nI_add i 2
  have b2 := jl_in (j := 2) hL (show i + 2 < L by omega)
  have d2 := jl_ix (j := 2) hL (show i + 2 < L by omega)
  obtain ⟨-, -, -, hx, hl⟩ := h
  obtain ⟨hx1, hl1⟩ := h1
  rw [l_L_law_665]
  simp only [hl, hl1, a1, b1, d1, a2, b2, d2, cond_true, hx, hx1, e1, e2, jt_bi, jt_bl, jl_eq, jg_dT]
theorem jl_c14 {L i : Nat} {xs : Nat → Int32} (hL : L ≤ 3072) (hi : i + 6 ≤ L) {s : St} {m : jm_M} (h : Inv L xs s m) : ∃ s' m', jm_ev false 100 13 2 jc_L_law 698 [v70, vX, vM, .inl (nI i)] [] m = jm_ev false 100 13 2 jc_L_law 1596 [v70, vX, vM, .inl (nI i)] [] m' ∧ Inv L xs s' m' := by
  obtain ⟨x, s', m1, m2, e1, e2, hI, h1⟩ := jl_i (c_words (xs (i + 1))) (show jm_mt[jn_X11_words]? = some (10, 1, 2, jc_X11_words) from rfl) (by decide) rfl h
  refine ⟨s', m2, ?_, hI⟩
  have a1 : nI i + 1 = nI (i + 1) := nI_add i 1
  have b1 := jl_in (j := 1) hL (show i + 1 < L by omega)
  have d1 := jl_ix (j := 1) hL (show i + 1 < L by omega)
  obtain ⟨-, -, -, hx, hl⟩ := h
  obtain ⟨hx1, hl1⟩ := h1
  rw [l_L_law_698]
  simp only [hl, hl1, a1, b1, d1, cond_true, hx, hx1, e1, e2, jt_bi, jt_bl, jl_eq, jg_dT]
theorem jl_c15 {L i : Nat} {xs : Nat → Int32} (hL : L ≤ 3072) (hi : i + 6 ≤ L) {s : St} {m : jm_M} (h : Inv L xs s m) : ∃ s' m', jm_ev false 100 13 2 jc_L_law 721 [v70, vX, vM, .inl (nI i)] [] m = jm_ev false 100 13 2 jc_L_law 1596 [v70, vX, vM, .inl (nI i)] [] m' ∧ Inv L xs s' m' := by
  obtain ⟨x, s', m1, m2, e1, e2, hI, h1⟩ := jl_i (c_loses (xs (i + 1))) (show jm_mt[jn_X11_loses]? = some (10, 1, 3, jc_X11_loses) from rfl) (by decide) rfl h
  refine ⟨s', m2, ?_, hI⟩
  have a1 : nI i + 1 = nI (i + 1) := nI_add i 1
  have b1 := jl_in (j := 1) hL (show i + 1 < L by omega)
  have d1 := jl_ix (j := 1) hL (show i + 1 < L by omega)
  obtain ⟨-, -, -, hx, hl⟩ := h
  obtain ⟨hx1, hl1⟩ := h1
  rw [l_L_law_721]
  simp only [hl, hl1, a1, b1, d1, cond_true, hx, hx1, e1, e2, jt_bi, jt_bl, jl_eq, jg_dT]
theorem jl_c16 {L i : Nat} {xs : Nat → Int32} (hL : L ≤ 3072) (hi : i + 6 ≤ L) {s : St} {m : jm_M} (h : Inv L xs s m) : ∃ s' m', jm_ev false 100 13 2 jc_L_law 744 [v70, vX, vM, .inl (nI i)] [] m = jm_ev false 100 13 2 jc_L_law 1596 [v70, vX, vM, .inl (nI i)] [] m' ∧ Inv L xs s' m' := by
  obtain ⟨x, s', m1, m2, e1, e2, hI, h1⟩ := jl_l (c_chain (xs (i + 1)) (xs (i + 2))) (show jm_mt[jn_X11_chain]? = some (10, 5, 5, jc_X11_chain) from rfl) rfl rfl h
  refine ⟨s', m2, ?_, hI⟩
  have a1 : nI i + 1 = nI (i + 1) := nI_add i 1
  have b1 := jl_in (j := 1) hL (show i + 1 < L by omega)
  have d1 := jl_ix (j := 1) hL (show i + 1 < L by omega)
  have a2 : nI i + 2 = nI (i + 2) := nI_add i 2
  have b2 := jl_in (j := 2) hL (show i + 2 < L by omega)
  have d2 := jl_ix (j := 2) hL (show i + 2 < L by omega)
  obtain ⟨-, -, -, hx, hl⟩ := h
  obtain ⟨hx1, hl1⟩ := h1
  rw [l_L_law_744]
  simp only [hl, hl1, a1, b1, d1, a2, b2, d2, cond_true, hx, hx1, e1, e2, jt_bi, jt_bl, jl_cmp]
theorem jl_c17 {L i : Nat} {xs : Nat → Int32} (hL : L ≤ 3072) (hi : i + 6 ≤ L) {s : St} {m : jm_M} (h : Inv L xs s m) : ∃ s' m', jm_ev false 100 13 2 jc_L_law 778 [v70, vX, vM, .inl (nI i)] [] m = jm_ev false 100 13 2 jc_L_law 1596 [v70, vX, vM, .inl (nI i)] [] m' ∧ Inv L xs s' m' := by
  obtain ⟨x, s', m1, m2, e1, e2, hI, h1⟩ := jl_i (c_life (xs (i + 1))) (show jm_mt[jn_X11_life]? = some (10, 1, 4, jc_X11_life) from rfl) (by decide) rfl h
  refine ⟨s', m2, ?_, hI⟩
  have a1 : nI i + 1 = nI (i + 1) := nI_add i 1
  have b1 := jl_in (j := 1) hL (show i + 1 < L by omega)
  have d1 := jl_ix (j := 1) hL (show i + 1 < L by omega)
  obtain ⟨-, -, -, hx, hl⟩ := h
  obtain ⟨hx1, hl1⟩ := h1
  rw [l_L_law_778]
  simp only [hl, hl1, a1, b1, d1, cond_true, hx, hx1, e1, e2, jt_bi, jt_bl, jl_eq, jg_dT]
theorem jl_c18 {L i : Nat} {xs : Nat → Int32} (hL : L ≤ 3072) (hi : i + 6 ≤ L) {s : St} {m : jm_M} (h : Inv L xs s m) : ∃ s' m', jm_ev false 100 13 2 jc_L_law 801 [v70, vX, vM, .inl (nI i)] [] m = jm_ev false 100 13 2 jc_L_law 1596 [v70, vX, vM, .inl (nI i)] [] m' ∧ Inv L xs s' m' := by
  obtain ⟨x, s', m1, m2, e1, e2, hI, h1⟩ := jl_i (c_twin (xs (i + 1)) (xs (i + 2))) (show jm_mt[jn_X11_twin]? = some (10, 1, 6, jc_X11_twin) from rfl) (by decide) rfl h
  refine ⟨s', m2, ?_, hI⟩
  have a1 : nI i + 1 = nI (i + 1) := nI_add i 1
  have b1 := jl_in (j := 1) hL (show i + 1 < L by omega)
  have d1 := jl_ix (j := 1) hL (show i + 1 < L by omega)
  have a2 : nI i + 2 = nI (i + 2) := nI_add i 2
  have b2 := jl_in (j := 2) hL (show i + 2 < L by omega)
  have d2 := jl_ix (j := 2) hL (show i + 2 < L by omega)
  obtain ⟨-, -, -, hx, hl⟩ := h
  obtain ⟨hx1, hl1⟩ := h1
  rw [l_L_law_801]
  simp only [hl, hl1, a1, b1, d1, a2, b2, d2, cond_true, hx, hx1, e1, e2, jt_bi, jt_bl, jl_eq, jg_dT]
theorem jl_c19 {L i : Nat} {xs : Nat → Int32} (hL : L ≤ 3072) (hi : i + 6 ≤ L) {s : St} {m : jm_M} (h : Inv L xs s m) : ∃ s' m', jm_ev false 100 13 2 jc_L_law 834 [v70, vX, vM, .inl (nI i)] [] m = jm_ev false 100 13 2 jc_L_law 1596 [v70, vX, vM, .inl (nI i)] [] m' ∧ Inv L xs s' m' := by
  obtain ⟨x, s', m1, m2, e1, e2, hI, h1⟩ := jl_i (c_common (xs (i + 1)) (xs (i + 2))) (show jm_mt[jn_X11_common]? = some (10, 1, 4, jc_X11_common) from rfl) (by decide) rfl h
  refine ⟨s', m2, ?_, hI⟩
  have a1 : nI i + 1 = nI (i + 1) := nI_add i 1
  have b1 := jl_in (j := 1) hL (show i + 1 < L by omega)
  have d1 := jl_ix (j := 1) hL (show i + 1 < L by omega)
  have a2 : nI i + 2 = nI (i + 2) := nI_add i 2
  have b2 := jl_in (j := 2) hL (show i + 2 < L by omega)
  have d2 := jl_ix (j := 2) hL (show i + 2 < L by omega)
  obtain ⟨-, -, -, hx, hl⟩ := h
  obtain ⟨hx1, hl1⟩ := h1
  rw [l_L_law_834]
  simp only [hl, hl1, a1, b1, d1, a2, b2, d2, cond_true, hx, hx1, e1, e2, jt_bi, jt_bl, jl_eq, jg_dT]
theorem jl_c20 {L i : Nat} {xs : Nat → Int32} (hL : L ≤ 3072) (hi : i + 6 ≤ L) {s : St} {m : jm_M} (h : Inv L xs s m) : ∃ s' m', jm_ev false 100 13 2 jc_L_law 867 [v70, vX, vM, .inl (nI i)] [] m = jm_ev false 100 13 2 jc_L_law 1596 [v70, vX, vM, .inl (nI i)] [] m' ∧ Inv L xs s' m' := by
  obtain ⟨x, s', m1, m2, e1, e2, hI, h1⟩ := jl_i (c_rhymes (xs (i + 1)) (xs (i + 2))) (show jm_mt[jn_X11_rhymes]? = some (10, 1, 4, jc_X11_rhymes) from rfl) (by decide) rfl h
  refine ⟨s', m2, ?_, hI⟩
  have a1 : nI i + 1 = nI (i + 1) := nI_add i 1
  have b1 := jl_in (j := 1) hL (show i + 1 < L by omega)
  have d1 := jl_ix (j := 1) hL (show i + 1 < L by omega)
  have a2 : nI i + 2 = nI (i + 2) := nI_add i 2
  have b2 := jl_in (j := 2) hL (show i + 2 < L by omega)
  have d2 := jl_ix (j := 2) hL (show i + 2 < L by omega)
  obtain ⟨-, -, -, hx, hl⟩ := h
  obtain ⟨hx1, hl1⟩ := h1
  rw [l_L_law_867]
  simp only [hl, hl1, a1, b1, d1, a2, b2, d2, cond_true, hx, hx1, e1, e2, jt_bi, jt_bl, jl_eq, jg_dT]
theorem jl_c21 {L i : Nat} {xs : Nat → Int32} (hL : L ≤ 3072) (hi : i + 6 ≤ L) {s : St} {m : jm_M} (h : Inv L xs s m) : ∃ s' m', jm_ev false 100 13 2 jc_L_law 900 [v70, vX, vM, .inl (nI i)] [] m = jm_ev false 100 13 2 jc_L_law 1596 [v70, vX, vM, .inl (nI i)] [] m' ∧ Inv L xs s' m' := by
  obtain ⟨x, s', m1, m2, e1, e2, hI, h1⟩ := jl_i (c_lone) (show jm_mt[jn_X11_lone]? = some (10, 1, 1, jc_X11_lone) from rfl) (by decide) rfl h
  refine ⟨s', m2, ?_, hI⟩
  rw [l_L_law_900, e1]
  simp only [e2, jt_bi, jt_bl, jl_eq, jg_dT, cond_true]
theorem jl_c22 {L i : Nat} {xs : Nat → Int32} (hL : L ≤ 3072) (hi : i + 6 ≤ L) {s : St} {m : jm_M} (h : Inv L xs s m) : ∃ s' m', jm_ev false 100 13 2 jc_L_law 913 [v70, vX, vM, .inl (nI i)] [] m = jm_ev false 100 13 2 jc_L_law 1596 [v70, vX, vM, .inl (nI i)] [] m' ∧ Inv L xs s' m' := by
  obtain ⟨x, s', m1, m2, e1, e2, hI, h1⟩ := jl_i (c_mute) (show jm_mt[jn_X11_mute]? = some (10, 1, 1, jc_X11_mute) from rfl) (by decide) rfl h
  refine ⟨s', m2, ?_, hI⟩
  rw [l_L_law_913, e1]
  simp only [e2, jt_bi, jt_bl, jl_eq, jg_dT, cond_true]
theorem jl_c23 {L i : Nat} {xs : Nat → Int32} (hL : L ≤ 3072) (hi : i + 6 ≤ L) {s : St} {m : jm_M} (h : Inv L xs s m) : ∃ s' m', jm_ev false 100 13 2 jc_L_law 926 [v70, vX, vM, .inl (nI i)] [] m = jm_ev false 100 13 2 jc_L_law 1596 [v70, vX, vM, .inl (nI i)] [] m' ∧ Inv L xs s' m' := by
  obtain ⟨x, s', m1, m2, e1, e2, hI, h1⟩ := jl_i (c_lasts (xs (i + 1))) (show jm_mt[jn_X11_lasts]? = some (10, 1, 2, jc_X11_lasts) from rfl) (by decide) rfl h
  refine ⟨s', m2, ?_, hI⟩
  have a1 : nI i + 1 = nI (i + 1) := nI_add i 1
  have b1 := jl_in (j := 1) hL (show i + 1 < L by omega)
  have d1 := jl_ix (j := 1) hL (show i + 1 < L by omega)
  obtain ⟨-, -, -, hx, hl⟩ := h
  obtain ⟨hx1, hl1⟩ := h1
  rw [l_L_law_926]
  simp only [hl, hl1, a1, b1, d1, cond_true, hx, hx1, e1, e2, jt_bi, jt_bl, jl_eq, jg_dT]
theorem jl_c24 {L i : Nat} {xs : Nat → Int32} (hL : L ≤ 3072) (hi : i + 6 ≤ L) {s : St} {m : jm_M} (h : Inv L xs s m) : ∃ s' m', jm_ev false 100 13 2 jc_L_law 949 [v70, vX, vM, .inl (nI i)] [] m = jm_ev false 100 13 2 jc_L_law 1596 [v70, vX, vM, .inl (nI i)] [] m' ∧ Inv L xs s' m' := by
  obtain ⟨x, s', m1, m2, e1, e2, hI, h1⟩ := jl_i (c_spread (xs (i + 1))) (show jm_mt[jn_X11_spread]? = some (10, 1, 2, jc_X11_spread) from rfl) (by decide) rfl h
  refine ⟨s', m2, ?_, hI⟩
  have a1 : nI i + 1 = nI (i + 1) := nI_add i 1
  have b1 := jl_in (j := 1) hL (show i + 1 < L by omega)
  have d1 := jl_ix (j := 1) hL (show i + 1 < L by omega)
  obtain ⟨-, -, -, hx, hl⟩ := h
  obtain ⟨hx1, hl1⟩ := h1
  rw [l_L_law_949]
  simp only [hl, hl1, a1, b1, d1, cond_true, hx, hx1, e1, e2, jt_bi, jt_bl, jl_eq, jg_dT]
theorem jl_c25 {L i : Nat} {xs : Nat → Int32} (hL : L ≤ 3072) (hi : i + 6 ≤ L) {s : St} {m : jm_M} (h : Inv L xs s m) : ∃ s' m', jm_ev false 100 13 2 jc_L_law 972 [v70, vX, vM, .inl (nI i)] [] m = jm_ev false 100 13 2 jc_L_law 1596 [v70, vX, vM, .inl (nI i)] [] m' ∧ Inv L xs s' m' := by
  obtain ⟨x, s', m1, m2, e1, e2, hI, h1⟩ := jl_i (c_wintry) (show jm_mt[jn_X11_wintry]? = some (10, 1, 1, jc_X11_wintry) from rfl) (by decide) rfl h
  refine ⟨s', m2, ?_, hI⟩
  rw [l_L_law_972, e1]
  simp only [e2, jt_bi, jt_bl, jl_eq, jg_dT, cond_true]
theorem jl_c26 {L i : Nat} {xs : Nat → Int32} (hL : L ≤ 3072) (hi : i + 6 ≤ L) {s : St} {m : jm_M} (h : Inv L xs s m) : ∃ s' m', jm_ev false 100 13 2 jc_L_law 985 [v70, vX, vM, .inl (nI i)] [] m = jm_ev false 100 13 2 jc_L_law 1596 [v70, vX, vM, .inl (nI i)] [] m' ∧ Inv L xs s' m' := by
  obtain ⟨x, s', m1, m2, e1, e2, hI, h1⟩ := jl_i (c_say (xs (i + 1))) (show jm_mt[jn_X11_say]? = some (10, 1, 3, jc_X11_say) from rfl) (by decide) rfl h
  refine ⟨s', m2, ?_, hI⟩
  have a1 : nI i + 1 = nI (i + 1) := nI_add i 1
  have b1 := jl_in (j := 1) hL (show i + 1 < L by omega)
  have d1 := jl_ix (j := 1) hL (show i + 1 < L by omega)
  obtain ⟨-, -, -, hx, hl⟩ := h
  obtain ⟨hx1, hl1⟩ := h1
  rw [l_L_law_985]
  simp only [hl, hl1, a1, b1, d1, cond_true, hx, hx1, e1, e2, jt_bi, jt_bl, jl_eq, jg_dT]
theorem jl_c27 {L i : Nat} {xs : Nat → Int32} (hL : L ≤ 3072) (hi : i + 6 ≤ L) {s : St} {m : jm_M} (h : Inv L xs s m) : ∃ s' m', jm_ev false 100 13 2 jc_L_law 1008 [v70, vX, vM, .inl (nI i)] [] m = jm_ev false 100 13 2 jc_L_law 1596 [v70, vX, vM, .inl (nI i)] [] m' ∧ Inv L xs s' m' := by
  obtain ⟨x, s', m1, m2, e1, e2, hI, h1⟩ := jl_i (c_tell (xs (i + 1)) (xs (i + 2)) (xs (i + 3))) (show jm_mt[jn_X11_tell]? = some (10, 1, 5, jc_X11_tell) from rfl) (by decide) rfl h
  refine ⟨s', m2, ?_, hI⟩
  have a1 : nI i + 1 = nI (i + 1) := nI_add i 1
  have b1 := jl_in (j := 1) hL (show i + 1 < L by omega)
  have d1 := jl_ix (j := 1) hL (show i + 1 < L by omega)
  have a2 : nI i + 2 = nI (i + 2) := nI_add i 2
  have b2 := jl_in (j := 2) hL (show i + 2 < L by omega)
  have d2 := jl_ix (j := 2) hL (show i + 2 < L by omega)
  have a3 : nI i + 3 = nI (i + 3) := nI_add i 3
  have b3 := jl_in (j := 3) hL (show i + 3 < L by omega)
  have d3 := jl_ix (j := 3) hL (show i + 3 < L by omega)
  obtain ⟨-, -, -, hx, hl⟩ := h
  obtain ⟨hx1, hl1⟩ := h1
  rw [l_L_law_1008]
  simp only [hl, hl1, a1, b1, d1, a2, b2, d2, a3, b3, d3, cond_true, hx, hx1, e1, e2, jt_bi, jt_bl, jl_eq, jg_dT]
theorem jl_c28 {L i : Nat} {xs : Nat → Int32} (hL : L ≤ 3072) (hi : i + 6 ≤ L) {s : St} {m : jm_M} (h : Inv L xs s m) : ∃ s' m', jm_ev false 100 13 2 jc_L_law 1051 [v70, vX, vM, .inl (nI i)] [] m = jm_ev false 100 13 2 jc_L_law 1596 [v70, vX, vM, .inl (nI i)] [] m' ∧ Inv L xs s' m' := by
  obtain ⟨x, s', m1, m2, e1, e2, hI, h1⟩ := jl_i (c_follows (xs (i + 1)) (xs (i + 2))) (show jm_mt[jn_X11_follows]? = some (10, 1, 4, jc_X11_follows) from rfl) (by decide) rfl h
  refine ⟨s', m2, ?_, hI⟩
  have a1 : nI i + 1 = nI (i + 1) := nI_add i 1
  have b1 := jl_in (j := 1) hL (show i + 1 < L by omega)
  have d1 := jl_ix (j := 1) hL (show i + 1 < L by omega)
  have a2 : nI i + 2 = nI (i + 2) := nI_add i 2
  have b2 := jl_in (j := 2) hL (show i + 2 < L by omega)
  have d2 := jl_ix (j := 2) hL (show i + 2 < L by omega)
  obtain ⟨-, -, -, hx, hl⟩ := h
  obtain ⟨hx1, hl1⟩ := h1
  rw [l_L_law_1051]
  simp only [hl, hl1, a1, b1, d1, a2, b2, d2, cond_true, hx, hx1, e1, e2, jt_bi, jt_bl, jl_eq, jg_dT]
theorem jl_c29 {L i : Nat} {xs : Nat → Int32} (hL : L ≤ 3072) (hi : i + 6 ≤ L) {s : St} {m : jm_M} (h : Inv L xs s m) : ∃ s' m', jm_ev false 100 13 2 jc_L_law 1084 [v70, vX, vM, .inl (nI i)] [] m = jm_ev false 100 13 2 jc_L_law 1596 [v70, vX, vM, .inl (nI i)] [] m' ∧ Inv L xs s' m' := by
  obtain ⟨x, s', m1, m2, e1, e2, hI, h1⟩ := jl_l (c_knows (xs (i + 1)) (xs (i + 2))) (show jm_mt[jn_X11_knows]? = some (10, 5, 3, jc_X11_knows) from rfl) rfl rfl h
  refine ⟨s', m2, ?_, hI⟩
  have a1 : nI i + 1 = nI (i + 1) := nI_add i 1
  have b1 := jl_in (j := 1) hL (show i + 1 < L by omega)
  have d1 := jl_ix (j := 1) hL (show i + 1 < L by omega)
  have a2 : nI i + 2 = nI (i + 2) := nI_add i 2
  have b2 := jl_in (j := 2) hL (show i + 2 < L by omega)
  have d2 := jl_ix (j := 2) hL (show i + 2 < L by omega)
  obtain ⟨-, -, -, hx, hl⟩ := h
  obtain ⟨hx1, hl1⟩ := h1
  rw [l_L_law_1084]
  simp only [hl, hl1, a1, b1, d1, a2, b2, d2, cond_true, hx, hx1, e1, e2, jt_bi, jt_bl, jl_cmp]
theorem jl_c30 {L i : Nat} {xs : Nat → Int32} (hL : L ≤ 3072) (hi : i + 6 ≤ L) {s : St} {m : jm_M} (h : Inv L xs s m) : ∃ s' m', jm_ev false 100 13 2 jc_L_law 1118 [v70, vX, vM, .inl (nI i)] [] m = jm_ev false 100 13 2 jc_L_law 1596 [v70, vX, vM, .inl (nI i)] [] m' ∧ Inv L xs s' m' := by
  obtain ⟨x, s', m1, m2, e1, e2, hI, h1⟩ := jl_i (c_pass (xs (i + 1))) (show jm_mt[jn_X11_pass]? = some (10, 1, 2, jc_X11_pass) from rfl) (by decide) rfl h
  refine ⟨s', m2, ?_, hI⟩
  have a1 : nI i + 1 = nI (i + 1) := nI_add i 1
  have b1 := jl_in (j := 1) hL (show i + 1 < L by omega)
  have d1 := jl_ix (j := 1) hL (show i + 1 < L by omega)
  obtain ⟨-, -, -, hx, hl⟩ := h
  obtain ⟨hx1, hl1⟩ := h1
  rw [l_L_law_1118]
  simp only [hl, hl1, a1, b1, d1, cond_true, hx, hx1, e1, e2, jt_bi, jt_bl, jl_eq, jg_dT]
theorem jl_c31 {L i : Nat} {xs : Nat → Int32} (hL : L ≤ 3072) (hi : i + 6 ≤ L) {s : St} {m : jm_M} (h : Inv L xs s m) : ∃ s' m', jm_ev false 100 13 2 jc_L_law 1141 [v70, vX, vM, .inl (nI i)] [] m = jm_ev false 100 13 2 jc_L_law 1596 [v70, vX, vM, .inl (nI i)] [] m' ∧ Inv L xs s' m' := by
  obtain ⟨x, s', m1, m2, e1, e2, hI, h1⟩ := jl_i (c_winter) (show jm_mt[jn_X11_winter]? = some (10, 1, 1, jc_X11_winter) from rfl) (by decide) rfl h
  refine ⟨s', m2, ?_, hI⟩
  rw [l_L_law_1141, e1]
  simp only [e2, jt_bi, jt_bl, jl_eq, jg_dT, cond_true]
theorem jl_c32 {L i : Nat} {xs : Nat → Int32} (hL : L ≤ 3072) (hi : i + 6 ≤ L) {s : St} {m : jm_M} (h : Inv L xs s m) : ∃ s' m', jm_ev false 100 13 2 jc_L_law 1154 [v70, vX, vM, .inl (nI i)] [] m = jm_ev false 100 13 2 jc_L_law 1596 [v70, vX, vM, .inl (nI i)] [] m' ∧ Inv L xs s' m' := by
  obtain ⟨x, s', m1, m2, e1, e2, hI, h1⟩ := jl_i (c_cut (xs (i + 1)) (xs (i + 2)) (xs (i + 3)) (xs (i + 4)) (xs (i + 5))) (show jm_mt[jn_X11_cut]? = some (10, 1, 7, jc_X11_cut) from rfl) (by decide) rfl h
  refine ⟨s', m2, ?_, hI⟩
  have a1 : nI i + 1 = nI (i + 1) := nI_add i 1
  have b1 := jl_in (j := 1) hL (show i + 1 < L by omega)
  have d1 := jl_ix (j := 1) hL (show i + 1 < L by omega)
  have a2 : nI i + 2 = nI (i + 2) := nI_add i 2
  have b2 := jl_in (j := 2) hL (show i + 2 < L by omega)
  have d2 := jl_ix (j := 2) hL (show i + 2 < L by omega)
  have a3 : nI i + 3 = nI (i + 3) := nI_add i 3
  have b3 := jl_in (j := 3) hL (show i + 3 < L by omega)
  have d3 := jl_ix (j := 3) hL (show i + 3 < L by omega)
  have a4 : nI i + 4 = nI (i + 4) := nI_add i 4
  have b4 := jl_in (j := 4) hL (show i + 4 < L by omega)
  have d4 := jl_ix (j := 4) hL (show i + 4 < L by omega)
  have a5 : nI i + 5 = nI (i + 5) := nI_add i 5
  have b5 := jl_in (j := 5) hL (show i + 5 < L by omega)
  have d5 := jl_ix (j := 5) hL (show i + 5 < L by omega)
  obtain ⟨-, -, -, hx, hl⟩ := h
  obtain ⟨hx1, hl1⟩ := h1
  rw [l_L_law_1154]
  simp only [hl, hl1, a1, b1, d1, a2, b2, d2, a3, b3, d3, a4, b4, d4, a5, b5, d5, cond_true, hx, hx1, e1, e2, jt_bi, jt_bl, jl_eq, jg_dT]
theorem jl_c33 {L i : Nat} {xs : Nat → Int32} (hL : L ≤ 3072) (hi : i + 6 ≤ L) {s : St} {m : jm_M} (h : Inv L xs s m) : ∃ s' m', jm_ev false 100 13 2 jc_L_law 1217 [v70, vX, vM, .inl (nI i)] [] m = jm_ev false 100 13 2 jc_L_law 1596 [v70, vX, vM, .inl (nI i)] [] m' ∧ Inv L xs s' m' := by
  obtain ⟨x, s', m1, m2, e1, e2, hI, h1⟩ := jl_i (c_bestCut (xs (i + 1)) (xs (i + 2)) (xs (i + 3))) (show jm_mt[jn_X11_bestCut]? = some (10, 1, 11, jc_X11_bestCut) from rfl) (by decide) rfl h
  refine ⟨s', m2, ?_, hI⟩
  have a1 : nI i + 1 = nI (i + 1) := nI_add i 1
  have b1 := jl_in (j := 1) hL (show i + 1 < L by omega)
  have d1 := jl_ix (j := 1) hL (show i + 1 < L by omega)
  have a2 : nI i + 2 = nI (i + 2) := nI_add i 2
  have b2 := jl_in (j := 2) hL (show i + 2 < L by omega)
  have d2 := jl_ix (j := 2) hL (show i + 2 < L by omega)
  have a3 : nI i + 3 = nI (i + 3) := nI_add i 3
  have b3 := jl_in (j := 3) hL (show i + 3 < L by omega)
  have d3 := jl_ix (j := 3) hL (show i + 3 < L by omega)
  obtain ⟨-, -, -, hx, hl⟩ := h
  obtain ⟨hx1, hl1⟩ := h1
  rw [l_L_law_1217]
  simp only [hl, hl1, a1, b1, d1, a2, b2, d2, a3, b3, d3, cond_true, hx, hx1, e1, e2, jt_bi, jt_bl, jl_eq, jg_dT]
theorem jl_c34 {L i : Nat} {xs : Nat → Int32} (hL : L ≤ 3072) (hi : i + 6 ≤ L) {s : St} {m : jm_M} (h : Inv L xs s m) : ∃ s' m', jm_ev false 100 13 2 jc_L_law 1260 [v70, vX, vM, .inl (nI i)] [] m = jm_ev false 100 13 2 jc_L_law 1596 [v70, vX, vM, .inl (nI i)] [] m' ∧ Inv L xs s' m' := by
  obtain ⟨x, s', m1, m2, e1, e2, hI, h1⟩ := jl_i (c_ways (xs (i + 1)) (xs (i + 2))) (show jm_mt[jn_X11_ways]? = some (10, 1, 4, jc_X11_ways) from rfl) (by decide) rfl h
  refine ⟨s', m2, ?_, hI⟩
  have a1 : nI i + 1 = nI (i + 1) := nI_add i 1
  have b1 := jl_in (j := 1) hL (show i + 1 < L by omega)
  have d1 := jl_ix (j := 1) hL (show i + 1 < L by omega)
  have a2 : nI i + 2 = nI (i + 2) := nI_add i 2
  have b2 := jl_in (j := 2) hL (show i + 2 < L by omega)
  have d2 := jl_ix (j := 2) hL (show i + 2 < L by omega)
  obtain ⟨-, -, -, hx, hl⟩ := h
  obtain ⟨hx1, hl1⟩ := h1
  rw [l_L_law_1260]
  simp only [hl, hl1, a1, b1, d1, a2, b2, d2, cond_true, hx, hx1, e1, e2, jt_bi, jt_bl, jl_eq, jg_dT]
theorem jl_c35 {L i : Nat} {xs : Nat → Int32} (hL : L ≤ 3072) (hi : i + 6 ≤ L) {s : St} {m : jm_M} (h : Inv L xs s m) : ∃ s' m', jm_ev false 100 13 2 jc_L_law 1293 [v70, vX, vM, .inl (nI i)] [] m = jm_ev false 100 13 2 jc_L_law 1596 [v70, vX, vM, .inl (nI i)] [] m' ∧ Inv L xs s' m' := by
  obtain ⟨x, s', m1, m2, e1, e2, hI, h1⟩ := jl_i (c_fewest (xs (i + 1)) (xs (i + 2))) (show jm_mt[jn_X11_fewest]? = some (10, 1, 5, jc_X11_fewest) from rfl) (by decide) rfl h
  refine ⟨s', m2, ?_, hI⟩
  have a1 : nI i + 1 = nI (i + 1) := nI_add i 1
  have b1 := jl_in (j := 1) hL (show i + 1 < L by omega)
  have d1 := jl_ix (j := 1) hL (show i + 1 < L by omega)
  have a2 : nI i + 2 = nI (i + 2) := nI_add i 2
  have b2 := jl_in (j := 2) hL (show i + 2 < L by omega)
  have d2 := jl_ix (j := 2) hL (show i + 2 < L by omega)
  obtain ⟨-, -, -, hx, hl⟩ := h
  obtain ⟨hx1, hl1⟩ := h1
  rw [l_L_law_1293]
  simp only [hl, hl1, a1, b1, d1, a2, b2, d2, cond_true, hx, hx1, e1, e2, jt_bi, jt_bl, jl_eq, jg_dT]
theorem jl_c36 {L i : Nat} {xs : Nat → Int32} (hL : L ≤ 3072) (hi : i + 6 ≤ L) {s : St} {m : jm_M} (h : Inv L xs s m) : ∃ s' m', jm_ev false 100 13 2 jc_L_law 1326 [v70, vX, vM, .inl (nI i)] [] m = jm_ev false 100 13 2 jc_L_law 1596 [v70, vX, vM, .inl (nI i)] [] m' ∧ Inv L xs s' m' := by
  obtain ⟨x, s', m1, m2, e1, e2, hI, h1⟩ := jl_i (c_fewestAt (xs (i + 1))) (show jm_mt[jn_X11_fewestAt]? = some (10, 1, 2, jc_X11_fewestAt) from rfl) (by decide) rfl h
  refine ⟨s', m2, ?_, hI⟩
  have a1 : nI i + 1 = nI (i + 1) := nI_add i 1
  have b1 := jl_in (j := 1) hL (show i + 1 < L by omega)
  have d1 := jl_ix (j := 1) hL (show i + 1 < L by omega)
  obtain ⟨-, -, -, hx, hl⟩ := h
  obtain ⟨hx1, hl1⟩ := h1
  rw [l_L_law_1326]
  simp only [hl, hl1, a1, b1, d1, cond_true, hx, hx1, e1, e2, jt_bi, jt_bl, jl_eq, jg_dT]
theorem jl_c37 {L i : Nat} {xs : Nat → Int32} (hL : L ≤ 3072) (hi : i + 6 ≤ L) {s : St} {m : jm_M} (h : Inv L xs s m) : ∃ s' m', jm_ev false 100 13 2 jc_L_law 1349 [v70, vX, vM, .inl (nI i)] [] m = jm_ev false 100 13 2 jc_L_law 1596 [v70, vX, vM, .inl (nI i)] [] m' ∧ Inv L xs s' m' := by
  obtain ⟨x, s', m1, m2, e1, e2, hI, h1⟩ := jl_i (c_howFar (xs (i + 1)) (xs (i + 2))) (show jm_mt[jn_X11_howFar]? = some (10, 1, 4, jc_X11_howFar) from rfl) (by decide) rfl h
  refine ⟨s', m2, ?_, hI⟩
  have a1 : nI i + 1 = nI (i + 1) := nI_add i 1
  have b1 := jl_in (j := 1) hL (show i + 1 < L by omega)
  have d1 := jl_ix (j := 1) hL (show i + 1 < L by omega)
  have a2 : nI i + 2 = nI (i + 2) := nI_add i 2
  have b2 := jl_in (j := 2) hL (show i + 2 < L by omega)
  have d2 := jl_ix (j := 2) hL (show i + 2 < L by omega)
  obtain ⟨-, -, -, hx, hl⟩ := h
  obtain ⟨hx1, hl1⟩ := h1
  rw [l_L_law_1349]
  simp only [hl, hl1, a1, b1, d1, a2, b2, d2, cond_true, hx, hx1, e1, e2, jt_bi, jt_bl, jl_eq, jg_dT]
theorem jl_c38 {L i : Nat} {xs : Nat → Int32} (hL : L ≤ 3072) (hi : i + 6 ≤ L) {s : St} {m : jm_M} (h : Inv L xs s m) : ∃ s' m', jm_ev false 100 13 2 jc_L_law 1382 [v70, vX, vM, .inl (nI i)] [] m = jm_ev false 100 13 2 jc_L_law 1596 [v70, vX, vM, .inl (nI i)] [] m' ∧ Inv L xs s' m' := by
  obtain ⟨x, s', m1, m2, e1, e2, hI, h1⟩ := jl_i (c_cheap (xs (i + 1))) (show jm_mt[jn_X11_cheap]? = some (10, 1, 3, jc_X11_cheap) from rfl) (by decide) rfl h
  refine ⟨s', m2, ?_, hI⟩
  have a1 : nI i + 1 = nI (i + 1) := nI_add i 1
  have b1 := jl_in (j := 1) hL (show i + 1 < L by omega)
  have d1 := jl_ix (j := 1) hL (show i + 1 < L by omega)
  obtain ⟨-, -, -, hx, hl⟩ := h
  obtain ⟨hx1, hl1⟩ := h1
  rw [l_L_law_1382]
  simp only [hl, hl1, a1, b1, d1, cond_true, hx, hx1, e1, e2, jt_bi, jt_bl, jl_eq, jg_dT]
theorem jl_c39 {L i : Nat} {xs : Nat → Int32} (hL : L ≤ 3072) (hi : i + 6 ≤ L) {s : St} {m : jm_M} (h : Inv L xs s m) : ∃ s' m', jm_ev false 100 13 2 jc_L_law 1405 [v70, vX, vM, .inl (nI i)] [] m = jm_ev false 100 13 2 jc_L_law 1596 [v70, vX, vM, .inl (nI i)] [] m' ∧ Inv L xs s' m' := by
  obtain ⟨x, s', m1, m2, e1, e2, hI, h1⟩ := jl_i (c_story (xs (i + 1)) (xs (i + 2))) (show jm_mt[jn_X11_story]? = some (10, 1, 5, jc_X11_story) from rfl) (by decide) rfl h
  refine ⟨s', m2, ?_, hI⟩
  have a1 : nI i + 1 = nI (i + 1) := nI_add i 1
  have b1 := jl_in (j := 1) hL (show i + 1 < L by omega)
  have d1 := jl_ix (j := 1) hL (show i + 1 < L by omega)
  have a2 : nI i + 2 = nI (i + 2) := nI_add i 2
  have b2 := jl_in (j := 2) hL (show i + 2 < L by omega)
  have d2 := jl_ix (j := 2) hL (show i + 2 < L by omega)
  obtain ⟨-, -, -, hx, hl⟩ := h
  obtain ⟨hx1, hl1⟩ := h1
  rw [l_L_law_1405]
  simp only [hl, hl1, a1, b1, d1, a2, b2, d2, cond_true, hx, hx1, e1, e2, jt_bi, jt_bl, jl_eq, jg_dT]
theorem jl_c40 {L i : Nat} {xs : Nat → Int32} (hL : L ≤ 3072) (hi : i + 6 ≤ L) {s : St} {m : jm_M} (h : Inv L xs s m) : ∃ s' m', jm_ev false 100 13 2 jc_L_law 1438 [v70, vX, vM, .inl (nI i)] [] m = jm_ev false 100 13 2 jc_L_law 1596 [v70, vX, vM, .inl (nI i)] [] m' ∧ Inv L xs s' m' := by
  obtain ⟨x, s', m1, m2, e1, e2, hI, h1⟩ := jl_i (c_readings (xs (i + 1)) (xs (i + 2))) (show jm_mt[jn_X11_readings]? = some (10, 1, 4, jc_X11_readings) from rfl) (by decide) rfl h
  refine ⟨s', m2, ?_, hI⟩
  have a1 : nI i + 1 = nI (i + 1) := nI_add i 1
  have b1 := jl_in (j := 1) hL (show i + 1 < L by omega)
  have d1 := jl_ix (j := 1) hL (show i + 1 < L by omega)
  have a2 : nI i + 2 = nI (i + 2) := nI_add i 2
  have b2 := jl_in (j := 2) hL (show i + 2 < L by omega)
  have d2 := jl_ix (j := 2) hL (show i + 2 < L by omega)
  obtain ⟨-, -, -, hx, hl⟩ := h
  obtain ⟨hx1, hl1⟩ := h1
  rw [l_L_law_1438]
  simp only [hl, hl1, a1, b1, d1, a2, b2, d2, cond_true, hx, hx1, e1, e2, jt_bi, jt_bl, jl_eq, jg_dT]
theorem jl_c41 {L i : Nat} {xs : Nat → Int32} (hL : L ≤ 3072) (hi : i + 6 ≤ L) {s : St} {m : jm_M} (h : Inv L xs s m) : ∃ s' m', jm_ev false 100 13 2 jc_L_law 1471 [v70, vX, vM, .inl (nI i)] [] m = jm_ev false 100 13 2 jc_L_law 1596 [v70, vX, vM, .inl (nI i)] [] m' ∧ Inv L xs s' m' := by
  obtain ⟨x, s', m1, m2, e1, e2, hI, h1⟩ := jl_i (c_gossip (xs (i + 1)) (xs (i + 2))) (show jm_mt[jn_X11_gossip]? = some (10, 1, 4, jc_X11_gossip) from rfl) (by decide) rfl h
  refine ⟨s', m2, ?_, hI⟩
  have a1 : nI i + 1 = nI (i + 1) := nI_add i 1
  have b1 := jl_in (j := 1) hL (show i + 1 < L by omega)
  have d1 := jl_ix (j := 1) hL (show i + 1 < L by omega)
  have a2 : nI i + 2 = nI (i + 2) := nI_add i 2
  have b2 := jl_in (j := 2) hL (show i + 2 < L by omega)
  have d2 := jl_ix (j := 2) hL (show i + 2 < L by omega)
  obtain ⟨-, -, -, hx, hl⟩ := h
  obtain ⟨hx1, hl1⟩ := h1
  rw [l_L_law_1471]
  simp only [hl, hl1, a1, b1, d1, a2, b2, d2, cond_true, hx, hx1, e1, e2, jt_bi, jt_bl, jl_eq, jg_dT]
theorem jl_c42 {L i : Nat} {xs : Nat → Int32} (hL : L ≤ 3072) (hi : i + 6 ≤ L) {s : St} {m : jm_M} (h : Inv L xs s m) : ∃ s' m', jm_ev false 100 13 2 jc_L_law 1504 [v70, vX, vM, .inl (nI i)] [] m = jm_ev false 100 13 2 jc_L_law 1596 [v70, vX, vM, .inl (nI i)] [] m' ∧ Inv L xs s' m' := by
  obtain ⟨x, s', m1, m2, e1, e2, hI, h1⟩ := jl_i (c_gossiped (xs (i + 1))) (show jm_mt[jn_X11_gossiped]? = some (10, 1, 2, jc_X11_gossiped) from rfl) (by decide) rfl h
  refine ⟨s', m2, ?_, hI⟩
  have a1 : nI i + 1 = nI (i + 1) := nI_add i 1
  have b1 := jl_in (j := 1) hL (show i + 1 < L by omega)
  have d1 := jl_ix (j := 1) hL (show i + 1 < L by omega)
  obtain ⟨-, -, -, hx, hl⟩ := h
  obtain ⟨hx1, hl1⟩ := h1
  rw [l_L_law_1504]
  simp only [hl, hl1, a1, b1, d1, cond_true, hx, hx1, e1, e2, jt_bi, jt_bl, jl_eq, jg_dT]
theorem jl_c43 {L i : Nat} {xs : Nat → Int32} (hL : L ≤ 3072) (hi : i + 6 ≤ L) {s : St} {m : jm_M} (h : Inv L xs s m) : ∃ s' m', jm_ev false 100 13 2 jc_L_law 1527 [v70, vX, vM, .inl (nI i)] [] m = jm_ev false 100 13 2 jc_L_law 1596 [v70, vX, vM, .inl (nI i)] [] m' ∧ Inv L xs s' m' := by
  obtain ⟨x, s', m1, m2, e1, e2, hI, h1⟩ := jl_i (c_odds (xs (i + 1)) (xs (i + 2)) (xs (i + 3))) (show jm_mt[jn_X11_odds]? = some (10, 2, 8, jc_X11_odds) from rfl) (by decide) rfl h
  refine ⟨s', m2, ?_, hI⟩
  have a1 : nI i + 1 = nI (i + 1) := nI_add i 1
  have b1 := jl_in (j := 1) hL (show i + 1 < L by omega)
  have d1 := jl_ix (j := 1) hL (show i + 1 < L by omega)
  have a2 : nI i + 2 = nI (i + 2) := nI_add i 2
  have b2 := jl_in (j := 2) hL (show i + 2 < L by omega)
  have d2 := jl_ix (j := 2) hL (show i + 2 < L by omega)
  have a3 : nI i + 3 = nI (i + 3) := nI_add i 3
  have b3 := jl_in (j := 3) hL (show i + 3 < L by omega)
  have d3 := jl_ix (j := 3) hL (show i + 3 < L by omega)
  obtain ⟨-, -, -, hx, hl⟩ := h
  obtain ⟨hx1, hl1⟩ := h1
  rw [l_L_law_1527]
  simp only [hl, hl1, a1, b1, d1, a2, b2, d2, a3, b3, d3, cond_true, hx, hx1, e1, e2, jt_bi, jt_bl, jl_eq, jg_dT]
theorem jl_c44 {L i : Nat} {xs : Nat → Int32} (hL : L ≤ 3072) (hi : i + 6 ≤ L) {s : St} {m : jm_M} (h : Inv L xs s m) : ∃ s' m', jm_ev false 100 13 2 jc_L_law 1570 [v70, vX, vM, .inl (nI i)] [] m = jm_ev false 100 13 2 jc_L_law 1596 [v70, vX, vM, .inl (nI i)] [] m' ∧ Inv L xs s' m' := by
  obtain ⟨x, s', m1, m2, e1, e2, hI, h1⟩ := jl_i (c_mark) (show jm_mt[jn_X11_mark]? = some (10, 1, 1, jc_X11_mark) from rfl) (by decide) rfl h
  refine ⟨s', m2, ?_, hI⟩
  rw [l_L_law_1570, e1]
  simp only [e2, jt_bi, jt_bl, jl_eq, jg_dT, cond_true]
theorem jl_c45 {L i : Nat} {xs : Nat → Int32} (hL : L ≤ 3072) (hi : i + 6 ≤ L) {s : St} {m : jm_M} (h : Inv L xs s m) : ∃ s' m', jm_ev false 100 13 2 jc_L_law 1583 [v70, vX, vM, .inl (nI i)] [] m = jm_ev false 100 13 2 jc_L_law 1596 [v70, vX, vM, .inl (nI i)] [] m' ∧ Inv L xs s' m' := by
  obtain ⟨x, s', m1, m2, e1, e2, hI, h1⟩ := jl_i (c_back) (show jm_mt[jn_X11_back]? = some (10, 1, 1, jc_X11_back) from rfl) (by decide) rfl h
  refine ⟨s', m2, ?_, hI⟩
  rw [l_L_law_1583, e1]
  simp only [e2, jt_bi, jt_bl, jl_eq, jg_dT, cond_true]
