def othN (n p : Nat) : Nat := (2 ^ n - 1) &&& (15 ^^^ 2 ^ p)
theorem oth_eq : ∀ n, n < 5 → ∀ p, p < 4 → ((nI 1 <<< (nI n &&& nI 31)) - nI 1) &&& ((nI 1 <<< (nI p &&& nI 31)) ^^^ jM) = nI (othN n p) := by decide +kernel
theorem oth_lt : ∀ n, n < 5 → ∀ p, p < 4 → othN n p < 16 := by decide +kernel
theorem oth_in0 : ∀ n, n < 5 → ∀ p, p < n → ∀ h, h < 16 → decide (nI h &&& (nI (othN n p) ^^^ jM) = nI 0) = (decide (h < 2 ^ n) && !h.testBit p) := by decide +kernel
theorem oth_in (n : Nat) (hn : n < 5) (p : Nat) (_ : p < 4) (hp : p < n) (h : Nat) (hh : h < 16) : (nI h &&& (nI (othN n p) ^^^ jM) = nI 0) ↔ (h < 2 ^ n ∧ h.testBit p = false) := by
  have := oth_in0 n hn p hp h hh
  by_cases c : nI h &&& (nI (othN n p) ^^^ jM) = nI 0
  · rw [decide_eq_true c] at this
    simp only [Bool.true_eq, Bool.and_eq_true, decide_eq_true_eq, Bool.not_eq_true'] at this
    exact ⟨fun _ => this, fun _ => c⟩
  · rw [decide_eq_false c] at this
    refine ⟨fun z => absurd z c, fun z => ?_⟩
    rw [z.2, decide_eq_true z.1] at this
    cases this
theorem oth_bit : ∀ n, n < 5 → ∀ p, p < 4 → p < n → popc (othN n p) = n - 1 ∧ othN n p < 2 ^ n ∧ (othN n p).testBit p = false := by decide +kernel
theorem oth_small {x : Int32} {o : Nat} (ho : o < 16) (h : x &&& (nI o ^^^ jM) = 0) : ∃ n : Nat, n < 16 ∧ x = nI n := by
  have hb : x.toBitVec &&& (BitVec.ofNat 32 o ^^^ BitVec.allOnes 32) = 0#32 := by
    have := congrArg Int32.toBitVec h
    exact this
  have hy : x.toBitVec = x.toBitVec &&& BitVec.ofNat 32 o := by
    apply BitVec.eq_of_getLsbD_eq
    intro i hi
    have := congrArg (fun b => BitVec.getLsbD b i) hb
    simp only [BitVec.getLsbD_and, BitVec.getLsbD_xor, BitVec.getLsbD_allOnes, BitVec.getLsbD_zero, hi, decide_true, Bool.bne_true] at this
    rw [BitVec.getLsbD_and]
    cases hx : x.toBitVec.getLsbD i
    · rfl
    · rw [hx] at this
      cases ho : (BitVec.ofNat 32 o).getLsbD i
      · rw [ho] at this; cases this
      · rfl
  have hn : x.toBitVec.toNat ≤ o := by
    have := congrArg BitVec.toNat hy
    rw [BitVec.toNat_and, BitVec.toNat_ofNat, Nat.mod_eq_of_lt (by omega)] at this
    rw [this]
    exact Nat.and_le_right
  refine ⟨x.toBitVec.toNat, by omega, ?_⟩
  apply Int32.toBitVec_inj.mp
  show x.toBitVec = BitVec.ofNat 32 x.toBitVec.toNat
  rw [BitVec.ofNat_toNat, BitVec.setWidth_eq]
theorem sx_othersThan {V : Vl} {i : Nat} {m : jm_M} (h : xH V i m) (ho : okV V) {p : Nat} (hp : p < vlP V) (d : Nat) : jm_sem false (d + 1) jn_X8_othersThan [.inr (.inr (.inl (10, i, 0))), .inl (nI p)] m = some (.inl (nI (othN (vlP V) p)), m) := by
  have h5 := h.2.2.1
  have hp4 := ho.2.1
  have e := oth_eq (vlP V) (by omega) p (by omega)
  rw [e_X8_othersThan, h5]
  exact congrArg (fun v => some ((.inl v : jm_V), m)) e
/-- hearers that can't be -/
theorem sx_othersF {V : Vl} {i : Nat} {m : jm_M} (h : xH V i m) (ho : okV V) {p : Nat} (hp : p < vlP V) {x : Int32} (hx : ¬ x &&& (nI (othN (vlP V) p) ^^^ jM) = nI 0) (d : Nat) : jm_sem false (d + 2) jn_X8_areOthers [.inr (.inr (.inl (10, i, 0))), .inl (nI p), .inl x] m = some (.inl (nI 0), m) := by
  rw [e_X8_areOthers, sx_othersThan h ho hp, jt_bi, jt_cd, if_pos (show x &&& (nI (othN (vlP V) p) ^^^ -1) ≠ 0 from hx)]
  rfl
theorem sx_othersT {V : Vl} {i : Nat} {m : jm_M} (h : xH V i m) (ho : okV V) {p : Nat} (hp : p < vlP V) {x : Int32} (hx : x &&& (nI (othN (vlP V) p) ^^^ jM) = nI 0) (d : Nat) : jm_sem false (d + 2) jn_X8_areOthers [.inr (.inr (.inl (10, i, 0))), .inl (nI p), .inl x] m = some (.inl (nI 1), m) := by
  rw [e_X8_areOthers, sx_othersThan h ho hp, jt_bi, jt_cd, if_neg (show ¬ (x &&& (nI (othN (vlP V) p) ^^^ -1) ≠ 0) from fun z => z hx)]
  rfl
theorem mF_tel {V : Vl} {m m' : jm_M} (h : mF V m) (ho : okV V) {H p w : Nat} (v : mV (telV V H p w) 0 m') (n : mN (telV V H p w) 0 m') (hf : fr (PTl 0 0 w) m m') : mF (telV V H p w) m' := by
  have hr := ho.2.2.2.2.2.2
  have key : ∀ k, k < 10 ∨ (490 ≤ k ∧ k < 770) → m'.1 41 0 0 k = m.1 41 0 0 k := fun k hk => (hf 41 0 0 k (fun z => by unfold PTl PS at z; omega)).1
  have h12 := hr.1
  have h150 := hr.2.1
  refine ⟨v, n, fun c h1 h2 => by rw [key _ (by omega)]; exact h.2.2.1 c h1 h2, by rw [key 3 (by omega)]; exact h.2.2.2.1, fun k hk => by rw [key _ (by have : k < (cs (vlR V)).length := hk; omega)]; exact h.2.2.2.2.1 k hk, fun r hr => ?_⟩
  have hr' : r < (vlR V).length := hr
  have := h.2.2.2.2.2 r hr
  rw [key _ (by omega), key _ (by omega), key _ (by omega)]
  exact this
theorem c_tell (x y z : Int32) : jcall jn_X11_tell jn_X12_tell [.inl x, .inl y, .inl z] := by
  intro s μ ho hx hm
  have h12 := ho.1.2.2.2.1.1
  have hp4 := ho.1.2.1
  have m2 : μ.1 41 0 0 2 = nI (vlP (aV s)) := hm.1.1.2.2.1
  have wr : ∃ r : Nat, (r = 0 ∨ r = 1 ∨ r = 6) ∧ jm_sem false 98 jn_X11_wrongWord [vX, .inl y] μ = some (.inl (nI r), μ) := by
    rcases w_cases (aV s) h12 y with h | ⟨k, hk, rfl, hg⟩ | ⟨k, hk, rfl, hg⟩
    · exact ⟨1, by omega, sx_wrong1 hx.1 h 96⟩
    · exact ⟨6, by omega, sx_wrong6 hx.1 ho.1.2.2.2.1 hk hg 96⟩
    · exact ⟨0, by omega, sx_wrong0 hx.1 ho.1.2.2.2.1 hk hg 96⟩
  obtain ⟨r, hr, wr⟩ := wr
  rcases in_cases x (show vlP (aV s) < 2 ^ 31 by omega) with h | ⟨p, hp, rfl⟩
  · have a := sx_isSpeakerF hx.1.1 h 97
    have b := sm_isSpeakerF hm.1.1 h 97
    refine jcall_no ho hx hm 1 (v := .inl jM) ?_ ?_
    · rw [e_X11_tell]; simp (disch := omega) only [jg_lit, jg_litL, jg_m1, jg_m1L, nI_add, lN_add, pk_mul, jg_sub, jg_subM, jg_addM, jg_addM', jg_negM, jt_in, jt_ix, jt_bi, jt_bl, jt_bv, jt_lt, jg_dT, jg_dF, jt_c, jt_cd, ru_I, ru_L, jg_leI, jg_ltI, jg_eqI, jg_M1, jg_M2, jg_M3, jg_M4, jg_M5, jg_M6, jg_ltT, jg_ltF, jg_leT, jg_leF, jg_eqT, jg_eqF, cond_true, cond_false, ne_eq, not_true_eq_false, not_false_eq_true, decide_true, decide_false, if_true, if_false, and_true, true_and, and_false, false_and, or_true, true_or, or_false, false_or, Nat.reduceEqDiff, reduceIte, Nat.reduceMul, Nat.reduceAdd, Nat.reduceSub, Nat.add_zero, Nat.zero_add, Nat.mul_zero, eq_self_iff_true, jg_not_lt, jg_not_le, wr, a, sx_fail]
    · rw [e_X12_tell]; simp (disch := omega) only [jg_lit, jg_litL, jg_m1, jg_m1L, nI_add, lN_add, pk_mul, jg_sub, jg_subM, jg_addM, jg_addM', jg_negM, jt_in, jt_ix, jt_bi, jt_bl, jt_bv, jt_lt, jg_dT, jg_dF, jt_c, jt_cd, ru_I, ru_L, jg_leI, jg_ltI, jg_eqI, jg_M1, jg_M2, jg_M3, jg_M4, jg_M5, jg_M6, jg_ltT, jg_ltF, jg_leT, jg_leF, jg_eqT, jg_eqF, cond_true, cond_false, ne_eq, not_true_eq_false, not_false_eq_true, decide_true, decide_false, if_true, if_false, and_true, true_and, and_false, false_and, or_true, true_or, or_false, false_or, Nat.reduceEqDiff, reduceIte, Nat.reduceMul, Nat.reduceAdd, Nat.reduceSub, Nat.add_zero, Nat.zero_add, Nat.mul_zero, eq_self_iff_true, jg_not_lt, jg_not_le, b, sm_refuse]
  · have a := sx_isSpeakerT hx.1.1 hp4 hp 97
    have b := sm_isSpeakerT hm.1.1 hp4 hp 97
    have hsh : nI 1 <<< (nI (vlP (aV s)) &&& nI 31) = nI (2 ^ vlP (aV s)) := shl_n _ (by omega)
    have h2p : 2 ^ vlP (aV s) ≤ 16 := Nat.pow_le_pow_right (by decide) hp4 |> Nat.le_trans <| by decide
    by_cases hz : z &&& (nI (othN (vlP (aV s)) p) ^^^ jM) = nI 0
    · have t := sx_othersT hx.1.1 ho.1 hp hz 96
      obtain ⟨H, hH, rfl⟩ := oth_small (oth_lt _ (by omega) p (by omega)) hz
      obtain ⟨hH2, hHb⟩ := (oth_in _ (by omega) p (by omega) hp H hH).mp hz
      have bt := bit_In (v := H) (c := p) (by omega) (by omega)
      rw [hHb] at bt
      rcases w_cases (aV s) h12 y with h | ⟨k, hk, rfl, hg⟩ | ⟨k, hk, rfl, hg⟩
      · have w := sx_wrong1 hx.1 h 96
        have iw := sm_isWordF hm.1.1 h 97
        refine jcall_no ho hx hm 1 (v := .inl jM) ?_ ?_
        · rw [e_X11_tell]; simp (disch := omega) only [jg_lit, jg_litL, jg_m1, jg_m1L, nI_add, lN_add, pk_mul, jg_sub, jg_subM, jg_addM, jg_addM', jg_negM, jt_in, jt_ix, jt_bi, jt_bl, jt_bv, jt_lt, jg_dT, jg_dF, jt_c, jt_cd, ru_I, ru_L, jg_leI, jg_ltI, jg_eqI, jg_M1, jg_M2, jg_M3, jg_M4, jg_M5, jg_M6, jg_ltT, jg_ltF, jg_leT, jg_leF, jg_eqT, jg_eqF, cond_true, cond_false, ne_eq, not_true_eq_false, not_false_eq_true, decide_true, decide_false, if_true, if_false, and_true, true_and, and_false, false_and, or_true, true_or, or_false, false_or, Nat.reduceEqDiff, reduceIte, Nat.reduceMul, Nat.reduceAdd, Nat.reduceSub, Nat.add_zero, Nat.zero_add, Nat.mul_zero, eq_self_iff_true, jg_not_lt, jg_not_le, w, a, t, sx_fail]
        · rw [e_X12_tell]; simp (disch := omega) only [jg_lit, jg_litL, jg_m1, jg_m1L, nI_add, lN_add, pk_mul, jg_sub, jg_subM, jg_addM, jg_addM', jg_negM, jt_in, jt_ix, jt_bi, jt_bl, jt_bv, jt_lt, jg_dT, jg_dF, jt_c, jt_cd, ru_I, ru_L, jg_leI, jg_ltI, jg_eqI, jg_M1, jg_M2, jg_M3, jg_M4, jg_M5, jg_M6, jg_ltT, jg_ltF, jg_leT, jg_leF, jg_eqT, jg_eqF, cond_true, cond_false, ne_eq, not_true_eq_false, not_false_eq_true, decide_true, decide_false, if_true, if_false, and_true, true_and, and_false, false_and, or_true, true_or, or_false, false_or, Nat.reduceEqDiff, reduceIte, Nat.reduceMul, Nat.reduceAdd, Nat.reduceSub, Nat.add_zero, Nat.zero_add, Nat.mul_zero, eq_self_iff_true, jg_not_lt, jg_not_le, b, iw, sm_refuse]
      · have w := sx_wrong6 hx.1 ho.1.2.2.2.1 hk hg 96
        have iw := sm_isWordT hm.1.1 h12 hk 97
        have o := sm_ofWord (k := k) (c := 0) (by omega) (by omega) 96 μ
        rw [sm_size hm.1.1 hk, hg] at o
        refine jcall_no ho hx hm 6 (v := .inl jM) ?_ ?_
        · rw [e_X11_tell]; simp (disch := omega) only [jg_lit, jg_litL, jg_m1, jg_m1L, nI_add, lN_add, pk_mul, jg_sub, jg_subM, jg_addM, jg_addM', jg_negM, jt_in, jt_ix, jt_bi, jt_bl, jt_bv, jt_lt, jg_dT, jg_dF, jt_c, jt_cd, ru_I, ru_L, jg_leI, jg_ltI, jg_eqI, jg_M1, jg_M2, jg_M3, jg_M4, jg_M5, jg_M6, jg_ltT, jg_ltF, jg_leT, jg_leF, jg_eqT, jg_eqF, cond_true, cond_false, ne_eq, not_true_eq_false, not_false_eq_true, decide_true, decide_false, if_true, if_false, and_true, true_and, and_false, false_and, or_true, true_or, or_false, false_or, Nat.reduceEqDiff, reduceIte, Nat.reduceMul, Nat.reduceAdd, Nat.reduceSub, Nat.add_zero, Nat.zero_add, Nat.mul_zero, eq_self_iff_true, jg_not_lt, jg_not_le, w, a, t, sx_fail]
        · rw [e_X12_tell]; simp (disch := omega) only [jg_lit, jg_litL, jg_m1, jg_m1L, nI_add, lN_add, pk_mul, jg_sub, jg_subM, jg_addM, jg_addM', jg_negM, jt_in, jt_ix, jt_bi, jt_bl, jt_bv, jt_lt, jg_dT, jg_dF, jt_c, jt_cd, ru_I, ru_L, jg_leI, jg_ltI, jg_eqI, jg_M1, jg_M2, jg_M3, jg_M4, jg_M5, jg_M6, jg_ltT, jg_ltF, jg_leT, jg_leF, jg_eqT, jg_eqF, cond_true, cond_false, ne_eq, not_true_eq_false, not_false_eq_true, decide_true, decide_false, if_true, if_false, and_true, true_and, and_false, false_and, or_true, true_or, or_false, false_or, Nat.reduceEqDiff, reduceIte, Nat.reduceMul, Nat.reduceAdd, Nat.reduceSub, Nat.add_zero, Nat.zero_add, Nat.mul_zero, eq_self_iff_true, jg_not_lt, jg_not_le, b, iw, m2, hsh, bt, bI_F, o, List.length_nil, sm_refuse]
      · have w := sx_wrong0 hx.1 ho.1.2.2.2.1 hk hg 96
        have iw := sm_isWordT hm.1.1 h12 hk 97
        have h8 := okW_8 (ho.1.2.2.2.1.2.1 k hk).1
        have hl : 0 < (wL (gw (vlW (aV s)) k)).length := List.length_pos_iff.mpr hg
        have o := sm_ofWord (k := k) (c := 0) (by omega) (by omega) 96 μ
        rw [sm_size hm.1.1 hk] at o
        obtain ⟨m1, e1, v1, f1⟩ := sx_tellWord ho.1 hk hg hp hH hx.1 92
        obtain ⟨n1, b1, b2, b3, b4⟩ := sm_tells (s := 0) (l := 0) (Or.inl rfl) (by omega) (by omega) ho.1 hk hg hp hH hm.1.1 hm.1.2.2.1 hm.1.2.2.2 hm.1.2.1 91
        refine jcall_V ho hx hm (okV_tel ho.1 hk hg H p) 0 (v := .inl (nI (telN (aV s) H k))) v1 (f1.wk (fun K i j q z => by unfold QX SO; unfold PWK at z; omega)) (mF_tel hm.1 ho.1 b2 b3 b4) (b4.wk (fun K i j q z => by unfold QM SM; unfold PTl PS at z; omega)) ?_ ?_
        · rw [e_X11_tell]; simp (disch := omega) only [jg_lit, jg_litL, jg_m1, jg_m1L, nI_add, lN_add, pk_mul, jg_sub, jg_subM, jg_addM, jg_addM', jg_negM, jt_in, jt_ix, jt_bi, jt_bl, jt_bv, jt_lt, jg_dT, jg_dF, jt_c, jt_cd, ru_I, ru_L, jg_leI, jg_ltI, jg_eqI, jg_M1, jg_M2, jg_M3, jg_M4, jg_M5, jg_M6, jg_ltT, jg_ltF, jg_leT, jg_leF, jg_eqT, jg_eqF, cond_true, cond_false, ne_eq, not_true_eq_false, not_false_eq_true, decide_true, decide_false, if_true, if_false, and_true, true_and, and_false, false_and, or_true, true_or, or_false, false_or, Nat.reduceEqDiff, reduceIte, Nat.reduceMul, Nat.reduceAdd, Nat.reduceSub, Nat.add_zero, Nat.zero_add, Nat.mul_zero, eq_self_iff_true, jg_not_lt, jg_not_le, w, a, t, e1, sx_give]
        · rw [e_X12_tell]
          have b1' : jm_sem false 98 jn_X12_tells [vM, .inl (nI 0), .inl (nI 0), .inl (nI p), .inl (nI k), .inl (nI H)] μ = some (.inl (nI (telN (aV s) H k)), n1) := b1
          simp (disch := omega) only [jg_lit, jg_litL, jg_m1, jg_m1L, nI_add, lN_add, pk_mul, jg_sub, jg_subM, jg_addM, jg_addM', jg_negM, jt_in, jt_ix, jt_bi, jt_bl, jt_bv, jt_lt, jg_dT, jg_dF, jt_c, jt_cd, ru_I, ru_L, jg_leI, jg_ltI, jg_eqI, jg_M1, jg_M2, jg_M3, jg_M4, jg_M5, jg_M6, jg_ltT, jg_ltF, jg_leT, jg_leF, jg_eqT, jg_eqF, cond_true, cond_false, ne_eq, not_true_eq_false, not_false_eq_true, decide_true, decide_false, if_true, if_false, and_true, true_and, and_false, false_and, or_true, true_or, or_false, false_or, Nat.reduceEqDiff, reduceIte, Nat.reduceMul, Nat.reduceAdd, Nat.reduceSub, Nat.add_zero, Nat.zero_add, Nat.mul_zero, eq_self_iff_true, jg_not_lt, jg_not_le, b, iw, m2, hsh, bt, bI_F, o, b1', sm_gives]
    · have t := sx_othersF hx.1.1 ho.1 hp hz 96
      refine jcall_no ho hx hm 1 (v := .inl jM) ?_ ?_
      · rw [e_X11_tell]; simp (disch := omega) only [jg_lit, jg_litL, jg_m1, jg_m1L, nI_add, lN_add, pk_mul, jg_sub, jg_subM, jg_addM, jg_addM', jg_negM, jt_in, jt_ix, jt_bi, jt_bl, jt_bv, jt_lt, jg_dT, jg_dF, jt_c, jt_cd, ru_I, ru_L, jg_leI, jg_ltI, jg_eqI, jg_M1, jg_M2, jg_M3, jg_M4, jg_M5, jg_M6, jg_ltT, jg_ltF, jg_leT, jg_leF, jg_eqT, jg_eqF, cond_true, cond_false, ne_eq, not_true_eq_false, not_false_eq_true, decide_true, decide_false, if_true, if_false, and_true, true_and, and_false, false_and, or_true, true_or, or_false, false_or, Nat.reduceEqDiff, reduceIte, Nat.reduceMul, Nat.reduceAdd, Nat.reduceSub, Nat.add_zero, Nat.zero_add, Nat.mul_zero, eq_self_iff_true, jg_not_lt, jg_not_le, wr, a, t, sx_fail]
      · rw [e_X12_tell]
        rcases in_cases y (show (vlW (aV s)).length < 2 ^ 31 by omega) with h | ⟨k, hk, rfl⟩
        · have iw := sm_isWordF hm.1.1 h 97
          simp (disch := omega) only [jg_lit, jg_litL, jg_m1, jg_m1L, nI_add, lN_add, pk_mul, jg_sub, jg_subM, jg_addM, jg_addM', jg_negM, jt_in, jt_ix, jt_bi, jt_bl, jt_bv, jt_lt, jg_dT, jg_dF, jt_c, jt_cd, ru_I, ru_L, jg_leI, jg_ltI, jg_eqI, jg_M1, jg_M2, jg_M3, jg_M4, jg_M5, jg_M6, jg_ltT, jg_ltF, jg_leT, jg_leF, jg_eqT, jg_eqF, cond_true, cond_false, ne_eq, not_true_eq_false, not_false_eq_true, decide_true, decide_false, if_true, if_false, and_true, true_and, and_false, false_and, or_true, true_or, or_false, false_or, Nat.reduceEqDiff, reduceIte, Nat.reduceMul, Nat.reduceAdd, Nat.reduceSub, Nat.add_zero, Nat.zero_add, Nat.mul_zero, eq_self_iff_true, jg_not_lt, jg_not_le, b, iw, sm_refuse]
        · have iw := sm_isWordT hm.1.1 h12 hk 97
          by_cases c : z < 0
          · rw [dec_T c]; simp (disch := omega) only [jg_lit, jg_litL, jg_m1, jg_m1L, nI_add, lN_add, pk_mul, jg_sub, jg_subM, jg_addM, jg_addM', jg_negM, jt_in, jt_ix, jt_bi, jt_bl, jt_bv, jt_lt, jg_dT, jg_dF, jt_c, jt_cd, ru_I, ru_L, jg_leI, jg_ltI, jg_eqI, jg_M1, jg_M2, jg_M3, jg_M4, jg_M5, jg_M6, jg_ltT, jg_ltF, jg_leT, jg_leF, jg_eqT, jg_eqF, cond_true, cond_false, ne_eq, not_true_eq_false, not_false_eq_true, decide_true, decide_false, if_true, if_false, and_true, true_and, and_false, false_and, or_true, true_or, or_false, false_or, Nat.reduceEqDiff, reduceIte, Nat.reduceMul, Nat.reduceAdd, Nat.reduceSub, Nat.add_zero, Nat.zero_add, Nat.mul_zero, eq_self_iff_true, jg_not_lt, jg_not_le, b, iw, sm_refuse]
          · rw [dec_F c]
            obtain ⟨H, hH, rfl⟩ := nI_of c
            by_cases c2 : H < 2 ^ vlP (aV s)
            · have hHb : ¬ H.testBit p = false := fun q => hz ((oth_in _ (by omega) p (by omega) hp H (by omega)).mpr ⟨c2, q⟩)
              have hHb : H.testBit p = true := by cases e : H.testBit p; exact absurd e hHb; rfl
              have bt := bit_In (v := H) (c := p) (by omega) (by omega)
              rw [hHb] at bt
              simp (disch := omega) only [jg_lit, jg_litL, jg_m1, jg_m1L, nI_add, lN_add, pk_mul, jg_sub, jg_subM, jg_addM, jg_addM', jg_negM, jt_in, jt_ix, jt_bi, jt_bl, jt_bv, jt_lt, jg_dT, jg_dF, jt_c, jt_cd, ru_I, ru_L, jg_leI, jg_ltI, jg_eqI, jg_M1, jg_M2, jg_M3, jg_M4, jg_M5, jg_M6, jg_ltT, jg_ltF, jg_leT, jg_leF, jg_eqT, jg_eqF, cond_true, cond_false, ne_eq, not_true_eq_false, not_false_eq_true, decide_true, decide_false, if_true, if_false, and_true, true_and, and_false, false_and, or_true, true_or, or_false, false_or, Nat.reduceEqDiff, reduceIte, Nat.reduceMul, Nat.reduceAdd, Nat.reduceSub, Nat.add_zero, Nat.zero_add, Nat.mul_zero, eq_self_iff_true, jg_not_lt, jg_not_le, b, iw, m2, hsh, bt, bI_T, sm_refuse]
            · simp (disch := omega) only [jg_lit, jg_litL, jg_m1, jg_m1L, nI_add, lN_add, pk_mul, jg_sub, jg_subM, jg_addM, jg_addM', jg_negM, jt_in, jt_ix, jt_bi, jt_bl, jt_bv, jt_lt, jg_dT, jg_dF, jt_c, jt_cd, ru_I, ru_L, jg_leI, jg_ltI, jg_eqI, jg_M1, jg_M2, jg_M3, jg_M4, jg_M5, jg_M6, jg_ltT, jg_ltF, jg_leT, jg_leF, jg_eqT, jg_eqF, cond_true, cond_false, ne_eq, not_true_eq_false, not_false_eq_true, decide_true, decide_false, if_true, if_false, and_true, true_and, and_false, false_and, or_true, true_or, or_false, false_or, Nat.reduceEqDiff, reduceIte, Nat.reduceMul, Nat.reduceAdd, Nat.reduceSub, Nat.add_zero, Nat.zero_add, Nat.mul_zero, eq_self_iff_true, jg_not_lt, jg_not_le, b, iw, m2, hsh, sm_refuse]
