/-! ===== say, lone, mute, lasts, spread, follows, knows, pass ===== -/
theorem lgc_lt (a b : Int64) : (lg_cmp a b < 0) ↔ a < b := by
  unfold lg_cmp
  by_cases h : a > b
  · rw [if_pos h]
    exact ⟨fun z => absurd z (by decide), fun z => absurd (Int64.lt_trans z h) Int64.lt_irrefl⟩
  · rw [if_neg h]
    by_cases e : a = b
    · rw [if_pos e]; exact ⟨fun z => absurd z (by decide), fun z => by rw [e] at z; exact absurd z Int64.lt_irrefl⟩
    · rw [if_neg e]
      refine ⟨fun _ => ?_, fun _ => by decide⟩
      have h : ¬ b < a := h
      rw [Int64.lt_iff_toInt_lt] at h ⊢
      have : a.toInt ≠ b.toInt := fun z => e (Int64.toInt_inj.mp z)
      omega
theorem lgc_gt (a b : Int64) : (0 < lg_cmp a b) ↔ b < a := by
  unfold lg_cmp
  by_cases h : a > b
  · rw [if_pos h]
    exact ⟨fun _ => h, fun _ => by decide⟩
  · rw [if_neg h]
    by_cases e : a = b
    · rw [if_pos e]; exact ⟨fun z => absurd z (by decide), fun z => absurd z h⟩
    · rw [if_neg e]; exact ⟨fun z => absurd z (by decide), fun z => absurd z h⟩
theorem sm_isFrom (d : Nat) (y a b : Int64) (m : jm_M) : jm_sem false (d + 1) jn_X12_isFrom [.inr (.inl y), .inr (.inl a), .inr (.inl b)] m = some (.inl (if y < a ∨ b < y then nI 0 else nI 1), m) := by
  rw [e_X12_isFrom, jt_cd, jt_cd]
  by_cases c : y < a
  · rw [if_pos ((lgc_lt y a).mpr c), if_pos (Or.inl c)]; rfl
  · rw [if_neg (fun z => c ((lgc_lt y a).mp z))]
    by_cases e : b < y
    · rw [if_pos ((lgc_gt y b).mpr e), if_pos (Or.inr e)]; rfl
    · rw [if_neg (fun z => e ((lgc_gt y b).mp z)), if_neg (fun z => z.elim c e)]; rfl
/-- is an int between two numbers? -/
theorem sm_isFromI {lo hi : Nat} (hlo : lo < 2 ^ 31) (hhi : hi < 2 ^ 31) (d : Nat) (x : Int32) (m : jm_M) : jm_sem false (d + 1) jn_X12_isFrom [.inr (.inl x.toInt64), .inr (.inl (lN lo)), .inr (.inl (lN hi))] m = some (.inl (if x < nI lo ∨ nI hi < x then nI 0 else nI 1), m) := by
  rw [sm_isFrom]
  have e1 : (x.toInt64 < lN lo) = (x < nI lo) := by
    rw [← nI_l hlo]
    exact propext (by rw [Int64.lt_iff_toInt_lt, Int32.lt_iff_toInt_lt, Int32.toInt_toInt64, Int32.toInt_toInt64])
  have e2 : (lN hi < x.toInt64) = (nI hi < x) := by
    rw [← nI_l hhi]
    exact propext (by rw [Int64.lt_iff_toInt_lt, Int32.lt_iff_toInt_lt, Int32.toInt_toInt64, Int32.toInt_toInt64])
  simp only [e1, e2]
theorem in_range (x : Int32) (lo hi : Nat) (hl : lo < 2 ^ 31) (hhi : hi < 2 ^ 31) : (x < nI lo ∨ nI hi < x) ∨ ∃ k : Nat, lo ≤ k ∧ k ≤ hi ∧ x = nI k := by
  by_cases h : x < nI lo ∨ nI hi < x
  · exact Or.inl h
  · refine Or.inr ?_
    have h1 : ¬ x < nI lo := fun z => h (Or.inl z)
    have h2 : ¬ nI hi < x := fun z => h (Or.inr z)
    rw [Int32.lt_iff_toInt_lt, nI_toInt hl] at h1
    rw [Int32.lt_iff_toInt_lt, nI_toInt hhi] at h2
    refine ⟨x.toInt.toNat, by omega, by omega, ?_⟩
    apply Int32.toInt_inj.mp
    rw [nI_toInt (by omega)]
    omega
theorem mF_say {V : Vl} {m m' : jm_M} (h : mF V m) (ho : okV V) {ws : List Wd} (hw : mV (vlSet V ws) 0 m') (hl : ws.length = (vlW V).length) (hf : fr (PS 0) m m') : mF (vlSet V ws) m' := ⟨hw, fun s w hs hw => by
    rw [(hf 42 0 0 _ (by unfold PS; omega)).2]
    exact h.2.1 s w hs (by rw [← hl]; exact hw), mS_fr h.2.2.1 hf (Or.inl rfl), mL_fr h.2.2.2 hf (Or.inl rfl) ho.2.2.2.2.2.2⟩
theorem mF_28 {V : Vl} {m : jm_M} (h : mF V m) (x : Int32) (ho : okV V) : mF V (jm_sI m 40 0 0 28 x) := mF_k h ho (fun k _ => by rw [rd_II, if_neg (by omega)]) (fun k _ => rfl)
theorem QM_28 {m m' : jm_M} (h : fr QM m m') (x : Int32) : fr QM m (jm_sI m' 40 0 0 28 x) := fr_sI h (by unfold QM SM; omega)
theorem c_say (x : Int32) : jcall jn_X11_say jn_X12_say [.inl x] := by
  intro s μ ho hx hm
  have h12 := ho.1.2.2.2.1.1
  rcases w_cases (aV s) h12 x with h | ⟨k, hk, rfl, hg⟩ | ⟨k, hk, rfl, hg⟩
  · refine jcall_no ho hx hm 1 (v := .inl jM) ?_ ?_
    · rw [e_X11_say, sx_wrong1 hx.1 h]
      simp (disch := omega) only [jg_lit, jg_litL, jg_m1, jg_m1L, nI_add, lN_add, pk_mul, jg_sub, jg_subM, jg_addM, jg_addM', jg_negM, jt_in, jt_ix, jt_bi, jt_bl, jt_bv, jt_lt, jg_dT, jg_dF, jt_c, jt_cd, ru_I, ru_L, jg_leI, jg_ltI, jg_eqI, jg_M1, jg_M2, jg_M3, jg_M4, jg_M5, jg_M6, jg_ltT, jg_ltF, jg_leT, jg_leF, jg_eqT, jg_eqF, cond_true, cond_false, ne_eq, not_true_eq_false, not_false_eq_true, decide_true, decide_false, if_true, if_false, and_true, true_and, and_false, false_and, or_true, true_or, or_false, false_or, Nat.reduceEqDiff, reduceIte, Nat.reduceMul, Nat.reduceAdd, Nat.reduceSub, Nat.add_zero, Nat.zero_add, Nat.mul_zero, eq_self_iff_true, jg_not_lt, jg_not_le, sx_fail]
    · rw [e_X12_say, sm_wrong1 hm.1.1 h]
      simp (disch := omega) only [jg_lit, jg_litL, jg_m1, jg_m1L, nI_add, lN_add, pk_mul, jg_sub, jg_subM, jg_addM, jg_addM', jg_negM, jt_in, jt_ix, jt_bi, jt_bl, jt_bv, jt_lt, jg_dT, jg_dF, jt_c, jt_cd, ru_I, ru_L, jg_leI, jg_ltI, jg_eqI, jg_M1, jg_M2, jg_M3, jg_M4, jg_M5, jg_M6, jg_ltT, jg_ltF, jg_leT, jg_leF, jg_eqT, jg_eqF, cond_true, cond_false, ne_eq, not_true_eq_false, not_false_eq_true, decide_true, decide_false, if_true, if_false, and_true, true_and, and_false, false_and, or_true, true_or, or_false, false_or, Nat.reduceEqDiff, reduceIte, Nat.reduceMul, Nat.reduceAdd, Nat.reduceSub, Nat.add_zero, Nat.zero_add, Nat.mul_zero, eq_self_iff_true, jg_not_lt, jg_not_le, sm_refuse]
  · refine jcall_no ho hx hm 6 (v := .inl jM) ?_ ?_
    · rw [e_X11_say, sx_wrong6 hx.1 ho.1.2.2.2.1 hk hg]
      simp (disch := omega) only [jg_lit, jg_litL, jg_m1, jg_m1L, nI_add, lN_add, pk_mul, jg_sub, jg_subM, jg_addM, jg_addM', jg_negM, jt_in, jt_ix, jt_bi, jt_bl, jt_bv, jt_lt, jg_dT, jg_dF, jt_c, jt_cd, ru_I, ru_L, jg_leI, jg_ltI, jg_eqI, jg_M1, jg_M2, jg_M3, jg_M4, jg_M5, jg_M6, jg_ltT, jg_ltF, jg_leT, jg_leF, jg_eqT, jg_eqF, cond_true, cond_false, ne_eq, not_true_eq_false, not_false_eq_true, decide_true, decide_false, if_true, if_false, and_true, true_and, and_false, false_and, or_true, true_or, or_false, false_or, Nat.reduceEqDiff, reduceIte, Nat.reduceMul, Nat.reduceAdd, Nat.reduceSub, Nat.add_zero, Nat.zero_add, Nat.mul_zero, eq_self_iff_true, jg_not_lt, jg_not_le, sx_fail]
    · rw [e_X12_say, sm_wrong6 hm.1.1 ho.1.2.2.2.1 hk hg]
      simp (disch := omega) only [jg_lit, jg_litL, jg_m1, jg_m1L, nI_add, lN_add, pk_mul, jg_sub, jg_subM, jg_addM, jg_addM', jg_negM, jt_in, jt_ix, jt_bi, jt_bl, jt_bv, jt_lt, jg_dT, jg_dF, jt_c, jt_cd, ru_I, ru_L, jg_leI, jg_ltI, jg_eqI, jg_M1, jg_M2, jg_M3, jg_M4, jg_M5, jg_M6, jg_ltT, jg_ltF, jg_leT, jg_leF, jg_eqT, jg_eqF, cond_true, cond_false, ne_eq, not_true_eq_false, not_false_eq_true, decide_true, decide_false, if_true, if_false, and_true, true_and, and_false, false_and, or_true, true_or, or_false, false_or, Nat.reduceEqDiff, reduceIte, Nat.reduceMul, Nat.reduceAdd, Nat.reduceSub, Nat.add_zero, Nat.zero_add, Nat.mul_zero, eq_self_iff_true, jg_not_lt, jg_not_le, sm_refuse]
  · obtain ⟨m1, e1, v1, f1⟩ := sx_sayWord hx.1 ho.1 hk hg 93
    obtain ⟨n1, b1, b2, b3⟩ := sm_says (s := 0) hm.1.1 (by omega) ho.1 hm.1.2.2.1 hm.1.2.2.2 hk hg 92
    have hV := okV_say ho.1 hk hg
    have hks : k < (sayWs (aV s) k).length := by rw [sayWs_len]; exact hk
    have x1 := (v1.2 k hks).2.1
    have hF := mF_28 (mF_say hm.1 ho.1 b2 (sayWs_len _ _) b3) (nI (sayN (aV s) k)) hV
    have o := sm_ofWord (k := k) (c := 0) (by omega) (by omega) 96 (jm_sI n1 40 0 0 28 (nI (sayN (aV s) k)))
    rw [sm_size hF.1 hks] at o
    refine jcall_V ho hx hm hV 0 (v := .inl (nI (wL (gw (sayWs (aV s) k) k)).length)) v1 (QX_W f1) hF (QM_28 (QM_S0 b3) _) ?_ ?_
    · rw [e_X11_say, sx_wrong0 hx.1 ho.1.2.2.2.1 hk hg]
      have x1' : m1.1 12 0 k 1 = nI (wL (gw (sayWs (aV s) k) k)).length := x1
      simp (disch := omega) only [jg_lit, jg_litL, jg_m1, jg_m1L, nI_add, lN_add, pk_mul, jg_sub, jg_subM, jg_addM, jg_addM', jg_negM, jt_in, jt_ix, jt_bi, jt_bl, jt_bv, jt_lt, jg_dT, jg_dF, jt_c, jt_cd, ru_I, ru_L, jg_leI, jg_ltI, jg_eqI, jg_M1, jg_M2, jg_M3, jg_M4, jg_M5, jg_M6, jg_ltT, jg_ltF, jg_leT, jg_leF, jg_eqT, jg_eqF, cond_true, cond_false, ne_eq, not_true_eq_false, not_false_eq_true, decide_true, decide_false, if_true, if_false, and_true, true_and, and_false, false_and, or_true, true_or, or_false, false_or, Nat.reduceEqDiff, reduceIte, Nat.reduceMul, Nat.reduceAdd, Nat.reduceSub, Nat.add_zero, Nat.zero_add, Nat.mul_zero, eq_self_iff_true, jg_not_lt, jg_not_le, sx_give, e1, Bool.and_true, x1']
    · rw [e_X12_say, sm_wrong0 hm.1.1 ho.1.2.2.2.1 hk hg]
      have o' : jm_sem false 98 jn_X12_ofWord [vM, .inl (nI k), .inl (nI 0)] (jm_sI n1 40 0 0 28 (nI (sayN (aV s) k))) = some (.inl (nI (wL (gw (sayWs (aV s) k) k)).length), jm_sI n1 40 0 0 28 (nI (sayN (aV s) k))) := o
      simp (disch := omega) only [jg_lit, jg_litL, jg_m1, jg_m1L, nI_add, lN_add, pk_mul, jg_sub, jg_subM, jg_addM, jg_addM', jg_negM, jt_in, jt_ix, jt_bi, jt_bl, jt_bv, jt_lt, jg_dT, jg_dF, jt_c, jt_cd, ru_I, ru_L, jg_leI, jg_ltI, jg_eqI, jg_M1, jg_M2, jg_M3, jg_M4, jg_M5, jg_M6, jg_ltT, jg_ltF, jg_leT, jg_leF, jg_eqT, jg_eqF, cond_true, cond_false, ne_eq, not_true_eq_false, not_false_eq_true, decide_true, decide_false, if_true, if_false, and_true, true_and, and_false, false_and, or_true, true_or, or_false, false_or, Nat.reduceEqDiff, reduceIte, Nat.reduceMul, Nat.reduceAdd, Nat.reduceSub, Nat.add_zero, Nat.zero_add, Nat.mul_zero, eq_self_iff_true, jg_not_lt, jg_not_le, sm_gives, b1, o']
theorem pop_and0 : ∀ a, a < 64 → ∀ b, b < 64 → 64 * a + b ≠ 0 → popc ((64 * a + b) &&& (64 * a + b - 1)) + 1 = popc (64 * a + b) ∧ (64 * a + b) &&& (64 * a + b - 1) < 4096 := by decide +kernel
theorem pop_and {v : Nat} (h : v < 4096) (hn : v ≠ 0) : popc (v &&& (v - 1)) + 1 = popc v ∧ v &&& (v - 1) < 4096 := by
  have := pop_and0 (v / 64) (by omega) (v % 64) (by omega)
  rw [Nat.div_add_mod] at this
  exact this hn
theorem sm_bits_loop (z : jm_V) (d : Nat) (m : jm_M) : ∀ (n v : Nat) (x : Nat), v < 4096 → popc v = n → x + n ≤ 12 → jm_ev false d 11 1 jc_X12_bits 4 [z, .inl (nI x), .inl (nI v)] [] m = some (.inl (nI (x + n)), m)
  | 0, v, x, hv, hp, hx => by
    have h0 : v = 0 := by
      by_cases e : v = 0
      · exact e
      · have := (pop_and hv e).1; omega
    subst h0
    rw [l_X12_bits_4]
    simp (disch := omega) only [jg_lit, jg_litL, jg_m1, jg_m1L, nI_add, lN_add, pk_mul, jg_sub, jg_subM, jg_addM, jg_addM', jg_negM, jt_in, jt_ix, jt_bi, jt_bl, jt_bv, jt_lt, jg_dT, jg_dF, jt_c, jt_cd, ru_I, ru_L, jg_leI, jg_ltI, jg_eqI, jg_M1, jg_M2, jg_M3, jg_M4, jg_M5, jg_M6, jg_ltT, jg_ltF, jg_leT, jg_leF, jg_eqT, jg_eqF, cond_true, cond_false, ne_eq, not_true_eq_false, not_false_eq_true, decide_true, decide_false, if_true, if_false, and_true, true_and, and_false, false_and, or_true, true_or, or_false, false_or, Nat.reduceEqDiff, reduceIte, Nat.reduceMul, Nat.reduceAdd, Nat.reduceSub, Nat.add_zero, Nat.zero_add, Nat.mul_zero, eq_self_iff_true, jg_not_lt, jg_not_le]
  | n + 1, v, x, hv, hp, hx => by
    have h00 : popc 0 = 0 := by decide
    have hn : v ≠ 0 := fun e => by rw [e] at hp; omega
    obtain ⟨p1, p2⟩ := pop_and hv hn
    rw [l_X12_bits_4]
    simp (disch := omega) only [jg_lit, jg_litL, jg_m1, jg_m1L, nI_add, lN_add, pk_mul, jg_sub, jg_subM, jg_addM, jg_addM', jg_negM, jt_in, jt_ix, jt_bi, jt_bl, jt_bv, jt_lt, jg_dT, jg_dF, jt_c, jt_cd, ru_I, ru_L, jg_leI, jg_ltI, jg_eqI, jg_M1, jg_M2, jg_M3, jg_M4, jg_M5, jg_M6, jg_ltT, jg_ltF, jg_leT, jg_leF, jg_eqT, jg_eqF, cond_true, cond_false, ne_eq, not_true_eq_false, not_false_eq_true, decide_true, decide_false, if_true, if_false, and_true, true_and, and_false, false_and, or_true, true_or, or_false, false_or, Nat.reduceEqDiff, reduceIte, Nat.reduceMul, Nat.reduceAdd, Nat.reduceSub, Nat.add_zero, Nat.zero_add, Nat.mul_zero, eq_self_iff_true, jg_not_lt, jg_not_le, fb_andI]
    rw [sm_bits_loop z d m n (v &&& (v - 1)) (x + 1) p2 (by omega) (by omega)]
    rw [show x + 1 + n = x + (n + 1) by omega]
theorem sm_bits {v : Nat} (h : v < 4096) (d : Nat) (m : jm_M) : jm_sem false (d + 1) jn_X12_bits [.inl (nI v)] m = some (.inl (nI (popc v)), m) := by
  rw [e_X12_bits]
  have := sm_bits_loop (.inl (nI v)) d m (popc v) v 0 h rfl (by have := popc_12 v; omega)
  rw [Nat.zero_add] at this
  exact this
theorem wWith_lt {ws : List Wd} (h : ws.length ≤ 12) (g : Nat) : wWith ws g < 4096 := bsW_lt _ h
def loneB (ws : List Wd) (g : Nat) : Bool := decide (popc (wWith ws g) = 1)
def muteB (ws : List Wd) (g : Nat) : Bool := decide (wWith ws g = 0)
theorem sx_lone_loop {V : Vl} {i : Nat} {m : jm_M} (h : xV V i m) (ho : okV V) (d : Nat) : ∀ (r k v : Nat), k + r = vlM V → jm_ev false (d + 2) 7 1 jc_X8_meaningsOfOne 4 [.inr (.inr (.inl (10, i, 0))), .inl (nI v), .inl (nI k)] [] m = some (.inl (nI (bsW (loneB (vlW V)) r k v)), m)
  | 0, k, v, hr => by
    have h12 := ho.1
    have h4 := h.1.1
    rw [l_X8_meaningsOfOne_4]
    simp (disch := omega) only [jg_lit, jg_litL, jg_m1, jg_m1L, nI_add, lN_add, pk_mul, jg_sub, jg_subM, jg_addM, jg_addM', jg_negM, jt_in, jt_ix, jt_bi, jt_bl, jt_bv, jt_lt, jg_dT, jg_dF, jt_c, jt_cd, ru_I, ru_L, jg_leI, jg_ltI, jg_eqI, jg_M1, jg_M2, jg_M3, jg_M4, jg_M5, jg_M6, jg_ltT, jg_ltF, jg_leT, jg_leF, jg_eqT, jg_eqF, cond_true, cond_false, ne_eq, not_true_eq_false, not_false_eq_true, decide_true, decide_false, if_true, if_false, and_true, true_and, and_false, false_and, or_true, true_or, or_false, false_or, Nat.reduceEqDiff, reduceIte, Nat.reduceMul, Nat.reduceAdd, Nat.reduceSub, Nat.add_zero, Nat.zero_add, Nat.mul_zero, eq_self_iff_true, jg_not_lt, jg_not_le, h4]
    rfl
  | r + 1, k, v, hr => by
    have h12 := ho.1
    have h4 := h.1.1
    have w := sx_wordsWith h ho.2.2.2.1 (show k < 32 by omega) d
    have hp := popc_12 (wWith (vlW V) k)
    have bc := bc_pop (wWith (vlW V) k) (wWith_lt ho.2.2.2.1.1 k)
    rw [l_X8_meaningsOfOne_4]
    unfold bsW
    by_cases c : popc (wWith (vlW V) k) = 1
    · rw [show loneB (vlW V) k = true from decide_eq_true c]
      simp (disch := omega) only [jg_lit, jg_litL, jg_m1, jg_m1L, nI_add, lN_add, pk_mul, jg_sub, jg_subM, jg_addM, jg_addM', jg_negM, jt_in, jt_ix, jt_bi, jt_bl, jt_bv, jt_lt, jg_dT, jg_dF, jt_c, jt_cd, ru_I, ru_L, jg_leI, jg_ltI, jg_eqI, jg_M1, jg_M2, jg_M3, jg_M4, jg_M5, jg_M6, jg_ltT, jg_ltF, jg_leT, jg_leF, jg_eqT, jg_eqF, cond_true, cond_false, ne_eq, not_true_eq_false, not_false_eq_true, decide_true, decide_false, if_true, if_false, and_true, true_and, and_false, false_and, or_true, true_or, or_false, false_or, Nat.reduceEqDiff, reduceIte, Nat.reduceMul, Nat.reduceAdd, Nat.reduceSub, Nat.add_zero, Nat.zero_add, Nat.mul_zero, eq_self_iff_true, jg_not_lt, jg_not_le, h4, w, s_bitCount, bc, shl_n, fb_orI]
      exact sx_lone_loop h ho d r (k + 1) (v ||| 2 ^ k) (by omega)
    · rw [show loneB (vlW V) k = false from decide_eq_false c]
      simp (disch := omega) only [jg_lit, jg_litL, jg_m1, jg_m1L, nI_add, lN_add, pk_mul, jg_sub, jg_subM, jg_addM, jg_addM', jg_negM, jt_in, jt_ix, jt_bi, jt_bl, jt_bv, jt_lt, jg_dT, jg_dF, jt_c, jt_cd, ru_I, ru_L, jg_leI, jg_ltI, jg_eqI, jg_M1, jg_M2, jg_M3, jg_M4, jg_M5, jg_M6, jg_ltT, jg_ltF, jg_leT, jg_leF, jg_eqT, jg_eqF, cond_true, cond_false, ne_eq, not_true_eq_false, not_false_eq_true, decide_true, decide_false, if_true, if_false, and_true, true_and, and_false, false_and, or_true, true_or, or_false, false_or, Nat.reduceEqDiff, reduceIte, Nat.reduceMul, Nat.reduceAdd, Nat.reduceSub, Nat.add_zero, Nat.zero_add, Nat.mul_zero, eq_self_iff_true, jg_not_lt, jg_not_le, h4, w, s_bitCount, bc]
      exact sx_lone_loop h ho d r (k + 1) v (by omega)
theorem sx_mute_loop {V : Vl} {i : Nat} {m : jm_M} (h : xV V i m) (ho : okV V) (d : Nat) : ∀ (r k v : Nat), k + r = vlM V → jm_ev false (d + 2) 7 1 jc_X8_meaningsOfNone 4 [.inr (.inr (.inl (10, i, 0))), .inl (nI v), .inl (nI k)] [] m = some (.inl (nI (bsW (muteB (vlW V)) r k v)), m)
  | 0, k, v, hr => by
    have h12 := ho.1
    have h4 := h.1.1
    rw [l_X8_meaningsOfNone_4]
    simp (disch := omega) only [jg_lit, jg_litL, jg_m1, jg_m1L, nI_add, lN_add, pk_mul, jg_sub, jg_subM, jg_addM, jg_addM', jg_negM, jt_in, jt_ix, jt_bi, jt_bl, jt_bv, jt_lt, jg_dT, jg_dF, jt_c, jt_cd, ru_I, ru_L, jg_leI, jg_ltI, jg_eqI, jg_M1, jg_M2, jg_M3, jg_M4, jg_M5, jg_M6, jg_ltT, jg_ltF, jg_leT, jg_leF, jg_eqT, jg_eqF, cond_true, cond_false, ne_eq, not_true_eq_false, not_false_eq_true, decide_true, decide_false, if_true, if_false, and_true, true_and, and_false, false_and, or_true, true_or, or_false, false_or, Nat.reduceEqDiff, reduceIte, Nat.reduceMul, Nat.reduceAdd, Nat.reduceSub, Nat.add_zero, Nat.zero_add, Nat.mul_zero, eq_self_iff_true, jg_not_lt, jg_not_le, h4]
    rfl
  | r + 1, k, v, hr => by
    have h12 := ho.1
    have h4 := h.1.1
    have w := sx_wordsWith h ho.2.2.2.1 (show k < 32 by omega) d
    have hp := wWith_lt ho.2.2.2.1.1 k
    rw [l_X8_meaningsOfNone_4]
    unfold bsW
    by_cases c : wWith (vlW V) k = 0
    · rw [show muteB (vlW V) k = true from decide_eq_true c]
      simp (disch := omega) only [jg_lit, jg_litL, jg_m1, jg_m1L, nI_add, lN_add, pk_mul, jg_sub, jg_subM, jg_addM, jg_addM', jg_negM, jt_in, jt_ix, jt_bi, jt_bl, jt_bv, jt_lt, jg_dT, jg_dF, jt_c, jt_cd, ru_I, ru_L, jg_leI, jg_ltI, jg_eqI, jg_M1, jg_M2, jg_M3, jg_M4, jg_M5, jg_M6, jg_ltT, jg_ltF, jg_leT, jg_leF, jg_eqT, jg_eqF, cond_true, cond_false, ne_eq, not_true_eq_false, not_false_eq_true, decide_true, decide_false, if_true, if_false, and_true, true_and, and_false, false_and, or_true, true_or, or_false, false_or, Nat.reduceEqDiff, reduceIte, Nat.reduceMul, Nat.reduceAdd, Nat.reduceSub, Nat.add_zero, Nat.zero_add, Nat.mul_zero, eq_self_iff_true, jg_not_lt, jg_not_le, h4, w, shl_n, fb_orI, c]
      exact sx_mute_loop h ho d r (k + 1) (v ||| 2 ^ k) (by omega)
    · rw [show muteB (vlW V) k = false from decide_eq_false c]
      simp (disch := omega) only [jg_lit, jg_litL, jg_m1, jg_m1L, nI_add, lN_add, pk_mul, jg_sub, jg_subM, jg_addM, jg_addM', jg_negM, jt_in, jt_ix, jt_bi, jt_bl, jt_bv, jt_lt, jg_dT, jg_dF, jt_c, jt_cd, ru_I, ru_L, jg_leI, jg_ltI, jg_eqI, jg_M1, jg_M2, jg_M3, jg_M4, jg_M5, jg_M6, jg_ltT, jg_ltF, jg_leT, jg_leF, jg_eqT, jg_eqF, cond_true, cond_false, ne_eq, not_true_eq_false, not_false_eq_true, decide_true, decide_false, if_true, if_false, and_true, true_and, and_false, false_and, or_true, true_or, or_false, false_or, Nat.reduceEqDiff, reduceIte, Nat.reduceMul, Nat.reduceAdd, Nat.reduceSub, Nat.add_zero, Nat.zero_add, Nat.mul_zero, eq_self_iff_true, jg_not_lt, jg_not_le, h4, w]
      exact sx_mute_loop h ho d r (k + 1) v (by omega)
theorem sm_lone_loop {V : Vl} {m : jm_M} (h : mV V 0 m) (ho : okV V) (d : Nat) : ∀ (r k v : Nat), k + r = vlM V → jm_ev false (d + 2) 11 1 jc_X12_lone 4 [vM, .inl (nI v), .inl (nI k)] [] m = some (.inl (nI (bsW (loneB (vlW V)) r k v)), jm_sI m 40 0 0 2 0)
  | 0, k, v, hr => by
    have h12 := ho.1
    have h4 := h.1
    rw [l_X12_lone_4]
    simp (disch := omega) only [jg_lit, jg_litL, jg_m1, jg_m1L, nI_add, lN_add, pk_mul, jg_sub, jg_subM, jg_addM, jg_addM', jg_negM, jt_in, jt_ix, jt_bi, jt_bl, jt_bv, jt_lt, jg_dT, jg_dF, jt_c, jt_cd, ru_I, ru_L, jg_leI, jg_ltI, jg_eqI, jg_M1, jg_M2, jg_M3, jg_M4, jg_M5, jg_M6, jg_ltT, jg_ltF, jg_leT, jg_leF, jg_eqT, jg_eqF, cond_true, cond_false, ne_eq, not_true_eq_false, not_false_eq_true, decide_true, decide_false, if_true, if_false, and_true, true_and, and_false, false_and, or_true, true_or, or_false, false_or, Nat.reduceEqDiff, reduceIte, Nat.reduceMul, Nat.reduceAdd, Nat.reduceSub, Nat.add_zero, Nat.zero_add, Nat.mul_zero, eq_self_iff_true, jg_not_lt, jg_not_le, h4, sm_gives]
    rfl
  | r + 1, k, v, hr => by
    have h12 := ho.1
    have h4 := h.1
    have w := sm_wordsOf (s := 0) h (by omega) ho.2.2.2.1 (show k < 32 by omega) d
    have hp := popc_12 (wWith (vlW V) k)
    have bc := sm_bits (wWith_lt ho.2.2.2.1.1 k) (d + 1) m
    rw [l_X12_lone_4]
    unfold bsW
    by_cases c : popc (wWith (vlW V) k) = 1
    · rw [show loneB (vlW V) k = true from decide_eq_true c]
      simp (disch := omega) only [jg_lit, jg_litL, jg_m1, jg_m1L, nI_add, lN_add, pk_mul, jg_sub, jg_subM, jg_addM, jg_addM', jg_negM, jt_in, jt_ix, jt_bi, jt_bl, jt_bv, jt_lt, jg_dT, jg_dF, jt_c, jt_cd, ru_I, ru_L, jg_leI, jg_ltI, jg_eqI, jg_M1, jg_M2, jg_M3, jg_M4, jg_M5, jg_M6, jg_ltT, jg_ltF, jg_leT, jg_leF, jg_eqT, jg_eqF, cond_true, cond_false, ne_eq, not_true_eq_false, not_false_eq_true, decide_true, decide_false, if_true, if_false, and_true, true_and, and_false, false_and, or_true, true_or, or_false, false_or, Nat.reduceEqDiff, reduceIte, Nat.reduceMul, Nat.reduceAdd, Nat.reduceSub, Nat.add_zero, Nat.zero_add, Nat.mul_zero, eq_self_iff_true, jg_not_lt, jg_not_le, h4, w, bc, shl_n, fb_orI]
      exact sm_lone_loop h ho d r (k + 1) (v ||| 2 ^ k) (by omega)
    · rw [show loneB (vlW V) k = false from decide_eq_false c]
      simp (disch := omega) only [jg_lit, jg_litL, jg_m1, jg_m1L, nI_add, lN_add, pk_mul, jg_sub, jg_subM, jg_addM, jg_addM', jg_negM, jt_in, jt_ix, jt_bi, jt_bl, jt_bv, jt_lt, jg_dT, jg_dF, jt_c, jt_cd, ru_I, ru_L, jg_leI, jg_ltI, jg_eqI, jg_M1, jg_M2, jg_M3, jg_M4, jg_M5, jg_M6, jg_ltT, jg_ltF, jg_leT, jg_leF, jg_eqT, jg_eqF, cond_true, cond_false, ne_eq, not_true_eq_false, not_false_eq_true, decide_true, decide_false, if_true, if_false, and_true, true_and, and_false, false_and, or_true, true_or, or_false, false_or, Nat.reduceEqDiff, reduceIte, Nat.reduceMul, Nat.reduceAdd, Nat.reduceSub, Nat.add_zero, Nat.zero_add, Nat.mul_zero, eq_self_iff_true, jg_not_lt, jg_not_le, h4, w, bc, or0]
      exact sm_lone_loop h ho d r (k + 1) v (by omega)
theorem sm_mute_loop {V : Vl} {m : jm_M} (h : mV V 0 m) (ho : okV V) (d : Nat) : ∀ (r k v : Nat), k + r = vlM V → jm_ev false (d + 2) 11 1 jc_X12_mute 4 [vM, .inl (nI v), .inl (nI k)] [] m = some (.inl (nI (bsW (muteB (vlW V)) r k v)), jm_sI m 40 0 0 2 0)
  | 0, k, v, hr => by
    have h12 := ho.1
    have h4 := h.1
    rw [l_X12_mute_4]
    simp (disch := omega) only [jg_lit, jg_litL, jg_m1, jg_m1L, nI_add, lN_add, pk_mul, jg_sub, jg_subM, jg_addM, jg_addM', jg_negM, jt_in, jt_ix, jt_bi, jt_bl, jt_bv, jt_lt, jg_dT, jg_dF, jt_c, jt_cd, ru_I, ru_L, jg_leI, jg_ltI, jg_eqI, jg_M1, jg_M2, jg_M3, jg_M4, jg_M5, jg_M6, jg_ltT, jg_ltF, jg_leT, jg_leF, jg_eqT, jg_eqF, cond_true, cond_false, ne_eq, not_true_eq_false, not_false_eq_true, decide_true, decide_false, if_true, if_false, and_true, true_and, and_false, false_and, or_true, true_or, or_false, false_or, Nat.reduceEqDiff, reduceIte, Nat.reduceMul, Nat.reduceAdd, Nat.reduceSub, Nat.add_zero, Nat.zero_add, Nat.mul_zero, eq_self_iff_true, jg_not_lt, jg_not_le, h4, sm_gives]
    rfl
  | r + 1, k, v, hr => by
    have h12 := ho.1
    have h4 := h.1
    have w := sm_wordsOf (s := 0) h (by omega) ho.2.2.2.1 (show k < 32 by omega) d
    have hp := wWith_lt ho.2.2.2.1.1 k
    rw [l_X12_mute_4]
    unfold bsW
    by_cases c : wWith (vlW V) k = 0
    · rw [show muteB (vlW V) k = true from decide_eq_true c]
      simp (disch := omega) only [jg_lit, jg_litL, jg_m1, jg_m1L, nI_add, lN_add, pk_mul, jg_sub, jg_subM, jg_addM, jg_addM', jg_negM, jt_in, jt_ix, jt_bi, jt_bl, jt_bv, jt_lt, jg_dT, jg_dF, jt_c, jt_cd, ru_I, ru_L, jg_leI, jg_ltI, jg_eqI, jg_M1, jg_M2, jg_M3, jg_M4, jg_M5, jg_M6, jg_ltT, jg_ltF, jg_leT, jg_leF, jg_eqT, jg_eqF, cond_true, cond_false, ne_eq, not_true_eq_false, not_false_eq_true, decide_true, decide_false, if_true, if_false, and_true, true_and, and_false, false_and, or_true, true_or, or_false, false_or, Nat.reduceEqDiff, reduceIte, Nat.reduceMul, Nat.reduceAdd, Nat.reduceSub, Nat.add_zero, Nat.zero_add, Nat.mul_zero, eq_self_iff_true, jg_not_lt, jg_not_le, h4, w, shl_n, fb_orI, c]
      exact sm_mute_loop h ho d r (k + 1) (v ||| 2 ^ k) (by omega)
    · rw [show muteB (vlW V) k = false from decide_eq_false c]
      simp (disch := omega) only [jg_lit, jg_litL, jg_m1, jg_m1L, nI_add, lN_add, pk_mul, jg_sub, jg_subM, jg_addM, jg_addM', jg_negM, jt_in, jt_ix, jt_bi, jt_bl, jt_bv, jt_lt, jg_dT, jg_dF, jt_c, jt_cd, ru_I, ru_L, jg_leI, jg_ltI, jg_eqI, jg_M1, jg_M2, jg_M3, jg_M4, jg_M5, jg_M6, jg_ltT, jg_ltF, jg_leT, jg_leF, jg_eqT, jg_eqF, cond_true, cond_false, ne_eq, not_true_eq_false, not_false_eq_true, decide_true, decide_false, if_true, if_false, and_true, true_and, and_false, false_and, or_true, true_or, or_false, false_or, Nat.reduceEqDiff, reduceIte, Nat.reduceMul, Nat.reduceAdd, Nat.reduceSub, Nat.add_zero, Nat.zero_add, Nat.mul_zero, eq_self_iff_true, jg_not_lt, jg_not_le, h4, w, or0]
      exact sm_mute_loop h ho d r (k + 1) v (by omega)
theorem c_lone : jcall jn_X11_lone jn_X12_lone [] := by
  intro s μ ho hx hm
  have l1 := sx_lone_loop hx.1 ho.1 95 (vlM (aV s)) 0 0 (by omega)
  have l2 := sm_lone_loop hm.1.1 ho.1 96 (vlM (aV s)) 0 0 (by omega)
  refine jcall_no ho hx hm 0 (v := .inl (nI (bsW (loneB (vlW (aV s))) (vlM (aV s)) 0 0))) ?_ ?_
  · rw [e_X11_lone, e_X8_meaningsOfOne]
    simp (disch := omega) only [jg_lit, jg_litL, jg_m1, jg_m1L, nI_add, lN_add, pk_mul, jg_sub, jg_subM, jg_addM, jg_addM', jg_negM, jt_in, jt_ix, jt_bi, jt_bl, jt_bv, jt_lt, jg_dT, jg_dF, jt_c, jt_cd, ru_I, ru_L, jg_leI, jg_ltI, jg_eqI, jg_M1, jg_M2, jg_M3, jg_M4, jg_M5, jg_M6, jg_ltT, jg_ltF, jg_leT, jg_leF, jg_eqT, jg_eqF, cond_true, cond_false, ne_eq, not_true_eq_false, not_false_eq_true, decide_true, decide_false, if_true, if_false, and_true, true_and, and_false, false_and, or_true, true_or, or_false, false_or, Nat.reduceEqDiff, reduceIte, Nat.reduceMul, Nat.reduceAdd, Nat.reduceSub, Nat.add_zero, Nat.zero_add, Nat.mul_zero, eq_self_iff_true, jg_not_lt, jg_not_le, l1, sx_give]
  · rw [e_X12_lone]
    exact l2
theorem c_mute : jcall jn_X11_mute jn_X12_mute [] := by
  intro s μ ho hx hm
  have l1 := sx_mute_loop hx.1 ho.1 95 (vlM (aV s)) 0 0 (by omega)
  have l2 := sm_mute_loop hm.1.1 ho.1 96 (vlM (aV s)) 0 0 (by omega)
  refine jcall_no ho hx hm 0 (v := .inl (nI (bsW (muteB (vlW (aV s))) (vlM (aV s)) 0 0))) ?_ ?_
  · rw [e_X11_mute, e_X8_meaningsOfNone]
    simp (disch := omega) only [jg_lit, jg_litL, jg_m1, jg_m1L, nI_add, lN_add, pk_mul, jg_sub, jg_subM, jg_addM, jg_addM', jg_negM, jt_in, jt_ix, jt_bi, jt_bl, jt_bv, jt_lt, jg_dT, jg_dF, jt_c, jt_cd, ru_I, ru_L, jg_leI, jg_ltI, jg_eqI, jg_M1, jg_M2, jg_M3, jg_M4, jg_M5, jg_M6, jg_ltT, jg_ltF, jg_leT, jg_leF, jg_eqT, jg_eqF, cond_true, cond_false, ne_eq, not_true_eq_false, not_false_eq_true, decide_true, decide_false, if_true, if_false, and_true, true_and, and_false, false_and, or_true, true_or, or_false, false_or, Nat.reduceEqDiff, reduceIte, Nat.reduceMul, Nat.reduceAdd, Nat.reduceSub, Nat.add_zero, Nat.zero_add, Nat.mul_zero, eq_self_iff_true, jg_not_lt, jg_not_le, l1, sx_give]
  · rw [e_X12_mute]
    exact l2
/-! ===== lasts ===== -/
def lastF (g : Nat) : Nat → Vl → Nat → Nat
  | 0, _, n => n
  | r + 1, V, n => match cheapW (vlW V) g with
    | none => n
    | some k => lastF g r (vlSet V (sayWs V k)) (n + 1)
theorem sx_out_loop {i g : Nat} (hg : g < 32) (d : Nat) : ∀ (r n : Nat) (V : Vl) (m : jm_M), n + r = 200 → okV V → xV V i m → ∃ m', jm_ev false (d + 5) 7 1 jc_X8_wearOut 8 [.inr (.inr (.inl (10, i, 0))), .inl (nI g), .inl (nI n), .inl (jpl (cheapW (vlW V) g))] [] m = some (.inl (nI (lastF g r V n)), m') ∧ fr (PW i) m m'
  | 0, n, V, m, hr, ho, h => by
    refine ⟨m, ?_, .rf⟩
    rw [l_X8_wearOut_8]
    simp (disch := omega) only [jg_lit, jg_litL, jg_m1, jg_m1L, nI_add, lN_add, pk_mul, jg_sub, jg_subM, jg_addM, jg_addM', jg_negM, jt_in, jt_ix, jt_bi, jt_bl, jt_bv, jt_lt, jg_dT, jg_dF, jt_c, jt_cd, ru_I, ru_L, jg_leI, jg_ltI, jg_eqI, jg_M1, jg_M2, jg_M3, jg_M4, jg_M5, jg_M6, jg_ltT, jg_ltF, jg_leT, jg_leF, jg_eqT, jg_eqF, cond_true, cond_false, ne_eq, not_true_eq_false, not_false_eq_true, decide_true, decide_false, if_true, if_false, and_true, true_and, and_false, false_and, or_true, true_or, or_false, false_or, Nat.reduceEqDiff, reduceIte, Nat.reduceMul, Nat.reduceAdd, Nat.reduceSub, Nat.add_zero, Nat.zero_add, Nat.mul_zero, eq_self_iff_true, jg_not_lt, jg_not_le]
    rfl
  | r + 1, n, V, m, hr, ho, h => by
    have h12 := ho.2.2.2.1.1
    unfold lastF
    cases hc : cheapW (vlW V) g with
    | none =>
      refine ⟨m, ?_, .rf⟩
      rw [l_X8_wearOut_8, show jpl none = jM from rfl]
      simp (disch := omega) only [jg_lit, jg_litL, jg_m1, jg_m1L, nI_add, lN_add, pk_mul, jg_sub, jg_subM, jg_addM, jg_addM', jg_negM, jt_in, jt_ix, jt_bi, jt_bl, jt_bv, jt_lt, jg_dT, jg_dF, jt_c, jt_cd, ru_I, ru_L, jg_leI, jg_ltI, jg_eqI, jg_M1, jg_M2, jg_M3, jg_M4, jg_M5, jg_M6, jg_ltT, jg_ltF, jg_leT, jg_leF, jg_eqT, jg_eqF, cond_true, cond_false, ne_eq, not_true_eq_false, not_false_eq_true, decide_true, decide_false, if_true, if_false, and_true, true_and, and_false, false_and, or_true, true_or, or_false, false_or, Nat.reduceEqDiff, reduceIte, Nat.reduceMul, Nat.reduceAdd, Nat.reduceSub, Nat.add_zero, Nat.zero_add, Nat.mul_zero, eq_self_iff_true, jg_not_lt, jg_not_le]
    | some k =>
      obtain ⟨hk, hn⟩ := cheapW_lt ho.2.2.2.1.2.1 hc
      obtain ⟨m1, e1, v1, f1⟩ := sx_sayWord h ho hk hn d
      have hV := okV_say ho hk hn
      have cw := sx_cheapWord v1 hV.2.2.2.1 hg (d + 2)
      obtain ⟨m2, e2, f2⟩ := sx_out_loop hg d r (n + 1) _ m1 (by omega) hV v1
      refine ⟨m2, ?_, f1.tr f2⟩
      rw [l_X8_wearOut_8, show jpl (some k) = nI k from rfl]
      simp (disch := omega) only [jg_lit, jg_litL, jg_m1, jg_m1L, nI_add, lN_add, pk_mul, jg_sub, jg_subM, jg_addM, jg_addM', jg_negM, jt_in, jt_ix, jt_bi, jt_bl, jt_bv, jt_lt, jg_dT, jg_dF, jt_c, jt_cd, ru_I, ru_L, jg_leI, jg_ltI, jg_eqI, jg_M1, jg_M2, jg_M3, jg_M4, jg_M5, jg_M6, jg_ltT, jg_ltF, jg_leT, jg_leF, jg_eqT, jg_eqF, cond_true, cond_false, ne_eq, not_true_eq_false, not_false_eq_true, decide_true, decide_false, if_true, if_false, and_true, true_and, and_false, false_and, or_true, true_or, or_false, false_or, Nat.reduceEqDiff, reduceIte, Nat.reduceMul, Nat.reduceAdd, Nat.reduceSub, Nat.add_zero, Nat.zero_add, Nat.mul_zero, eq_self_iff_true, jg_not_lt, jg_not_le, e1, cw]
      exact e2
def PS28 (s K i j k : Nat) : Prop := PS s K i j k ∨ (K = 40 ∧ k = 28)
theorem sm_last_loop {g : Nat} (hg : g < 32) {sl : Nat} (hs : sl = 3850) (d : Nat) : ∀ (r n : Nat) (V : Vl) (m : jm_M), n + r = 200 → okV V → mV V sl m → mS (vlS V) m → mL (vlR V) m → ∃ m', jm_ev false (d + 6) 11 1 jc_X12_lasts 33 [vM, .inl (nI g), .inl (nI n), .inl (jpl (cheapW (vlW V) g))] [] m = some (.inl (nI (lastF g r V n)), jm_sI m' 40 0 0 2 0) ∧ fr (PS28 sl) m m'
  | 0, n, V, m, hr, ho, h, hS, hL => by
    refine ⟨m, ?_, .rf⟩
    rw [l_X12_lasts_33, jt_c, jt_cd]
    simp (disch := omega) only [jg_lit, jg_litL, jg_m1, jg_m1L, nI_add, lN_add, pk_mul, jg_sub, jg_subM, jg_addM, jg_addM', jg_negM, jt_in, jt_ix, jt_bi, jt_bl, jt_bv, jt_lt, jg_dT, jg_dF, jt_c, jt_cd, ru_I, ru_L, jg_leI, jg_ltI, jg_eqI, jg_M1, jg_M2, jg_M3, jg_M4, jg_M5, jg_M6, jg_ltT, jg_ltF, jg_leT, jg_leF, jg_eqT, jg_eqF, cond_true, cond_false, ne_eq, not_true_eq_false, not_false_eq_true, decide_true, decide_false, if_true, if_false, and_true, true_and, and_false, false_and, or_true, true_or, or_false, false_or, Nat.reduceEqDiff, reduceIte, Nat.reduceMul, Nat.reduceAdd, Nat.reduceSub, Nat.add_zero, Nat.zero_add, Nat.mul_zero, eq_self_iff_true, jg_not_lt, jg_not_le, sm_gives, ite_self]
    rfl
  | r + 1, n, V, m, hr, ho, h, hS, hL => by
    have h12 := ho.2.2.2.1.1
    unfold lastF
    cases hc : cheapW (vlW V) g with
    | none =>
      refine ⟨m, ?_, .rf⟩
      rw [l_X12_lasts_33, show jpl none = jM from rfl]
      simp (disch := omega) only [jg_lit, jg_litL, jg_m1, jg_m1L, nI_add, lN_add, pk_mul, jg_sub, jg_subM, jg_addM, jg_addM', jg_negM, jt_in, jt_ix, jt_bi, jt_bl, jt_bv, jt_lt, jg_dT, jg_dF, jt_c, jt_cd, ru_I, ru_L, jg_leI, jg_ltI, jg_eqI, jg_M1, jg_M2, jg_M3, jg_M4, jg_M5, jg_M6, jg_ltT, jg_ltF, jg_leT, jg_leF, jg_eqT, jg_eqF, cond_true, cond_false, ne_eq, not_true_eq_false, not_false_eq_true, decide_true, decide_false, if_true, if_false, and_true, true_and, and_false, false_and, or_true, true_or, or_false, false_or, Nat.reduceEqDiff, reduceIte, Nat.reduceMul, Nat.reduceAdd, Nat.reduceSub, Nat.add_zero, Nat.zero_add, Nat.mul_zero, eq_self_iff_true, jg_not_lt, jg_not_le, sm_gives]
    | some k =>
      obtain ⟨hk, hn⟩ := cheapW_lt ho.2.2.2.1.2.1 hc
      obtain ⟨m1, e1, v1, f1⟩ := sm_says h (by omega) ho hS hL hk hn d
      have hV := okV_say ho hk hn
      have S1 := mS_fr hS f1 (Or.inr (by omega))
      have L1 := mL_fr hL f1 (Or.inr (by omega)) ho.2.2.2.2.2.2
      have v2 : mV (vlSet V (sayWs V k)) sl (jm_sI m1 40 0 0 28 (nI (sayN V k))) := mV_k v1 hV.2.2.2.1 (fun q => by rw [rd_II, if_neg (by omega)])
      have cw := sm_cheapIn v2 (by omega) hV.2.2.2.1 hg (d + 4)
      obtain ⟨m2, e2, f2⟩ := sm_last_loop hg hs d r (n + 1) _ (jm_sI m1 40 0 0 28 (nI (sayN V k))) (by omega) hV v2 (fun c h1 h2 => by rw [rd_II, if_neg (by omega)]; exact S1 c h1 h2) (mL_k L1 (fun q => by rw [rd_II, if_neg (by omega)]))
      refine ⟨m2, ?_, (fr_sI (f1.wk (fun _ _ _ _ z => Or.inl z)) (Or.inr ⟨rfl, rfl⟩)).tr f2⟩
      subst hs
      rw [l_X12_lasts_33, show jpl (some k) = nI k from rfl]
      simp (disch := omega) only [jg_lit, jg_litL, jg_m1, jg_m1L, nI_add, lN_add, pk_mul, jg_sub, jg_subM, jg_addM, jg_addM', jg_negM, jt_in, jt_ix, jt_bi, jt_bl, jt_bv, jt_lt, jg_dT, jg_dF, jt_c, jt_cd, ru_I, ru_L, jg_leI, jg_ltI, jg_eqI, jg_M1, jg_M2, jg_M3, jg_M4, jg_M5, jg_M6, jg_ltT, jg_ltF, jg_leT, jg_leF, jg_eqT, jg_eqF, cond_true, cond_false, ne_eq, not_true_eq_false, not_false_eq_true, decide_true, decide_false, if_true, if_false, and_true, true_and, and_false, false_and, or_true, true_or, or_false, false_or, Nat.reduceEqDiff, reduceIte, Nat.reduceMul, Nat.reduceAdd, Nat.reduceSub, Nat.add_zero, Nat.zero_add, Nat.mul_zero, eq_self_iff_true, jg_not_lt, jg_not_le, e1, cw]
      exact e2
theorem mF_P {V : Vl} {P : Nat → Nat → Nat → Nat → Prop} {m m' : jm_M} (h : mF V m) (ho : okV V) (hf : fr P m m') (h1 : ∀ k, k < 770 → ¬ P 41 0 0 k) (h2 : ∀ k, k < 64 → ¬ P 42 0 0 k) : mF V m' := mF_fr h ho hf h1 h2
theorem c_lasts (x : Int32) : jcall jn_X11_lasts jn_X12_lasts [.inl x] := by
  intro s μ ho hx hm
  have hM := ho.1.1
  have h12 := ho.1.2.2.2.1.1
  rcases in_cases x (show vlM (aV s) < 2 ^ 31 by omega) with h | ⟨k, hk, rfl⟩
  · refine jcall_no ho hx hm 1 (v := .inl jM) ?_ ?_
    · rw [e_X11_lasts, sx_isMeaningF hx.1.1 h]
      simp (disch := omega) only [jg_lit, jg_litL, jg_m1, jg_m1L, nI_add, lN_add, pk_mul, jg_sub, jg_subM, jg_addM, jg_addM', jg_negM, jt_in, jt_ix, jt_bi, jt_bl, jt_bv, jt_lt, jg_dT, jg_dF, jt_c, jt_cd, ru_I, ru_L, jg_leI, jg_ltI, jg_eqI, jg_M1, jg_M2, jg_M3, jg_M4, jg_M5, jg_M6, jg_ltT, jg_ltF, jg_leT, jg_leF, jg_eqT, jg_eqF, cond_true, cond_false, ne_eq, not_true_eq_false, not_false_eq_true, decide_true, decide_false, if_true, if_false, and_true, true_and, and_false, false_and, or_true, true_or, or_false, false_or, Nat.reduceEqDiff, reduceIte, Nat.reduceMul, Nat.reduceAdd, Nat.reduceSub, Nat.add_zero, Nat.zero_add, Nat.mul_zero, eq_self_iff_true, jg_not_lt, jg_not_le, sx_fail]
    · rw [e_X12_lasts, sm_isMeaningF hm.1.1 h]
      simp (disch := omega) only [jg_lit, jg_litL, jg_m1, jg_m1L, nI_add, lN_add, pk_mul, jg_sub, jg_subM, jg_addM, jg_addM', jg_negM, jt_in, jt_ix, jt_bi, jt_bl, jt_bv, jt_lt, jg_dT, jg_dF, jt_c, jt_cd, ru_I, ru_L, jg_leI, jg_ltI, jg_eqI, jg_M1, jg_M2, jg_M3, jg_M4, jg_M5, jg_M6, jg_ltT, jg_ltF, jg_leT, jg_leF, jg_eqT, jg_eqF, cond_true, cond_false, ne_eq, not_true_eq_false, not_false_eq_true, decide_true, decide_false, if_true, if_false, and_true, true_and, and_false, false_and, or_true, true_or, or_false, false_or, Nat.reduceEqDiff, reduceIte, Nat.reduceMul, Nat.reduceAdd, Nat.reduceSub, Nat.add_zero, Nat.zero_add, Nat.mul_zero, eq_self_iff_true, jg_not_lt, jg_not_le, sm_refuse]
  · obtain ⟨m1, c1, c2, c3⟩ := sx_copyV (i := 1) hx.1 ho.1 (by decide) 96
    have cw := sx_cheapWord c2 ho.1.2.2.2.1 (show k < 32 by omega) 94
    obtain ⟨m2, e2, f2⟩ := sx_out_loop (i := 1) (show k < 32 by omega) 92 200 0 (aV s) m1 (by omega) ho.1 c2
    have v1 : xV (aV s) 0 m2 := xV_fr (xV_fr hx.1 h12 c3 (fun K j q _ _ z => absurd z.1 (by decide))) h12 f2 (fun K j q _ _ z => absurd z.2.1 (by decide))
    obtain ⟨n1, l1, l2, -, l3⟩ := sm_laysV (b := 3850) hm.1.1 ho.1.2.2.2.1 (by omega) (by omega) (by omega) 97
    have F1 := mF_P hm.1 ho.1 l3 (fun k hk z => by unfold PA at z; omega) (fun k hk z => by unfold PA at z; omega)
    have cm := sm_cheapIn l2 (by omega) ho.1.2.2.2.1 (show k < 32 by omega) 96
    obtain ⟨n2, b1, b2⟩ := sm_last_loop (show k < 32 by omega) (sl := 3850) rfl 92 200 0 (aV s) n1 (by omega) ho.1 l2 F1.2.2.1 F1.2.2.2
    have F2 := mF_P F1 ho.1 b2 (fun k hk z => by unfold PS28 PS at z; omega) (fun k hk z => by unfold PS28 PS at z; omega)
    refine jcall_V ho hx hm ho.1 0 (v := .inl (nI (lastF k 200 (aV s) 0))) (ma := m2) (mb := n2) v1 ((QX_V1 c3).tr (QX_W1 f2)) F2 ((l3.wk (fun K i j q z => by unfold QM SM; unfold PA at z; omega)).tr (b2.wk (fun K i j q z => by unfold QM SM; unfold PS28 PS at z; omega))) ?_ ?_
    · rw [e_X11_lasts, sx_isMeaningT hx.1.1 hM hk]
      simp (disch := omega) only [jg_lit, jg_litL, jg_m1, jg_m1L, nI_add, lN_add, pk_mul, jg_sub, jg_subM, jg_addM, jg_addM', jg_negM, jt_in, jt_ix, jt_bi, jt_bl, jt_bv, jt_lt, jg_dT, jg_dF, jt_c, jt_cd, ru_I, ru_L, jg_leI, jg_ltI, jg_eqI, jg_M1, jg_M2, jg_M3, jg_M4, jg_M5, jg_M6, jg_ltT, jg_ltF, jg_leT, jg_leF, jg_eqT, jg_eqF, cond_true, cond_false, ne_eq, not_true_eq_false, not_false_eq_true, decide_true, decide_false, if_true, if_false, and_true, true_and, and_false, false_and, or_true, true_or, or_false, false_or, Nat.reduceEqDiff, reduceIte, Nat.reduceMul, Nat.reduceAdd, Nat.reduceSub, Nat.add_zero, Nat.zero_add, Nat.mul_zero, eq_self_iff_true, jg_not_lt, jg_not_le, c1, e_X8_wearOut, cw]
      rw [show nI 0 = nI 0 from rfl, e2]
      simp (disch := omega) only [jg_lit, jg_litL, jg_m1, jg_m1L, nI_add, lN_add, pk_mul, jg_sub, jg_subM, jg_addM, jg_addM', jg_negM, jt_in, jt_ix, jt_bi, jt_bl, jt_bv, jt_lt, jg_dT, jg_dF, jt_c, jt_cd, ru_I, ru_L, jg_leI, jg_ltI, jg_eqI, jg_M1, jg_M2, jg_M3, jg_M4, jg_M5, jg_M6, jg_ltT, jg_ltF, jg_leT, jg_leF, jg_eqT, jg_eqF, cond_true, cond_false, ne_eq, not_true_eq_false, not_false_eq_true, decide_true, decide_false, if_true, if_false, and_true, true_and, and_false, false_and, or_true, true_or, or_false, false_or, Nat.reduceEqDiff, reduceIte, Nat.reduceMul, Nat.reduceAdd, Nat.reduceSub, Nat.add_zero, Nat.zero_add, Nat.mul_zero, eq_self_iff_true, jg_not_lt, jg_not_le, sx_give]
    · rw [e_X12_lasts, sm_isMeaningT hm.1.1 hM hk]
      have l1' : jm_sem false 98 jn_X12_lays [vM, .inl (nI 0), .inl (nI 3850)] μ = some (jm_j, n1) := l1
      simp (disch := omega) only [jg_lit, jg_litL, jg_m1, jg_m1L, nI_add, lN_add, pk_mul, jg_sub, jg_subM, jg_addM, jg_addM', jg_negM, jt_in, jt_ix, jt_bi, jt_bl, jt_bv, jt_lt, jg_dT, jg_dF, jt_c, jt_cd, ru_I, ru_L, jg_leI, jg_ltI, jg_eqI, jg_M1, jg_M2, jg_M3, jg_M4, jg_M5, jg_M6, jg_ltT, jg_ltF, jg_leT, jg_leF, jg_eqT, jg_eqF, cond_true, cond_false, ne_eq, not_true_eq_false, not_false_eq_true, decide_true, decide_false, if_true, if_false, and_true, true_and, and_false, false_and, or_true, true_or, or_false, false_or, Nat.reduceEqDiff, reduceIte, Nat.reduceMul, Nat.reduceAdd, Nat.reduceSub, Nat.add_zero, Nat.zero_add, Nat.mul_zero, eq_self_iff_true, jg_not_lt, jg_not_le, l1', cm]
      exact b1
