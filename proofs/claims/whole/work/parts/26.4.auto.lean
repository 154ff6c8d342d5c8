/-! ===== rules for the simplifier ===== -/
def jM : Int32 := -1
def jML : Int64 := -1
theorem jg_lit (n : Nat) : (OfNat.ofNat n : Int32) = nI (OfNat.ofNat n) := rfl
theorem jg_litL (n : Nat) : (OfNat.ofNat n : Int64) = lN (OfNat.ofNat n) := rfl
theorem jg_m1 : -nI 1 = jM := rfl
theorem jg_m1L : -lN 1 = jML := rfl
theorem jg_sub {a b : Nat} (h : b ≤ a) : nI a - nI b = nI (a - b) := by
  rw [Int32.sub_eq_iff_eq_add, nI_add, Nat.sub_add_cancel h]
theorem jg_subM (a : Nat) : nI a - jM = nI (a + 1) := by
  rw [Int32.sub_eq_iff_eq_add]
  exact (pk_m1 a).symm
theorem jg_addM {a : Nat} (h : 1 ≤ a) : nI a + jM = nI (a - 1) := by
  have := pk_m1 (a - 1)
  rw [Nat.sub_add_cancel h] at this
  exact this
theorem jg_addM' {a : Nat} (h : 1 ≤ a) : jM + nI a = nI (a - 1) := by rw [Int32.add_comm, jg_addM h]
theorem jg_negM : nI 0 - nI 1 = jM := rfl
theorem jg_leI {a b : Nat} (ha : a < 2 ^ 31) (hb : b < 2 ^ 31) : (nI a ≤ nI b) = (a ≤ b) := propext (nI_leI ha hb)
theorem jg_ltI {a b : Nat} (ha : a < 2 ^ 31) (hb : b < 2 ^ 31) : (nI a < nI b) = (a < b) := propext (nI_ltI ha hb)
theorem jg_eqI {a b : Nat} (ha : a < 2 ^ 31) (hb : b < 2 ^ 31) : (nI a = nI b) = (a = b) := propext (nI_eq ha hb)
theorem jg_M1 {a : Nat} (h : a < 2 ^ 31) : (nI a = jM) = False := by simp only [eq_iff_iff, iff_false]; exact jt_m1 h
theorem jg_M2 {a : Nat} (h : a < 2 ^ 31) : (jM = nI a) = False := by simp only [eq_iff_iff, iff_false]; exact fun z => jt_m1 h z.symm
theorem jg_M3 {a : Nat} (h : a < 2 ^ 31) : (jM < nI a) = True := by
  simp only [eq_iff_iff, iff_true, Int32.lt_iff_toInt_lt, nI_toInt h]
  have : jM.toInt = -1 := by decide
  omega
theorem jg_M4 {a : Nat} (h : a < 2 ^ 31) : (jM ≤ nI a) = True := by
  simp only [eq_iff_iff, iff_true, Int32.le_iff_toInt_le, nI_toInt h]
  have : jM.toInt = -1 := by decide
  omega
theorem jg_M5 {a : Nat} (h : a < 2 ^ 31) : (nI a < jM) = False := by
  simp only [eq_iff_iff, iff_false, Int32.lt_iff_toInt_lt, nI_toInt h]
  have : jM.toInt = -1 := by decide
  omega
theorem jg_M6 {a : Nat} (h : a < 2 ^ 31) : (nI a ≤ jM) = False := by
  simp only [eq_iff_iff, iff_false, Int32.le_iff_toInt_le, nI_toInt h]
  have : jM.toInt = -1 := by decide
  omega
theorem jg_dT : jm_dec True = true := jt_dt trivial
theorem jg_dF : jm_dec False = false := jt_df id
theorem jg_ltT {a b : Nat} (h : a < b) : (a < b) = True := eq_true h
theorem jg_ltF {a b : Nat} (h : b ≤ a) : (a < b) = False := eq_false (by omega)
theorem jg_leT {a b : Nat} (h : a ≤ b) : (a ≤ b) = True := eq_true h
theorem jg_leF {a b : Nat} (h : b < a) : (a ≤ b) = False := eq_false (by omega)
theorem jg_eqT {a b : Nat} (h : a = b) : (a = b) = True := eq_true h
theorem jg_eqF {a b : Nat} (h : a ≠ b) : (a = b) = False := eq_false h
theorem jg_not_lt {a b : Nat} : (¬ a < b) = (b ≤ a) := propext Nat.not_lt
theorem jg_not_le {a b : Nat} : (¬ a ≤ b) = (b < a) := propext Nat.not_le
/-- only these slots have changed -/
def fr (P : Nat → Nat → Nat → Nat → Prop) (μ μ' : jm_M) : Prop := ∀ K i j k, ¬ P K i j k → μ'.1 K i j k = μ.1 K i j k ∧ μ'.2 K i j k = μ.2 K i j k
theorem fr.rf {P : Nat → Nat → Nat → Nat → Prop} {μ : jm_M} : fr P μ μ := fun _ _ _ _ _ => ⟨rfl, rfl⟩
theorem fr.tr {P : Nat → Nat → Nat → Nat → Prop} {a b c : jm_M} (h1 : fr P a b) (h2 : fr P b c) : fr P a c := fun K i j k h => ⟨(h2 K i j k h).1.trans (h1 K i j k h).1, (h2 K i j k h).2.trans (h1 K i j k h).2⟩
theorem fr.wk {P Q : Nat → Nat → Nat → Nat → Prop} {a b : jm_M} (h : fr P a b) (hw : ∀ K i j k, P K i j k → Q K i j k) : fr Q a b := fun K i j k hq => h K i j k (fun z => hq (hw K i j k z))
theorem fr_I {P : Nat → Nat → Nat → Nat → Prop} {μ : jm_M} {K i j k : Nat} {x : Int32} (h : P K i j k) : fr P μ (jm_sI μ K i j k x) := fun K' i' j' k' hn => by
  refine ⟨?_, rfl⟩
  show jm_uI μ.1 K i j k x K' i' j' k' = _
  rw [ru_I, if_neg]
  rintro ⟨rfl, rfl, rfl, rfl⟩
  exact hn h
theorem fr_L {P : Nat → Nat → Nat → Nat → Prop} {μ : jm_M} {K i j k : Nat} {x : Int64} (h : P K i j k) : fr P μ (jm_sL μ K i j k x) := fun K' i' j' k' hn => by
  refine ⟨rfl, ?_⟩
  show jm_uL μ.2 K i j k x K' i' j' k' = _
  rw [ru_L, if_neg]
  rintro ⟨rfl, rfl, rfl, rfl⟩
  exact hn h
theorem fr_sI {P : Nat → Nat → Nat → Nat → Prop} {μ μ' : jm_M} {K i j k : Nat} {x : Int32} (h0 : fr P μ μ') (h : P K i j k) : fr P μ (jm_sI μ' K i j k x) := h0.tr (fr_I h)
theorem fr_sL {P : Nat → Nat → Nat → Nat → Prop} {μ μ' : jm_M} {K i j k : Nat} {x : Int64} (h0 : fr P μ μ') (h : P K i j k) : fr P μ (jm_sL μ' K i j k x) := h0.tr (fr_L h)
theorem fr_jk {P : Nat → Nat → Prop} {Q : Nat → Nat → Nat → Nat → Prop} {μ μ' : jm_M} (h : jk P μ μ') (hw : ∀ K i j k, P K k → Q K i j k) : fr Q μ μ' := fun K i j k hn => h K k (fun z => hn (hw K i j k z)) i j
theorem fr_jc {K0 i0 j0 : Nat} {Q : Nat → Nat → Nat → Nat → Prop} {μ μ' : jm_M} (h : jc K0 i0 j0 μ μ') (hw : ∀ k, Q K0 i0 j0 k) : fr Q μ μ' := fun K i j k hn => by
  have := h K i j (fun z => hn (by rw [z.1, z.2.1, z.2.2]; exact hw k))
  exact ⟨by rw [this.1], by rw [this.2]⟩
/-- cells of one place of the reference's long row -/
def PA (a n : Nat) (K _i _j k : Nat) : Prop := K = 41 ∧ a ≤ k ∧ k < a + n
/-- a new word's row -/
theorem sm_isGoneR {b : Nat} (hb : b + 40 ≤ 8600) (d : Nat) (m : jm_M) : jm_sem false (d + 1) jn_X12_isGone [vM, .inl (nI b)] m = some (jm_j, jm_sI (jm_sI (jm_sI m 41 0 0 b 0) 41 0 0 (b + 9) 0) 41 0 0 (b + 13) 0) := by
  simp (disch := omega) only [jg_lit, jg_litL, jg_m1, jg_m1L, nI_add, lN_add, pk_mul, jg_sub, jg_subM, jg_addM, jg_addM', jg_negM, jt_in, jt_ix, jt_bi, jt_bl, jt_bv, jt_lt, jg_dT, jg_dF, jt_c, jt_cd, ru_I, ru_L, jg_leI, jg_ltI, jg_eqI, jg_M1, jg_M2, jg_M3, jg_M4, jg_M5, jg_M6, jg_ltT, jg_ltF, jg_leT, jg_leF, jg_eqT, jg_eqF, cond_true, cond_false, ne_eq, not_true_eq_false, not_false_eq_true, decide_true, decide_false, if_true, if_false, and_true, true_and, and_false, false_and, or_true, true_or, or_false, false_or, Nat.reduceEqDiff, reduceIte, Nat.reduceMul, Nat.reduceAdd, Nat.reduceSub, Nat.add_zero, Nat.zero_add, Nat.mul_zero, eq_self_iff_true, jg_not_lt, jg_not_le, e_X12_isGone]
