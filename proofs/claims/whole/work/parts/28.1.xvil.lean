/-! ===== a VILLAGE in the class ===== -/
def xH (V : Vl) (i : Nat) (μ : jm_M) : Prop := μ.1 10 i 0 3 = nI (vlM V) ∧ μ.1 10 i 0 4 = nI (vlW V).length ∧ μ.1 10 i 0 5 = nI (vlP V) ∧ μ.1 10 i 0 6 = nI (vlD V) ∧ xL (vlR V) i μ ∧ xS (vlS V) i μ ∧ ∀ s w, s < vlP V → w < (vlW V).length → μ.2 18 i 0 (s * 12 + w) = lN (enc (vlK V s w))
def xV (V : Vl) (i : Nat) (μ : jm_M) : Prop := xH V i μ ∧ ∀ j, j < (vlW V).length → xW (gw (vlW V) j) i j μ
/-- only words of village i -/
def PW (i K i' j _k : Nat) : Prop := K = 12 ∧ i' = i ∧ j < 12
/-- only the word tried of village i -/
def PT (i K i' j _k : Nat) : Prop := K = 12 ∧ i' = i ∧ j = 12
theorem xH_k {V : Vl} {i : Nat} {μ μ' : jm_M} (h : xH V i μ) (h1 : ∀ K k, (K = 10 ∨ (13 ≤ K ∧ K ≤ 19)) → μ'.1 K i 0 k = μ.1 K i 0 k ∧ μ'.2 K i 0 k = μ.2 K i 0 k) : xH V i μ' := by
  have e10 := fun k => (h1 10 k (by omega)).1
  have e13 := fun k => (h1 13 k (by omega)).1
  have e14 := fun k => (h1 14 k (by omega)).1
  have e15 := fun k => (h1 15 k (by omega)).1
  have e16 := fun k => (h1 16 k (by omega)).1
  have e17 := fun k => (h1 17 k (by omega)).1
  have e18 := fun k => (h1 18 k (by omega)).2
  have e19 := fun k => (h1 19 k (by omega)).1
  unfold xH xL xC xS at h ⊢
  simp only [e10, e13, e14, e15, e16, e17, e18, e19]
  exact h
theorem xH_fr {V : Vl} {i : Nat} {P : Nat → Nat → Nat → Nat → Prop} {μ μ' : jm_M} (h : xH V i μ) (hf : fr P μ μ') (hp : ∀ K k, (K = 10 ∨ (13 ≤ K ∧ K ≤ 19)) → ¬ P K i 0 k) : xH V i μ' := xH_k h (fun K k hK => hf K i 0 k (hp K k hK))
theorem xW_fr {w : Wd} {i j : Nat} {P : Nat → Nat → Nat → Nat → Prop} {μ μ' : jm_M} (h : xW w i j μ) (hf : fr P μ μ') (hp : ∀ k, ¬ P 12 i j k) : xW w i j μ' := xW_k h (fun k => (hf 12 i j k (hp k)).1) (fun k => (hf 12 i j k (hp k)).2)
theorem xW_jc {w : Wd} {i j a b : Nat} {μ μ' : jm_M} (h : xW w i j μ) (hf : jc 12 a b μ μ') (hp : i ≠ a ∨ j ≠ b) : xW w i j μ' := by
  have := hf 12 i j (fun z => by omega)
  exact xW_k h (fun k => by rw [this.1]) (fun k => by rw [this.2])
theorem fr_jcW {i j : Nat} (hj : j < 12) {μ μ' : jm_M} (h : jc 12 i j μ μ') : fr (PW i) μ μ' := fr_jc h (fun _ => ⟨rfl, rfl, hj⟩)
theorem fr_jcT {i : Nat} {μ μ' : jm_M} (h : jc 12 i 12 μ μ') : fr (PT i) μ μ' := fr_jc h (fun _ => ⟨rfl, rfl, rfl⟩)
theorem xH_W {V : Vl} {i : Nat} {μ μ' : jm_M} (h : xH V i μ) (hf : fr (PW i) μ μ') : xH V i μ' := xH_fr h hf (fun K k hK z => by have := z.1; omega)
theorem xH_T {V : Vl} {i : Nat} {μ μ' : jm_M} (h : xH V i μ) (hf : fr (PT i) μ μ') : xH V i μ' := xH_fr h hf (fun K k hK z => by have := z.1; omega)
theorem xV_T {V : Vl} {i : Nat} {μ μ' : jm_M} (h : xV V i μ) (hl : (vlW V).length ≤ 12) (hf : fr (PT i) μ μ') : xV V i μ' := ⟨xH_T h.1 hf, fun j hj => xW_fr (h.2 j hj) hf (fun k z => by have := z.2.2; omega)⟩
/-- one word is another one now -/
theorem xV_set {V : Vl} {i k : Nat} {w : Wd} {μ μ' : jm_M} (h : xV V i μ) (hl : (vlW V).length ≤ 12) (hk : k < (vlW V).length) (hw : xW w i k μ') (hf : jc 12 i k μ μ') : xV (vlSet V ((vlW V).set k w)) i μ' := by
  have h1 := xH_W h.1 (fr_jcW (show k < 12 by omega) hf)
  refine ⟨⟨h1.1, by show _ = nI ((vlW V).set k w).length; rw [List.length_set]; exact h1.2.1, h1.2.2.1, h1.2.2.2.1, h1.2.2.2.2.1, h1.2.2.2.2.2.1, fun s w' hs hw => h1.2.2.2.2.2.2 s w' hs (by have : w' < ((vlW V).set k w).length := hw; rw [List.length_set] at this; exact this)⟩, fun j hj => ?_⟩
  have hj : j < ((vlW V).set k w).length := hj
  rw [List.length_set] at hj
  show xW (gw ((vlW V).set k w) j) i j μ'
  rw [gw_set _ hk]
  by_cases e : j = k
  · rw [if_pos e, e]; exact hw
  · rw [if_neg e]; exact xW_jc (h.2 j hj) hf (Or.inr e)
theorem jpl_eq {k : Nat} {b : Option Nat} (hk : k < 2 ^ 31) (hb : ∀ q, b = some q → q < 2 ^ 31) : (nI k = jpl b) ↔ some k = b := by
  cases b with
  | none =>
    constructor
    · intro z; exact absurd z (jt_m1 hk)
    · intro z; cases z
  | some q =>
    show nI k = nI q ↔ _
    rw [nI_eq hk (hb q rfl)]
    constructor
    · intro z; rw [z]
    · intro z; exact Option.some.inj z
theorem sx_alike_loop0 {V : Vl} {i : Nat} {m : jm_M} (h : xV V i m) (h12 : (vlW V).length ≤ 12) (ho : ∀ j, j < (vlW V).length → okW2 (gw (vlW V) j)) {ls : List Nat} (hl : okL ls) (h8 : ls.length ≤ 8) {but : Option Nat} (hb : ∀ q, but = some q → q < 2 ^ 31) (d : Nat) : ∀ (r k : Nat), k + r = (vlW V).length → jm_ev false (d + 1) 7 1 jc_X8_alikeTo 3 [.inr (.inr (.inl (10, i, 0))), .inr (.inl (lN (enc ls))), jm_j, .inl (jpl but), .inl (nI k)] [] m = some (.inl (jpl (alk (vlW V) ls but r k)), m)
  | 0, k, hr => by
    rw [l_X8_alikeTo_3, h.1.2.1, jt_dt (nI_le (show (vlW V).length ≤ k by omega) (by omega)), cond_true]
    rfl
  | r + 1, k, hr => by
    have hk : k < (vlW V).length := by omega
    have hx := h.2 k hk
    have hok := ho k hk
    have ih := sx_alike_loop0 h h12 ho hl h8 hb d r (k + 1) (by omega)
    rw [l_X8_alikeTo_3, h.1.2.1, jt_df (nI_ge hk (by omega)), cond_false, nI_1]
    unfold alk
    by_cases c1 : some k = but
    · rw [jt_dt ((jpl_eq (by omega) hb).mpr c1), cond_true, if_neg (fun z => z.1 c1)]
      exact ih
    · rw [jt_df (fun z => c1 ((jpl_eq (by omega) hb).mp z)), cond_false, jt_in (show k < 12 by omega) (by decide), Bool.and_true, cond_true, jt_ix (by omega), sx_isGone hx (okW_8 hok.1), jt_bi]
      by_cases c2 : wL (gw (vlW V) k) = []
      · rw [if_pos c2, show decide ((1 : Int32) ≠ 0) = true from by decide, cond_true, if_neg (fun z => z.2.1 c2)]
        exact ih
      · rw [if_neg c2, show decide ((0 : Int32) ≠ 0) = false from by decide, cond_false, cond_true, hx.1, jt_cd]
        have a40 := enc_40 hok.1.1 (okW_8 hok.1)
        have b40 := enc_40 hl h8
        by_cases c3 : wL (gw (vlW V) k) = ls
        · rw [if_neg (fun z => z ((cmp_eq (by omega) (by omega)).mpr (by rw [c3]))), if_pos ⟨c1, c2, c3⟩]
          rfl
        · rw [if_pos (fun z => c3 ((enc_inj hok.1.1 hl).mp ((cmp_eq (by omega) (by omega)).mp z))), if_neg (fun z => c3 z.2.2)]
          exact ih
theorem sx_alikeTo {V : Vl} {i : Nat} {m : jm_M} (h : xV V i m) (ho : okWs (vlW V)) {ls : List Nat} (hl : okL ls) (h8 : ls.length ≤ 8) {but : Option Nat} (hb : ∀ q, but = some q → q < 2 ^ 31) (d : Nat) : jm_sem false (d + 2) jn_X8_alikeTo [.inr (.inr (.inl (10, i, 0))), .inr (.inl (lN (enc ls))), .inl (jpl but)] m = some (.inl (jpl (alk (vlW V) ls but (vlW V).length 0)), m) := by
  rw [e_X8_alikeTo]
  exact sx_alike_loop0 h ho.1 ho.2.1 hl h8 hb d _ 0 (by omega)
theorem nI_min {a b : Nat} (ha : a < 2 ^ 31) (hb : b < 2 ^ 31) : (if nI b < nI a then nI b else nI a) = nI (min a b) := by
  by_cases c : b < a
  · rw [if_pos (nI_lt c ha), Nat.min_eq_right (by omega)]
  · rw [if_neg (nI_nlt (by omega) hb), Nat.min_eq_left (by omega)]
theorem nI_max {a b : Nat} (ha : a < 2 ^ 31) (hb : b < 2 ^ 31) : (if nI a < nI b then nI b else nI a) = nI (max a b) := by
  by_cases c : a < b
  · rw [if_pos (nI_lt c hb), Nat.max_eq_right (by omega)]
  · rw [if_neg (nI_nlt (by omega) ha), Nat.max_eq_left (by omega)]
theorem xV_2 {V : Vl} {i a b : Nat} {m m1 m2 : jm_M} {w1 w2 : Wd} (h : xV V i m) (hl : (vlW V).length ≤ 12) (ha : a < (vlW V).length) (hb : b < (vlW V).length) (hab : a ≠ b) (f1 : jc 12 i a m m1) (x1 : xW w1 i a m1) (f2 : jc 12 i b m1 m2) (x2 : xW w2 i b m2) : xV (vlSet V (((vlW V).set a w1).set b w2)) i m2 := by
  have s1 := xV_set h hl ha x1 f1
  exact xV_set s1 (by show ((vlW V).set a w1).length ≤ 12; rw [List.length_set]; exact hl) (by show b < ((vlW V).set a w1).length; rw [List.length_set]; exact hb) x2 f2
theorem sx_unite {V : Vl} {i : Nat} {m : jm_M} (h : xV V i m) (ho : (vlW V).length ≤ 12) {a b : Nat} (ha : a < (vlW V).length) (hb : b < (vlW V).length) (hab : a ≠ b) (d : Nat) : ∃ m', jm_sem false (d + 3) jn_X8_unite [.inr (.inr (.inl (10, i, 0))), .inl (nI a), .inl (nI b)] m = some (jm_j, m') ∧ xV (vlSet V (uni (vlW V) a b (nI (vlD V)))) i m' ∧ fr (PW i) m m' := by
  have hlo : min a b < (vlW V).length := by omega
  have hhi : max a b < (vlW V).length := by omega
  have hne : min a b ≠ max a b := by omega
  have e := e_X8_unite (d + 2) i (nI a) (nI b) m
  rw [nI_min (show a < 2 ^ 31 by omega) (show b < 2 ^ 31 by omega), nI_max (show a < 2 ^ 31 by omega) (show b < 2 ^ 31 by omega)] at e
  generalize hlo' : min a b = lo at *
  generalize hhi' : max a b = hi at *
  have x1 := h.2 lo hlo
  have x2 := h.2 hi hhi
  have h6 := h.1.2.2.2.1
  obtain ⟨p0, p1, p2, p3, p4, p5, p6, p7, p8, p9⟩ := x1
  have q2 := x2.2.2.1
  have q3 := x2.2.2.2.1
  simp (disch := omega) only [jt_in, jt_ix, Bool.and_true, cond_true, jt_lt, sx_keepLost, jt_bv, ru_I, ru_L, p2, p3, q2, q3, h6, true_and, and_true, and_false, if_false, if_true, jg_eqT, jg_eqF, Nat.reduceEqDiff, reduceIte, false_and] at e
  generalize hm5 : jm_sI (jm_sL _ 12 i lo 6 0) 12 i lo 7 0 = m5 at e
  have f5 : jc 12 i lo m m5 := by rw [← hm5]; exact (((((jc_I).tr jc_I).tr jc_I).tr jc_I).tr jc_L).tr jc_I
  have y1 : xW (wJoin (gw (vlW V) lo) (gw (vlW V) hi) (nI (vlD V))) i lo m5 := by
    rw [← hm5]
    unfold xW wJoin
    simp only [ru_I, ru_L]
    simp [jb, enc8, p0, p1, p8, p9, fb_orI]
    exact ⟨rfl, rfl⟩
  have y2 := xW_jc x2 f5 (Or.inr (fun z => hne z.symm))
  obtain ⟨m6, e6, z6, f6⟩ := sx_goAway y2 d
  rw [e6, jt_bv] at e
  refine ⟨m6, e, ?_, (fr_jcW (by omega) f5).tr (fr_jcW (by omega) f6)⟩
  unfold uni
  rw [hlo', hhi']
  exact xV_2 h ho hlo hhi hne f5 y1 f6 z6
theorem vlSet_set (V : Vl) (a b : List Wd) : vlSet (vlSet V a) b = vlSet V b := rfl
theorem sx_placeLostV {V : Vl} {i : Nat} {m : jm_M} (h : xH V i m) (ho : okV V) {w : Wd} {j : Nat} (hx : xW w i j m) (hw : okW2 w) (hn : wL w ≠ []) (d : Nat) : jm_sem false (d + 4) jn_X2_placeLost [.inr (.inr (.inl (13, i, 0))), .inr (.inr (.inl (12, i, j))), .inl (nI (vlD V)), .inr (.inr (.inl (19, i, 0)))] m = some (.inl (jpl (goW V w)), m) :=
  sx_placeLost hx hw.1.1 hw.2.1 (okW_8 hw.1) hn hw.1.2.2.2.1 ho.2.2.2.2.2.1 h.2.2.2.2.2.1 ho.2.2.2.2.2.2 h.2.2.2.2.1 (nI (vlD V)) d
theorem jpl_m1 {p : Option Nat} (h : ∀ q, p = some q → q < 2 ^ 31) : (jpl p = -1) ↔ p = none := by
  cases p with
  | none => exact ⟨fun _ => rfl, fun _ => rfl⟩
  | some q => exact ⟨fun z => absurd z (jt_m1 (h q rfl)), fun z => by cases z⟩
theorem sx_sayWord {V : Vl} {i : Nat} {m : jm_M} (h : xV V i m) (ho : okV V) {k : Nat} (hk : k < (vlW V).length) (hn : wL (gw (vlW V) k) ≠ []) (d : Nat) : ∃ m', jm_sem false (d + 5) jn_X8_sayWord [.inr (.inr (.inl (10, i, 0))), .inl (nI k)] m = some (.inl (nI (sayN V k)), m') ∧ xV (vlSet V (sayWs V k)) i m' ∧ fr (PW i) m m' := by
  have h12 := ho.2.2.2.1.1
  have hok := ho.2.2.2.1.2.1 k hk
  have hx := h.2 k hk
  have hlt : ∀ q, goW V (gw (vlW V) k) = some q → q < (wL (gw (vlW V) k)).length := fun q hq => goW_lt hn hq
  have h8 := okW_8 hok.1
  have h6 := h.1.2.2.2.1
  have hpl := sx_placeLostV h.1 ho hx hok hn d
  obtain ⟨m1, e1, x1, f1⟩ := sx_wear hx hok.1.1 h8 hn hlt (nI (vlD V)) (d + 1)
  have v1 := xV_set h h12 hk x1 f1
  have hw' := okW2_wear hok hn hlt ho.2.2.1
  have ok1 : ∀ j, j < ((vlW V).set k (wWear (gw (vlW V) k) (goW V (gw (vlW V) k)) (nI (vlD V)))).length → okW2 (gw ((vlW V).set k (wWear (gw (vlW V) k) (goW V (gw (vlW V) k)) (nI (vlD V)))) j) := fun j hj => by
    rw [List.length_set] at hj
    rw [gw_set _ hk]
    split
    · exact hw'
    · exact ho.2.2.2.1.2.1 j hj
  have hN : nI (sayN V k) = if goW V (gw (vlW V) k) = none then (0 : Int32) else 1 := by
    unfold sayN
    cases goW V (gw (vlW V) k) with
    | none => rfl
    | some p => rfl
  have hm1 := jpl_m1 (p := goW V (gw (vlW V) k)) (fun q hq => by have := hlt q hq; omega)
  have e := e_X8_sayWord (d + 4) i (nI k) m
  rw [jt_in (show k < 12 by omega) (by decide), Bool.and_true, cond_true, jt_ix (show k < 2 ^ 31 by omega), h6, hpl, jt_bi, cond_true, h6, e1, jt_bv, cond_true, x1.1] at e
  have hal : ∀ (d : Nat), jm_sem false (d + 2) jn_X8_alikeTo [.inr (.inr (.inl (10, i, 0))), .inr (.inl (lN (enc (wL (wWear (gw (vlW V) k) (goW V (gw (vlW V) k)) (nI (vlD V))))))), .inl (nI k)] m1 = some (.inl (jpl (alk ((vlW V).set k (wWear (gw (vlW V) k) (goW V (gw (vlW V) k)) (nI (vlD V)))) (wL (wWear (gw (vlW V) k) (goW V (gw (vlW V) k)) (nI (vlD V)))) (some k) (vlW V).length 0)), m1) := by
    intro d
    rw [e_X8_alikeTo]
    have := sx_alike_loop0 v1 (by show ((vlW V).set k _).length ≤ 12; rw [List.length_set]; exact h12) ok1 hw'.1.1 (okW_8 hw'.1) (but := some k) (fun q hq => by have := Option.some.inj hq; omega) d (vlW V).length 0 (by show 0 + _ = ((vlW V).set k _).length; rw [List.length_set]; omega)
    exact this
  rw [hal, jt_bi] at e
  unfold sayWs
  rw [hN]
  cases ha : alk ((vlW V).set k (wWear (gw (vlW V) k) (goW V (gw (vlW V) k)) (nI (vlD V)))) (wL (wWear (gw (vlW V) k) (goW V (gw (vlW V) k)) (nI (vlD V)))) (some k) (vlW V).length 0 with
  | none =>
    refine ⟨m1, ?_, v1, fr_jcW (by omega) f1⟩
    rw [e, ha, jt_dt (show jpl none = -1 from rfl), cond_true, jt_c, jt_cd]
    by_cases c : goW V (gw (vlW V) k) = none
    · rw [if_pos c, if_neg (fun z => z (hm1.mpr c))]
    · rw [if_neg c, if_pos (fun z => c (hm1.mp z))]
  | some o =>
    obtain ⟨-, o1, o2, -, -⟩ := alk_some _ _ ha
    have hok : o ≠ k := fun z => o2 (by rw [z])
    obtain ⟨m2, e2, v2, f2⟩ := sx_unite v1 (by show ((vlW V).set k _).length ≤ 12; rw [List.length_set]; exact h12) (a := k) (b := o) (by show k < ((vlW V).set k _).length; rw [List.length_set]; exact hk) (by show o < ((vlW V).set k _).length; rw [List.length_set]; omega) (fun z => hok z.symm) (d + 1)
    refine ⟨m2, ?_, v2, (fr_jcW (by omega) f1).tr f2⟩
    rw [e, ha, jt_df (show ¬ jpl (some o) = -1 from jt_m1 (by omega)), cond_false, show jpl (some o) = nI o from rfl, e2, jt_bv, jt_c, jt_cd]
    by_cases c : goW V (gw (vlW V) k) = none
    · rw [if_pos c, if_neg (fun z => z (hm1.mpr c))]
    · rw [if_neg c, if_pos (fun z => c (hm1.mp z))]
