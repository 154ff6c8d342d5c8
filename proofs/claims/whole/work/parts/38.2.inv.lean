/-! ===== the law's loop: what holds ahead of each call ===== -/
/-- the script -/
def scr (L : Nat) (xs : Nat → Int32) (m : jm_M) : Prop := (∀ k, m.1 70 0 0 k = xs k) ∧ (m.1 70 0 1 0).toNatClampNeg = L
def Inv (L : Nat) (xs : Nat → Int32) (s : St) (m : jm_M) : Prop := okA s ∧ xA s m ∧ mA s m ∧ scr L xs m
theorem xA_eq {s : St} {μ μ' : jm_M} (ho : okA s) (h : xA s μ) (he : ∀ K i j, K < 40 → μ'.1 K i j = μ.1 K i j ∧ μ'.2 K i j = μ.2 K i j) : xA s μ' := by
  have l12 := ho.1.2.2.2.1.1
  have f : fr (fun K _ _ _ => 40 ≤ K) μ μ' := fun K i j k hK => ⟨congrFun (he K i j (by omega)).1 k, congrFun (he K i j (by omega)).2 k⟩
  exact ⟨xV_fr h.1 l12 f (fun K j k hK hj z => by omega), xO_k h.2 ho (fun K i j k hS => f K i j k (by unfold SO at hS; omega))⟩
theorem mA_eq {s : St} {μ μ' : jm_M} (ho : okA s) (h : mA s μ) (he : ∀ K i j, 40 ≤ K → μ'.1 K i j = μ.1 K i j ∧ μ'.2 K i j = μ.2 K i j) : mA s μ' := by
  have f : fr (fun K _ _ _ => K < 40) μ μ' := fun K i j k hK => ⟨congrFun (he K i j (by omega)).1 k, congrFun (he K i j (by omega)).2 k⟩
  exact ⟨mF_k h.1 ho.1 (fun k _ => (f 41 0 0 k (by omega)).1) (fun k _ => (f 42 0 0 k (by omega)).2), mO_k h.2 ho (fun K i j k hS => f K i j k (by unfold SM at hS; omega))⟩
theorem scr_eq {L : Nat} {xs : Nat → Int32} {μ μ' : jm_M} (h : scr L xs μ) (he : ∀ j, μ'.1 70 0 j = μ.1 70 0 j) : scr L xs μ' := ⟨fun k => by rw [he]; exact h.1 k, by rw [he]; exact h.2⟩
theorem jl_two {L : Nat} {xs : Nat → Int32} {kX kM : Nat} {as : List jm_V} {s : St} {m : jm_M} (hc : jcall kX kM as) (hn : jp_nr as) (h : Inv L xs s m) : ∃ v s' m1 m2, jm_sem false 100 kX (vX :: as) m = some (v, m1) ∧ jm_sem false 100 kM (vM :: as) m1 = some (v, m2) ∧ Inv L xs s' m2 ∧ scr L xs m1 := by
  obtain ⟨ho, hx, hm, hs⟩ := h
  obtain ⟨v, s', μa, μb, o', e1, e2, x', m'⟩ := hc s m ho hx hm
  obtain ⟨p1, p2, p3⟩ := jp_pair hn e1 e2
  refine ⟨v, s', μa, jp_2 μa μb, jm_sem_deep (by decide) e1, jm_sem_deep (by decide) p1, ⟨o', xA_eq o' x' (fun K i j hK => jp_2X hK i j), mA_eq o' m' (fun K i j hK => jp_2M hK i j), scr_eq hs (fun j => ?_)⟩, scr_eq hs (fun j => (p2 70 0 j (by decide)).1)⟩
  rw [(jp_2M (μa := μa) (μb := μb) (show 40 ≤ 70 by decide) 0 j).1, (p3 70 0 j (Or.inr (by decide))).1]
theorem jl_i {L : Nat} {xs : Nat → Int32} {kX kM c rt mx : Nat} {cd : jm_Cd} {as : List jm_V} {s : St} {m : jm_M} (hc : jcall kX kM as) (hk : jm_mt[kX]? = some (c, rt, mx, cd)) (hr : 1 ≤ rt ∧ rt ≤ 4) (hn : jp_nr as) (h : Inv L xs s m) : ∃ x s' m1 m2, jm_sem false 100 kX (vX :: as) m = some (.inl x, m1) ∧ jm_sem false 100 kM (vM :: as) m1 = some (.inl x, m2) ∧ Inv L xs s' m2 ∧ scr L xs m1 := by
  obtain ⟨v, s', m1, m2, e1, e2, e3, e4⟩ := jl_two hc hn h
  obtain ⟨x, rfl⟩ := (jr_sem hk e1).2 hr
  exact ⟨x, s', m1, m2, e1, e2, e3, e4⟩
theorem jl_l {L : Nat} {xs : Nat → Int32} {kX kM c rt mx : Nat} {cd : jm_Cd} {as : List jm_V} {s : St} {m : jm_M} (hc : jcall kX kM as) (hk : jm_mt[kX]? = some (c, rt, mx, cd)) (hr : rt = 5) (hn : jp_nr as) (h : Inv L xs s m) : ∃ x s' m1 m2, jm_sem false 100 kX (vX :: as) m = some (.inr (.inl x), m1) ∧ jm_sem false 100 kM (vM :: as) m1 = some (.inr (.inl x), m2) ∧ Inv L xs s' m2 ∧ scr L xs m1 := by
  obtain ⟨v, s', m1, m2, e1, e2, e3, e4⟩ := jl_two hc hn h
  obtain ⟨x, rfl⟩ := (jr_sem hk e1).1 hr
  exact ⟨x, s', m1, m2, e1, e2, e3, e4⟩
abbrev v70 : jm_V := .inr (.inr (.inl (70, 0, 0)))
theorem jl_eq (x : Int32) : jm_dec (x = x) = true := jt_dt rfl
theorem jl_cmp (x : Int64) : decide (lg_cmp x x = 0) = true := by
  have e : (lg_cmp x x = nI 0) = (x = x) := lc_eq x x
  exact decide_eq_true (show lg_cmp x x = nI 0 by rw [e])
theorem jl_in {i j L : Nat} (hL : L ≤ 3072) (h : i + j < L) : jm_dec (vp_in (nI (i + j)) L) = true := jt_in h (by omega)
theorem jl_ix {i j L : Nat} (hL : L ≤ 3072) (h : i + j < L) : jm_ix (nI (i + j)) = i + j := jt_ix (by omega)
