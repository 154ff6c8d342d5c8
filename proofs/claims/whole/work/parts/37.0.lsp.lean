/-! ===== a LAW's text: what it says ===== -/
/-- position, how many asked, code -/
abbrev Lq : Type := Nat × Nat × List Ck
def lqE (s : Lq) (k : Nat) : Lq := (s.1, s.2.1, s.2.2 ++ [(k, 0)])
def lqX (T : Tb) (s : Lq) : Lq := (tkX T s.1, s.2.1, s.2.2)
def askN (j : Nat) : Option Nat := if 10 ≤ j ∧ j ≤ 13 then some (j - 10) else if 15 ≤ j ∧ j ≤ 18 then some (j - 11) else none
def askK (T : Tb) (a : Nat) : Option Nat := (tkY T a).bind askN
def whN (j : Nat) : Option Nat := if j = 19 then some 0 else if j = 20 then some 1 else if j = 4 then some 2 else if j = 21 then some 3 else if j = 22 then some 4 else if j = 14 then some 5 else if j = 23 then some 6 else none
def whK (T : Tb) (a : Nat) : Option Nat := (tkY T a).bind whN
def cmpK (T : Tb) (a : Nat) : Option Nat := if isSgn T 60 a = true then some 0 else if isSgn T 62 a = true then some 1 else if isSgn T 61 a = true then some 2 else none
/-- behind shared, begins, ends, has or a CASE -/
def lAsk (T : Tb) (k a : Nat) (C : List Ck) : Ft ⊕ (Nat × List Ck) :=
  if k = 0 then .inr (a, C ++ [(0, 0)]) else
  if k ≤ 3 then (if tkY T a = some 14 then .inr (tkX T a, C ++ [(k, 0)]) else if tkK T a = 1 ∧ (tkL T a).length = 1 then .inr (tkX T a, C ++ [(k, (tkL T a).getD 0 0)]) else .inl (flt T a)) else
  match cmpK T a with
  | none => .inl (flt T a)
  | some s => if tkK T (tkX T a) ≠ 2 then .inl (flt T (tkX T a)) else if 99 < tkN T (tkX T a) then .inl (4, tkX T a) else .inr (tkX T (tkX T a), C ++ [(k, tkN T (tkX T a) * 4 + s)])
def lOneA (T : Tb) (w : Nat) (s : Lq) (k : Nat) : Ft ⊕ Lq := if 24 ≤ s.2.1 then .inl (6, s.1) else if 6 ≤ w then .inl (7, s.1) else
  match lAsk T k (tkX T s.1) s.2.2 with
  | .inl f => .inl f
  | .inr e => .inr (e.1, s.2.1 + 1, e.2)
def bnd (x : Ft ⊕ Lq) (f : Lq → Ft ⊕ Lq) : Ft ⊕ Lq := match x with
  | .inl e => .inl e
  | .inr t => f t
def lCl (T : Tb) (t : Lq) : Ft ⊕ Lq := if isSgn T 41 t.1 = true then .inr (lqX T t) else .inl (flt T t.1)
/-- 0 ONE, 1 BOTH, 2 EITHER, 3 {and ONE}, 4 {or BOTH}; w: not and brackets around -/
def lP (T : Tb) : Nat → Nat → Nat → Lq → Ft ⊕ Lq
  | 0, _, _, s => .inl (2, s.1)
  | r + 1, 0, w, s => match askK T s.1 with
    | some k => lOneA T w s k
    | none => if tkY T s.1 = some 9 then (if 6 ≤ w then .inl (7, s.1) else bnd (lP T r 0 (w + 1) (lqX T s)) (fun t => .inr (lqE t 8))) else if isSgn T 40 s.1 = true then (if 6 ≤ w then .inl (7, s.1) else bnd (lP T r 2 (w + 1) (lqX T s)) (lCl T)) else .inl (flt T s.1)
  | r + 1, 1, w, s => bnd (lP T r 0 w s) (fun t => lP T r 3 w t)
  | r + 1, 2, w, s => bnd (lP T r 1 w s) (fun t => lP T r 4 w t)
  | r + 1, 3, w, s => if tkY T s.1 = some 8 then bnd (lP T r 0 w (lqX T s)) (fun t => lP T r 3 w (lqE t 9)) else .inr s
  | r + 1, _, w, s => if tkY T s.1 = some 7 then bnd (lP T r 1 w (lqX T s)) (fun t => lP T r 4 w (lqE t 10)) else .inr s
theorem lP_z {T : Tb} {q w : Nat} {s t : Lq} (h : lP T 0 q w s = .inr t) : False := by
  have h : (Sum.inl (2, s.1) : Ft ⊕ Lq) = .inr t := h
  cases h
theorem lP_0 (T : Tb) (r w : Nat) (s : Lq) : lP T (r + 1) 0 w s = match askK T s.1 with
    | some k => lOneA T w s k
    | none => if tkY T s.1 = some 9 then (if 6 ≤ w then .inl (7, s.1) else bnd (lP T r 0 (w + 1) (lqX T s)) (fun t => .inr (lqE t 8))) else if isSgn T 40 s.1 = true then (if 6 ≤ w then .inl (7, s.1) else bnd (lP T r 2 (w + 1) (lqX T s)) (lCl T)) else .inl (flt T s.1) := rfl
theorem lP_1 (T : Tb) (r w : Nat) (s : Lq) : lP T (r + 1) 1 w s = bnd (lP T r 0 w s) (fun t => lP T r 3 w t) := rfl
theorem lP_2 (T : Tb) (r w : Nat) (s : Lq) : lP T (r + 1) 2 w s = bnd (lP T r 1 w s) (fun t => lP T r 4 w t) := rfl
theorem lP_3 (T : Tb) (r w : Nat) (s : Lq) : lP T (r + 1) 3 w s = if tkY T s.1 = some 8 then bnd (lP T r 0 w (lqX T s)) (fun t => lP T r 3 w (lqE t 9)) else .inr s := rfl
theorem lP_4 (T : Tb) (r w : Nat) (s : Lq) : lP T (r + 1) 4 w s = if tkY T s.1 = some 7 then bnd (lP T r 1 w (lqX T s)) (fun t => lP T r 4 w (lqE t 10)) else .inr s := rfl
theorem bnd_r {x : Ft ⊕ Lq} {f : Lq → Ft ⊕ Lq} {t : Lq} (h : bnd x f = .inr t) : ∃ u, x = .inr u ∧ f u = .inr t := by
  cases x with
  | inl e =>
    have h : (Sum.inl e : Ft ⊕ Lq) = .inr t := h
    cases h
  | inr u => exact ⟨u, rfl, h⟩
/-! ===== what holds of it ===== -/
theorem kx_2 : ∀ j, j < 24 → 2 ≤ (keysX.getD j []).length := by decide +kernel
theorem tkY_2 {T : Tb} {a j : Nat} (h : tkY T a = some j) : a + 2 ≤ tkX T a ∧ tkX T a ≤ T.1 ∧ j < 24 := by
  have lt := tk_lt (T := T) (a := a) (fun z => by rw [h] at z; cases z)
  have h1 := tkE_le (Nat.le_of_lt lt)
  have h2 := tkS_le h1
  unfold tkY at h
  split at h
  · obtain ⟨h3, h4⟩ := kx_some h
    have h5 := kx_2 j h3
    rw [h4, tkL_len] at h5
    exact ⟨by unfold tkX; omega, h2.2, h3⟩
  · cases h
theorem tkX_ge {T : Tb} {a : Nat} (h : a ≤ T.1) : a ≤ tkX T a := by
  have h1 := tkE_le h
  have h2 := tkS_le h1
  have h3 := tkE_ge T a
  unfold tkX
  omega
theorem sgn_lt {T : Tb} {c a : Nat} (h : isSgn T c a = true) : a < tkX T a ∧ tkX T a ≤ T.1 := by
  have k3 := (of_decide_eq_true h).1
  exact tkX_gt (tk_lt1 (by omega : tkK T a ≠ 0))
theorem cmpK_s {T : Tb} {a s : Nat} (h : cmpK T a = some s) : s < 3 ∧ a < tkX T a ∧ tkX T a ≤ T.1 := by
  unfold cmpK at h
  split at h
  · rename_i c; cases h; exact ⟨by decide, sgn_lt c⟩
  · split at h
    · rename_i c; cases h; exact ⟨by decide, sgn_lt c⟩
    · split at h
      · rename_i c; cases h; exact ⟨by decide, sgn_lt c⟩
      · cases h
theorem askK_s {T : Tb} {a k : Nat} (h : askK T a = some k) : k ≤ 7 ∧ ∃ j, tkY T a = some j ∧ ((k ≤ 3 ∧ j = k + 10) ∨ (4 ≤ k ∧ j = k + 11)) := by
  unfold askK at h
  cases hy : tkY T a with
  | none => rw [hy] at h; cases h
  | some j =>
    rw [hy] at h
    have h : askN j = some k := h
    unfold askN at h
    split at h
    · have := Option.some.inj h
      exact ⟨by omega, j, rfl, by omega⟩
    · split at h
      · have := Option.some.inj h
        exact ⟨by omega, j, rfl, by omega⟩
      · cases h
theorem lAsk_ok {T : Tb} {k a : Nat} {C : List Ck} {e : Nat × List Ck} (hk : k ≤ 7) (ha : a ≤ T.1) (h : lAsk T k a C = .inr e) : ∃ c, e.2 = C ++ [c] ∧ okCk c ∧ c.1 = k ∧ a ≤ e.1 ∧ e.1 ≤ T.1 := by
  have x1 := tkX_ge ha
  have x2 := tkX_le ha
  have x3 := tkX_le x2
  have x4 := tkX_ge x2
  unfold lAsk at h
  split at h
  · rename_i k0
    cases h
    exact ⟨(0, 0), rfl, ⟨by decide, fun z => absurd z (by decide), fun z => absurd z (by decide)⟩, k0.symm, Nat.le_refl a, ha⟩
  · split at h
    · split at h
      · rename_i k0 k3 y
        cases h
        exact ⟨(k, 0), rfl, ⟨by show k ≤ 10; omega, fun _ _ => Nat.zero_le 26, fun z => absurd z (by show ¬ 4 ≤ k; omega)⟩, rfl, x1, x2⟩
      · split at h
        · rename_i k0 k3 y c
          cases h
          obtain ⟨o1, o2, o3⟩ := tkL_ok c.1
          exact ⟨(k, (tkL T a).getD 0 0), rfl, ⟨by show k ≤ 10; omega, fun _ _ => o2 _ (getD_memN (by omega)), fun z => absurd z (by show ¬ 4 ≤ k; omega)⟩, rfl, x1, x2⟩
        · cases h
    · rename_i k0 k3
      cases hc : cmpK T a with
      | none => rw [hc] at h; cases h
      | some s =>
        rw [hc] at h
        have h : (if tkK T (tkX T a) ≠ 2 then (.inl (flt T (tkX T a)) : Ft ⊕ (Nat × List Ck)) else if 99 < tkN T (tkX T a) then .inl (4, tkX T a) else .inr (tkX T (tkX T a), C ++ [(k, tkN T (tkX T a) * 4 + s)])) = .inr e := h
        have s3 := (cmpK_s hc).1
        split at h
        · cases h
        · split at h
          · cases h
          · rename_i c2 c99
            cases h
            refine ⟨(k, tkN T (tkX T a) * 4 + s), rfl, ⟨by show k ≤ 10; omega, fun _ z => absurd z (by show ¬ k ≤ 3; omega), fun _ _ => ?_⟩, rfl, by show a ≤ tkX T (tkX T a); omega, x3⟩
            show (tkN T (tkX T a) * 4 + s) / 4 ≤ 99 ∧ (tkN T (tkX T a) * 4 + s) % 4 < 3
            omega
theorem dep_a {c : Ck} {t : List Ck} {n : Nat} (h : c.1 ≤ 7) (hn : n < 28) : dep (c :: t) n = dep t (n + 1) := by
  have e : dep (c :: t) n = if c.1 = 8 then (if 1 ≤ n then dep t n else none) else if c.1 = 9 ∨ c.1 = 10 then (if 2 ≤ n then dep t (n - 1) else none) else if n < 28 then dep t (n + 1) else none := rfl
  exact e.trans ((if_neg (by omega)).trans ((if_neg (by omega)).trans (if_pos hn)))
theorem dep_n {t : List Ck} {n : Nat} (h : 1 ≤ n) : dep ((8, 0) :: t) n = dep t n := by
  have e : dep ((8, 0) :: t) n = if (8 : Nat) = 8 then (if 1 ≤ n then dep t n else none) else if (8 : Nat) = 9 ∨ (8 : Nat) = 10 then (if 2 ≤ n then dep t (n - 1) else none) else if n < 28 then dep t (n + 1) else none := rfl
  exact e.trans ((if_pos rfl).trans (if_pos h))
theorem dep_j {k : Nat} (hk : k = 9 ∨ k = 10) (t : List Ck) (n : Nat) : dep ((k, 0) :: t) (n + 2) = dep t (n + 1) := by
  have e : dep ((k, 0) :: t) (n + 2) = if k = 8 then (if 1 ≤ n + 2 then dep t (n + 2) else none) else if k = 9 ∨ k = 10 then (if 2 ≤ n + 2 then dep t (n + 2 - 1) else none) else if n + 2 < 28 then dep t (n + 2 + 1) else none := rfl
  exact e.trans ((if_neg (by omega)).trans ((if_pos hk).trans (if_pos (by omega))))
/-- from s to t: one answer more (b 0), or as many (b 1) -/
def lpR (T : Tb) (b : Nat) (s t : Lq) : Prop := ∃ E : List Ck, t.2.2 = s.2.2 ++ E ∧ (∀ c ∈ E, okCk c) ∧ t.1 ≤ T.1 ∧ t.2.1 ≤ 24 ∧ 2 * E.length + s.1 ≤ t.1 ∧ s.2.1 + 1 ≤ t.2.1 + b ∧ s.1 + 1 ≤ t.1 + b ∧ ∀ k c, k + b + (t.2.1 - s.2.1) ≤ 28 → dep (E ++ c) (k + b) = dep c (k + 1)
theorem lpR_b {T : Tb} {b : Nat} {s t : Lq} (h : lpR T b s t) : t.1 ≤ T.1 ∧ t.2.1 ≤ 24 ∧ s.1 + 1 ≤ t.1 + b ∧ 2 * t.2.2.length + s.1 ≤ 2 * s.2.2.length + t.1 := by
  obtain ⟨E, h1, h2, h3, h4, h5, h6, h7, h8⟩ := h
  refine ⟨h3, h4, h7, ?_⟩
  rw [h1, List.length_append]
  omega
theorem lpR_1 {T : Tb} {s t u : Lq} (h1 : lpR T 0 s t) (h2 : lpR T 1 t u) : lpR T 0 s u := by
  obtain ⟨E1, a1, a2, a3, a4, a5, a6, a7, a8⟩ := h1
  obtain ⟨E2, b1, b2, b3, b4, b5, b6, b7, b8⟩ := h2
  refine ⟨E1 ++ E2, by rw [b1, a1, List.append_assoc], fun c hc => (List.mem_append.mp hc).elim (a2 c) (b2 c), b3, b4, by rw [List.length_append]; omega, by omega, by omega, fun k c hk => ?_⟩
  rw [List.append_assoc]
  exact (a8 k (E2 ++ c) (by omega)).trans (b8 k c (by omega))
theorem lpR_j {T : Tb} {s t u : Lq} {j k : Nat} (hj : tkY T s.1 = some j) (hk : k = 9 ∨ k = 10) (h1 : lpR T 0 (lqX T s) t) (h2 : lpR T 1 (lqE t k) u) : lpR T 1 s u := by
  obtain ⟨E1, a1, a2, a3, a4, a5, a6, a7, a8⟩ := h1
  obtain ⟨E2, b1, b2, b3, b4, b5, b6, b7, b8⟩ := h2
  have y := tkY_2 hj
  have a1 : t.2.2 = s.2.2 ++ E1 := a1
  have a5 : 2 * E1.length + tkX T s.1 ≤ t.1 := a5
  have a6 : s.2.1 + 1 ≤ t.2.1 + 0 := a6
  have a8 : ∀ k c, k + 0 + (t.2.1 - s.2.1) ≤ 28 → dep (E1 ++ c) (k + 0) = dep c (k + 1) := a8
  have b1 : u.2.2 = (t.2.2 ++ [(k, 0)]) ++ E2 := b1
  have b5 : 2 * E2.length + t.1 ≤ u.1 := b5
  have b6 : t.2.1 + 1 ≤ u.2.1 + 1 := b6
  have b8 : ∀ n c, n + 1 + (u.2.1 - t.2.1) ≤ 28 → dep (E2 ++ c) (n + 1) = dep c (n + 1) := b8
  have ok : okCk (k, 0) := ⟨by show k ≤ 10; omega, fun _ z => absurd z (by show ¬ k ≤ 3; omega), fun _ z => absurd z (by show ¬ k ≤ 7; omega)⟩
  refine ⟨E1 ++ ((k, 0) :: E2), by rw [b1, a1]; simp only [List.append_assoc, List.singleton_append], fun c hc => ?_, b3, b4, by rw [List.length_append, List.length_cons]; omega, by omega, by omega, fun n c hn => ?_⟩
  · rcases List.mem_append.mp hc with z | z
    · exact a2 c z
    · rcases List.mem_cons.mp z with z | z
      · rw [z]; exact ok
      · exact b2 c z
  · rw [List.append_assoc, List.cons_append]
    exact (a8 (n + 1) ((k, 0) :: (E2 ++ c)) (by omega)).trans ((dep_j hk (E2 ++ c) n).trans (b8 n c (by omega)))
theorem lpR_n {T : Tb} {s t : Lq} {j : Nat} (hj : tkY T s.1 = some j) (h1 : lpR T 0 (lqX T s) t) : lpR T 0 s (lqE t 8) := by
  obtain ⟨E1, a1, a2, a3, a4, a5, a6, a7, a8⟩ := h1
  have y := tkY_2 hj
  have a1 : t.2.2 = s.2.2 ++ E1 := a1
  have a5 : 2 * E1.length + tkX T s.1 ≤ t.1 := a5
  have a8 : ∀ k c, k + 0 + (t.2.1 - s.2.1) ≤ 28 → dep (E1 ++ c) (k + 0) = dep c (k + 1) := a8
  have ok : okCk (8, 0) := ⟨by decide, fun _ z => absurd z (by decide), fun _ z => absurd z (by decide)⟩
  refine ⟨E1 ++ [(8, 0)], ?_, mem_snoc a2 ok, a3, a4, ?_, a6, ?_, fun k c hk => ?_⟩
  · show t.2.2 ++ [(8, 0)] = _
    rw [a1, List.append_assoc]
  · show 2 * (E1 ++ [(8, 0)]).length + s.1 ≤ t.1
    rw [List.length_append, List.length_singleton]
    omega
  · show s.1 + 1 ≤ t.1 + 0
    omega
  · rw [List.append_assoc]
    exact (a8 k ([(8, 0)] ++ c) hk).trans (dep_n (by omega))
theorem lpR_p {T : Tb} {s t : Lq} (hs : isSgn T 40 s.1 = true) (ht : isSgn T 41 t.1 = true) (h1 : lpR T 0 (lqX T s) t) : lpR T 0 s (lqX T t) := by
  obtain ⟨E1, a1, a2, a3, a4, a5, a6, a7, a8⟩ := h1
  have x := sgn_lt hs
  have y := sgn_lt ht
  have a5 : 2 * E1.length + tkX T s.1 ≤ t.1 := a5
  refine ⟨E1, a1, a2, y.2, a4, ?_, a6, ?_, a8⟩
  · show 2 * E1.length + s.1 ≤ tkX T t.1
    omega
  · show s.1 + 1 ≤ tkX T t.1 + 0
    omega
theorem lP_ok {T : Tb} : ∀ r, (∀ w s t, s.1 ≤ T.1 → s.2.1 ≤ 24 → lP T r 0 w s = .inr t → lpR T 0 s t) ∧ (∀ w s t, s.1 ≤ T.1 → s.2.1 ≤ 24 → lP T r 1 w s = .inr t → lpR T 0 s t) ∧ (∀ w s t, s.1 ≤ T.1 → s.2.1 ≤ 24 → lP T r 2 w s = .inr t → lpR T 0 s t) ∧ (∀ w s t, s.1 ≤ T.1 → s.2.1 ≤ 24 → lP T r 3 w s = .inr t → lpR T 1 s t) ∧ (∀ w s t, s.1 ≤ T.1 → s.2.1 ≤ 24 → lP T r 4 w s = .inr t → lpR T 1 s t)
  | 0 => ⟨fun w s t _ _ h => (lP_z h).elim, fun w s t _ _ h => (lP_z h).elim, fun w s t _ _ h => (lP_z h).elim, fun w s t _ _ h => (lP_z h).elim, fun w s t _ _ h => (lP_z h).elim⟩
  | r + 1 => by
    obtain ⟨i0, i1, i2, i3, i4⟩ := lP_ok (T := T) r
    have rf : ∀ s : Lq, s.1 ≤ T.1 → s.2.1 ≤ 24 → lpR T 1 s s := fun s ha hn => ⟨[], (List.append_nil _).symm, fun c hc => absurd hc List.not_mem_nil, ha, hn, by rw [List.length_nil]; omega, Nat.le_refl _, Nat.le_refl _, fun k c _ => rfl⟩
    refine ⟨fun w s t ha hn h => ?_, fun w s t ha hn h => ?_, fun w s t ha hn h => ?_, fun w s t ha hn h => ?_, fun w s t ha hn h => ?_⟩
    · rw [lP_0] at h
      cases hk : askK T s.1 with
      | some k =>
        rw [hk] at h
        have h : lOneA T w s k = .inr t := h
        obtain ⟨k7, j, hj, -⟩ := askK_s hk
        have y := tkY_2 hj
        unfold lOneA at h
        split at h
        · cases h
        · split at h
          · cases h
          · cases he : lAsk T k (tkX T s.1) s.2.2 with
            | inl f => rw [he] at h; cases h
            | inr e =>
              rw [he] at h
              cases h
              obtain ⟨c, c1, c2, c3, c4, c5⟩ := lAsk_ok k7 y.2.1 he
              refine ⟨[c], c1, fun x hx => by rw [List.mem_singleton.mp hx]; exact c2, c5, by show s.2.1 + 1 ≤ 24; omega, by show 2 * 1 + s.1 ≤ e.1; omega, by show s.2.1 + 1 ≤ s.2.1 + 1 + 0; omega, by show s.1 + 1 ≤ e.1 + 0; omega, fun k' c' hk' => ?_⟩
              have hk' : k' + 0 + (s.2.1 + 1 - s.2.1) ≤ 28 := hk'
              exact dep_a (by omega) (by omega)
      | none =>
        rw [hk] at h
        have h : (if tkY T s.1 = some 9 then (if 6 ≤ w then (.inl (7, s.1) : Ft ⊕ Lq) else bnd (lP T r 0 (w + 1) (lqX T s)) (fun t => .inr (lqE t 8))) else if isSgn T 40 s.1 = true then (if 6 ≤ w then .inl (7, s.1) else bnd (lP T r 2 (w + 1) (lqX T s)) (lCl T)) else .inl (flt T s.1)) = .inr t := h
        split at h
        · rename_i y
          split at h
          · cases h
          · obtain ⟨u, u1, u2⟩ := bnd_r h
            cases u2
            exact lpR_n y (i0 _ _ _ (tkX_le ha) hn u1)
        · split at h
          · rename_i y
            split at h
            · cases h
            · obtain ⟨u, u1, u2⟩ := bnd_r h
              unfold lCl at u2
              split at u2
              · rename_i z
                cases u2
                exact lpR_p y z (i2 _ _ _ (tkX_le ha) hn u1)
              · cases u2
          · cases h
    · rw [lP_1] at h
      obtain ⟨u, u1, u2⟩ := bnd_r h
      have v := i0 _ _ _ ha hn u1
      have b := lpR_b v
      exact lpR_1 v (i3 _ _ _ b.1 b.2.1 u2)
    · rw [lP_2] at h
      obtain ⟨u, u1, u2⟩ := bnd_r h
      have v := i1 _ _ _ ha hn u1
      have b := lpR_b v
      exact lpR_1 v (i4 _ _ _ b.1 b.2.1 u2)
    · rw [lP_3] at h
      split at h
      · rename_i y
        obtain ⟨u, u1, u2⟩ := bnd_r h
        have v := i0 w (lqX T s) u (tkX_le ha) hn u1
        have b := lpR_b v
        exact lpR_j y (Or.inl rfl) v (i3 _ _ _ b.1 b.2.1 u2)
      · cases h; exact rf s ha hn
    · rw [lP_4] at h
      split at h
      · rename_i y
        obtain ⟨u, u1, u2⟩ := bnd_r h
        have v := i1 w (lqX T s) u (tkX_le ha) hn u1
        have b := lpR_b v
        exact lpR_j y (Or.inr rfl) v (i4 _ _ _ b.1 b.2.1 u2)
      · cases h; exact rf s ha hn
