/-! ===== a VILLAGE's text: what it says ===== -/
abbrev Ft : Type := Nat × Nat
def flt (T : Tb) (a : Nat) : Ft := (if tkK T a = 4 then 1 else 2, a)
/-- names of meanings, of speakers, words, soft letters -/
abbrev Pv : Type := List (List Nat) × List (List Nat) × List (List Nat × Nat) × Option (List Nat)
abbrev pM (s : Pv) : List (List Nat) := s.1
abbrev pP (s : Pv) : List (List Nat) := s.2.1
abbrev pW (s : Pv) : List (List Nat × Nat) := s.2.2.1
abbrev pS (s : Pv) : Option (List Nat) := s.2.2.2
def nmB (T : Tb) (a : Nat) : Bool := decide (tkK T a = 1 ∧ (tkL T a).length ≤ 8 ∧ tkY T a = none)
def isSgn (T : Tb) (c a : Nat) : Bool := decide (tkK T a = 3 ∧ T.2 a = c)
/-- a new name: its fault -/
def nnS (T : Tb) (s : Pv) (b : Nat) : Option Ft := if nmB T b = false then some (flt T b) else if (ixOf (tkL T b) (pM s) 0).isSome ∨ (ixOf (tkL T b) (pP s) 0).isSome then some (3, b) else none
def vtM (T : Tb) (s : Pv) (a : Nat) : Ft ⊕ (Pv × Nat) := if (pM s).length = 12 then .inl (6, a) else match nnS T s (tkX T a) with
  | some f => .inl f
  | none => .inr ((pM s ++ [tkL T (tkX T a)], pP s, pW s, pS s), tkX T (tkX T a))
def vtP (T : Tb) (s : Pv) (a : Nat) : Ft ⊕ (Pv × Nat) := if (pP s).length = 4 then .inl (6, a) else match nnS T s (tkX T a) with
  | some f => .inl f
  | none => .inr ((pM s, pP s ++ [tkL T (tkX T a)], pW s, pS s), tkX T (tkX T a))
def mnL (T : Tb) (M : List (List Nat)) : Nat → Nat → Nat → Ft ⊕ (Nat × Nat)
  | 0, _, b => .inl (flt T b)
  | r + 1, v, b => if v ≠ 0 ∧ isSgn T 59 b = true then .inr (v, b) else if nmB T b = false then .inl (flt T b) else match ixOf (tkL T b) M 0 with
    | none => .inl (3, b)
    | some k => if v.testBit k = true then .inl (5, b) else mnL T M r (v ||| 2 ^ k) (tkX T b)
def vtW (T : Tb) (s : Pv) (a : Nat) : Ft ⊕ (Pv × Nat) := if (pW s).length = 12 then .inl (6, a) else
  if ¬ (tkK T (tkX T a) = 1 ∧ (tkL T (tkX T a)).length ≤ 8) then .inl (flt T (tkX T a)) else
  if (ixOf (tkL T (tkX T a)) ((pW s).map (fun q => q.1)) 0).isSome then .inl (3, tkX T a) else
  if tkY T (tkX T (tkX T a)) ≠ some 2 then .inl (flt T (tkX T (tkX T a))) else
  match mnL T (pM s) 13 0 (tkX T (tkX T (tkX T a))) with
  | .inl f => .inl f
  | .inr q => .inr ((pM s, pP s, pW s ++ [(tkL T (tkX T a), q.1)], pS s), q.2)
def dsc (pre : List Nat) : List Nat → Bool
  | [] => false
  | c :: t => pre.any (fun x => x == c) || dsc (pre ++ [c]) t
def dupB (l : List Nat) : Bool := dsc [] l
def vtS (T : Tb) (s : Pv) (a : Nat) : Ft ⊕ (Pv × Nat) := if (pS s).isSome then .inl (5, a) else
  if tkK T (tkX T a) ≠ 1 then .inl (flt T (tkX T a)) else
  if dupB (tkL T (tkX T a)) then .inl (5, tkX T a) else .inr ((pM s, pP s, pW s, some (tkL T (tkX T a))), tkX T (tkX T a))
def vPart (T : Tb) (s : Pv) (a : Nat) : Ft ⊕ (Pv × Nat) := if tkY T a = some 0 then vtM T s a else if tkY T a = some 1 then vtW T s a else if tkY T a = some 3 then vtP T s a else if tkY T a = some 4 then vtS T s a else .inl (flt T a)
def vEnd (T : Tb) (r : Ft ⊕ (Pv × Nat)) : Ft ⊕ (Pv × Nat) := match r with
  | .inl f => .inl f
  | .inr q => if isSgn T 59 q.2 = true then .inr (q.1, tkX T q.2) else .inl (flt T q.2)
def vAll (T : Tb) : Nat → Pv → Nat → Ft ⊕ Pv
  | 0, s, _ => .inr s
  | r + 1, s, a => if tkK T a = 0 then .inr s else match vEnd T (vPart T s a) with
    | .inl f => .inl f
    | .inr q => vAll T r q.1 q.2
/-! ===== what holds of it ===== -/
def okN (l : List Nat) : Prop := okL l ∧ l.length ≤ 8 ∧ (∀ c ∈ l, c ≤ 26) ∧ l ≠ []
def gN (L : List (List Nat)) (k : Nat) : List Nat := L.getD k []
def okPv (s : Pv) : Prop := (pM s).length ≤ 12 ∧ (pP s).length ≤ 4 ∧ (pW s).length ≤ 12 ∧ (∀ l ∈ pM s, okN l) ∧ (∀ l ∈ pP s, okN l) ∧ (∀ q ∈ pW s, okN q.1 ∧ q.2 < 4096) ∧ ((pW s).map (fun q => q.1)).Nodup ∧ ∀ l, pS s = some l → (∀ c ∈ l, 1 ≤ c ∧ c ≤ 26) ∧ dupB l = false
theorem nmB_ok {T : Tb} {a : Nat} (h : nmB T a = true) : okN (tkL T a) ∧ tkK T a = 1 ∧ tkY T a = none := by
  obtain ⟨h1, h2, h3⟩ := of_decide_eq_true h
  obtain ⟨o1, o2, o3⟩ := tkL_ok h1
  exact ⟨⟨o1, h2, o2, o3⟩, h1, h3⟩
theorem ixOf_none {ls : List Nat} : ∀ (K : List (List Nat)) (i : Nat), ixOf ls K i = none → ls ∉ K
  | [], i, _ => List.not_mem_nil
  | w :: t, i, h => by
    unfold ixOf at h
    split at h
    · cases h
    · rename_i c
      intro z
      rcases List.mem_cons.mp z with z | z
      · exact c z.symm
      · exact ixOf_none t (i + 1) h z
theorem mem_snoc {α : Type} {P : α → Prop} {L : List α} {x : α} (h : ∀ l ∈ L, P l) (hx : P x) : ∀ l ∈ L ++ [x], P l := fun l hl => by
  rcases List.mem_append.mp hl with z | z
  · exact h l z
  · rw [List.mem_singleton.mp z]; exact hx
theorem tk_lt {T : Tb} {a : Nat} (h : tkY T a ≠ none) : a < T.1 := by
  unfold tkY at h
  split at h
  · rename_i c; exact (tkK_w c).1
  · exact absurd rfl h
theorem tk_lt1 {T : Tb} {a : Nat} (h : tkK T a ≠ 0) : a < T.1 := by
  by_cases c : T.1 ≤ a
  · exact absurd (tkK_0.mpr c) h
  · omega
theorem mnL_ok {T : Tb} {M : List (List Nat)} (hM : M.length ≤ 12) : ∀ (r v b : Nat) (q : Nat × Nat), b ≤ T.1 → v < 4096 → mnL T M r v b = .inr q → q.1 < 4096 ∧ b ≤ q.2 ∧ q.2 ≤ T.1
  | 0, v, b, q, hb, hv, h => by cases h
  | r + 1, v, b, q, hb, hv, h => by
    unfold mnL at h
    split at h
    · cases h; exact ⟨hv, Nat.le_refl b, hb⟩
    · split at h
      · cases h
      · rename_i hn
        split at h
        · cases h
        · rename_i k hk
          split at h
          · cases h
          · obtain ⟨-, k2, -⟩ := ixOf_some M 0 k hk
            have nb : nmB T b = true := by cases hh : nmB T b with
              | true => rfl
              | false => exact absurd hh hn
            have lt := tkX_gt (tk_lt1 (by have := (nmB_ok nb).2.1; omega : tkK T b ≠ 0))
            obtain ⟨a1, a2, a3⟩ := mnL_ok hM r _ _ q lt.2 (Nat.or_lt_two_pow (n := 12) hv (Nat.pow_lt_pow_right (by decide) (by omega))) h
            exact ⟨a1, by omega, a3⟩
theorem vPart_ok {T : Tb} {s : Pv} {a : Nat} (ha : a < T.1) (ho : okPv s) {q : Pv × Nat} (h : vPart T s a = .inr q) : okPv q.1 ∧ a < q.2 ∧ q.2 ≤ T.1 := by
  obtain ⟨o1, o2, o3, o4, o5, o6, o7, o8⟩ := ho
  have x1 := tkX_gt ha
  have x2 := tkX_le x1.2
  have x2' : tkX T a < T.1 → tkX T a < tkX T (tkX T a) := fun z => (tkX_gt z).1
  unfold vPart at h
  split at h
  · unfold vtM at h
    split at h
    · cases h
    · split at h
      · cases h
      · rename_i c hn
        cases h
        unfold nnS at hn
        split at hn
        · cases hn
        · split at hn
          · cases hn
          · rename_i hb hi
            have nb : nmB T (tkX T a) = true := by cases hh : nmB T (tkX T a) with
              | true => rfl
              | false => exact absurd hh hb
            have k1 := (nmB_ok nb).2.1
            have lt := tk_lt1 (by omega : tkK T (tkX T a) ≠ 0)
            have := x2' lt
            exact ⟨⟨by show (pM s ++ [_]).length ≤ 12; rw [List.length_append, List.length_singleton]; omega, o2, o3, mem_snoc o4 (nmB_ok nb).1, o5, o6, o7, o8⟩, by dsimp only; omega, x2⟩
  · split at h
    · unfold vtW at h
      split at h
      · cases h
      · split at h
        · cases h
        · split at h
          · cases h
          · split at h
            · cases h
            · split at h
              · cases h
              · rename_i c2 c3 c4 _ q' hq
                cases h
                have c2 : tkK T (tkX T a) = 1 ∧ (tkL T (tkX T a)).length ≤ 8 := Decidable.not_not.mp c2
                obtain ⟨w1, w2, w3⟩ := tkL_ok c2.1
                have lt := tk_lt1 (by omega : tkK T (tkX T a) ≠ 0)
                have y2 := tkX_gt lt
                have y3 := tkX_le y2.2
                have y3' := (tkX_gt (a := tkX T (tkX T a)) (tk_lt (T := T) (fun z => c4 (by rw [z]; exact fun y => by cases y)))).1
                obtain ⟨m1, m2, m3⟩ := mnL_ok o1 13 0 _ q' y3 (by decide) hq
                refine ⟨⟨o1, o2, by show (pW s ++ [_]).length ≤ 12; rw [List.length_append, List.length_singleton]; omega, o4, o5, mem_snoc o6 ⟨⟨w1, c2.2, w2, w3⟩, m1⟩, ?_, o8⟩, by dsimp only; omega, m3⟩
                show ((pW s ++ [_]).map _).Nodup
                rw [List.map_append, List.map_singleton]
                refine List.nodup_append.mpr ⟨o7, List.nodup_cons.mpr ⟨List.not_mem_nil, List.nodup_nil⟩, fun x hx y hy => ?_⟩
                rw [List.mem_singleton.mp hy]
                intro z
                have c3' : ixOf (tkL T (tkX T a)) ((pW s).map (fun q => q.1)) 0 = none := by
                  cases hh : ixOf (tkL T (tkX T a)) ((pW s).map (fun q => q.1)) 0 with
                  | none => rfl
                  | some k => exact absurd (by rw [hh]; rfl) c3
                have z : x = tkL T (tkX T a) := z
                rw [z] at hx
                exact ixOf_none _ _ c3' hx
    · split at h
      · unfold vtP at h
        split at h
        · cases h
        · split at h
          · cases h
          · rename_i c hn
            cases h
            unfold nnS at hn
            split at hn
            · cases hn
            · split at hn
              · cases hn
              · rename_i hb hi
                have nb : nmB T (tkX T a) = true := by cases hh : nmB T (tkX T a) with
                  | true => rfl
                  | false => exact absurd hh hb
                have k1 := (nmB_ok nb).2.1
                have lt := tk_lt1 (by omega : tkK T (tkX T a) ≠ 0)
                have := x2' lt
                exact ⟨⟨o1, by show (pP s ++ [_]).length ≤ 4; rw [List.length_append, List.length_singleton]; omega, o3, o4, mem_snoc o5 (nmB_ok nb).1, o6, o7, o8⟩, by dsimp only; omega, x2⟩
      · split at h
        · unfold vtS at h
          split at h
          · cases h
          · split at h
            · cases h
            · split at h
              · cases h
              · rename_i c1 c2 c3
                cases h
                have c2 : tkK T (tkX T a) = 1 := Decidable.not_not.mp c2
                obtain ⟨w1, w2, w3⟩ := tkL_ok c2
                have lt := tk_lt1 (by omega : tkK T (tkX T a) ≠ 0)
                have := x2' lt
                exact ⟨⟨o1, o2, o3, o4, o5, o6, o7, fun l hl => by
                  have hl := Option.some.inj hl
                  subst hl
                  exact ⟨fun c hc => ⟨(w1 c hc).1, w2 c hc⟩, by cases hd : dupB (tkL T (tkX T a)) with
                    | false => rfl
                    | true => exact absurd hd c3⟩⟩, by dsimp only; omega, x2⟩
        · cases h
theorem vEnd_ok {T : Tb} {s : Pv} {a : Nat} (ha : a < T.1) (ho : okPv s) {q : Pv × Nat} (h : vEnd T (vPart T s a) = .inr q) : okPv q.1 ∧ a < q.2 ∧ q.2 ≤ T.1 := by
  unfold vEnd at h
  split at h
  · cases h
  · rename_i p hp
    obtain ⟨h1, h2, h3⟩ := vPart_ok ha ho hp
    split at h
    · rename_i c
      cases h
      have k3 := (of_decide_eq_true c).1
      have := tkX_gt (tk_lt1 (by omega : tkK T p.2 ≠ 0))
      exact ⟨h1, by dsimp only; omega, this.2⟩
    · cases h
