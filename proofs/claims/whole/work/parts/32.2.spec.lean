/-! ===== stories: what is counted ===== -/
theorem hasB_out {ws : List Wd} {k : Nat} (h : ws.length ≤ k) (g : Nat) : hasB ws g k = false := by
  unfold hasB
  rw [gw_out h]
  exact Nat.zero_testBit g
theorem wWith_bit {ws : List Wd} (g q : Nat) : (wWith ws g).testBit q = hasB ws g q := by
  unfold wWith
  rw [bsW_bit]
  by_cases h : q < ws.length
  · simp [h]
  · rw [hasB_out (by omega)]
    simp
/-- the village behind a word said -/
def sayV (V : Vl) (k : Nat) : Vl := vlSet V (sayWs V k)
def rowsK (F : Vl → Nat) (V : Vl) (g : Nat) : Nat → Nat → Nat
  | 0, _ => 0
  | r + 1, k => (if hasB (vlW V) g k then F (sayV V k) else 0) + rowsK F V g r (k + 1)
def rowsN : List Nat → Vl → Nat
  | [], _ => 1
  | g :: t, V => rowsK (rowsN t) V g 12 0
def farK (F : Vl → Nat) (V : Vl) (g : Nat) : Nat → Nat → Nat
  | 0, _ => 0
  | r + 1, k => max (if hasB (vlW V) g k then F (sayV V k) + 1 else 0) (farK F V g r (k + 1))
def farN : List Nat → Vl → Nat
  | [], _ => 0
  | g :: t, V => farK (farN t) V g 12 0
abbrev Bt : Type := Option (Nat × List Nat)
def upB (b : Bt) (n : Nat) (p : List Nat) : Bt := match b with
  | none => some (n, p)
  | some c => if n < c.1 then some (n, p) else some c
def bestK (F : Vl → Nat → List Nat → Bt → Bt) (V : Vl) (g n : Nat) (p : List Nat) : Nat → Nat → Bt → Bt
  | 0, _, b => b
  | r + 1, k, b => bestK F V g n p r (k + 1) (if hasB (vlW V) g k then F (sayV V k) (n + sayN V k) (p ++ [k]) b else b)
def bestN : List Nat → Vl → Nat → List Nat → Bt → Bt
  | [], _, n, p, b => upB b n p
  | g :: t, V, n, p, b => bestK (bestN t) V g n p 12 0 b
theorem rowsK_out {F : Vl → Nat} {V : Vl} {g : Nat} : ∀ (r k : Nat), (vlW V).length ≤ k → rowsK F V g r k = 0
  | 0, k, _ => rfl
  | r + 1, k, h => by
    unfold rowsK
    rw [hasB_out h, rowsK_out r (k + 1) (by omega)]
    rfl
theorem farK_out {F : Vl → Nat} {V : Vl} {g : Nat} : ∀ (r k : Nat), (vlW V).length ≤ k → farK F V g r k = 0
  | 0, k, _ => rfl
  | r + 1, k, h => by
    unfold farK
    rw [hasB_out h, farK_out r (k + 1) (by omega)]
    rfl
theorem bestK_out {F : Vl → Nat → List Nat → Bt → Bt} {V : Vl} {g n : Nat} {p : List Nat} : ∀ (r k : Nat) (b : Bt), (vlW V).length ≤ k → bestK F V g n p r k b = b
  | 0, k, b, _ => rfl
  | r + 1, k, b, h => by
    unfold bestK
    rw [hasB_out h, bestK_out r (k + 1) _ (by omega)]
    rfl
theorem rows_popc0 (V : Vl) (g : Nat) : ∀ (r k : Nat), rowsK (fun _ => 1) V g r k = (List.range' k r).countP (fun i => (wWith (vlW V) g).testBit i)
  | 0, k => rfl
  | r + 1, k => by
    unfold rowsK
    rw [rows_popc0 V g r (k + 1), List.range'_succ, List.countP_cons, wWith_bit, Nat.add_comm]
theorem rows_popc (V : Vl) (g : Nat) : rowsN [g] V = popc (wWith (vlW V) g) := by
  show rowsK (fun _ => 1) V g 12 0 = _
  rw [rows_popc0]
  unfold popc
  rw [List.range_eq_range']
theorem farK_le {F : Vl → Nat} {V : Vl} {g n : Nat} (h : ∀ W, F W ≤ n) : ∀ (r k : Nat), farK F V g r k ≤ n + 1
  | 0, k => Nat.zero_le _
  | r + 1, k => by
    have := farK_le h r (k + 1) (V := V) (g := g)
    have := h (sayV V k)
    unfold farK
    split <;> omega
theorem farN_le : ∀ (t : List Nat) (V : Vl), farN t V ≤ t.length
  | [], V => Nat.le_refl 0
  | g :: t, V => farK_le (farN_le t) 12 0
theorem farK_0 {F : Vl → Nat} {V : Vl} {g : Nat} (h : wWith (vlW V) g = 0) : ∀ (r k : Nat), farK F V g r k = 0
  | 0, k => rfl
  | r + 1, k => by
    unfold farK
    rw [← wWith_bit, h, Nat.zero_testBit, farK_0 h r (k + 1)]
    rfl
theorem rowsK_le {F : Vl → Nat} {V : Vl} {g n : Nat} (h : ∀ W, F W ≤ n) : ∀ (r k : Nat), rowsK F V g r k ≤ n * r
  | 0, k => Nat.zero_le _
  | r + 1, k => by
    have h1 := rowsK_le h r (k + 1) (V := V) (g := g)
    have h2 := h (sayV V k)
    unfold rowsK
    rw [Nat.mul_succ]
    split <;> omega
theorem rowsN_le : ∀ (t : List Nat) (V : Vl), rowsN t V ≤ 12 ^ t.length
  | [], V => Nat.le_refl 1
  | g :: t, V => by
    have := rowsK_le (rowsN_le t) 12 0 (V := V) (g := g)
    rw [List.length_cons, Nat.pow_succ]
    exact this
theorem rowsN_lt {t : List Nat} (h : t.length ≤ 5) (V : Vl) : rowsN t V < 2 ^ 31 := by
  have h1 := rowsN_le t V
  have h2 : 12 ^ t.length ≤ 12 ^ 5 := Nat.pow_le_pow_right (by decide) h
  have h3 : 12 ^ 5 < 2 ^ 31 := by decide
  omega
theorem upB_some (b : Bt) (n : Nat) (p : List Nat) : upB b n p ≠ none := by
  unfold upB
  split
  · exact fun z => by cases z
  · split <;> exact fun z => by cases z
theorem bestK_none {F : Vl → Nat → List Nat → Bt → Bt} {G : Vl → Nat} (h : ∀ W n p b, F W n p b = none ↔ b = none ∧ G W = 0) {V : Vl} {g n : Nat} {p : List Nat} : ∀ (r k : Nat) (b : Bt), bestK F V g n p r k b = none ↔ b = none ∧ rowsK G V g r k = 0
  | 0, k, b => ⟨fun z => ⟨z, rfl⟩, fun z => z.1⟩
  | r + 1, k, b => by
    unfold bestK rowsK
    rw [bestK_none h r (k + 1)]
    split
    · rw [h]
      exact ⟨fun z => ⟨z.1.1, by omega⟩, fun z => ⟨⟨z.1, by omega⟩, by omega⟩⟩
    · rw [Nat.zero_add]
theorem bestN_none : ∀ (t : List Nat) (V : Vl) (n : Nat) (p : List Nat) (b : Bt), bestN t V n p b = none ↔ b = none ∧ rowsN t V = 0
  | [], V, n, p, b => ⟨fun z => absurd z (upB_some b n p), fun z => absurd z.2 (by decide : ¬ (1 = 0))⟩
  | g :: t, V, n, p, b => bestK_none (bestN_none t) 12 0 b
/-- what is kept is a whole row of few letters -/
def okB (q len : Nat) (b : Bt) : Prop := ∀ c, b = some c → c.1 ≤ q ∧ c.2.length = len ∧ ∀ x ∈ c.2, x < 12
theorem sayN_le (V : Vl) (k : Nat) : sayN V k ≤ 1 := by unfold sayN; split <;> omega
theorem okB_up {q len n : Nat} {p : List Nat} {b : Bt} (h : okB q len b) (hn : n ≤ q) (hp : p.length = len) (hx : ∀ x ∈ p, x < 12) : okB q len (upB b n p) := by
  intro c hc
  unfold upB at hc
  split at hc
  · cases hc; exact ⟨hn, hp, hx⟩
  · split at hc
    · cases hc; exact ⟨hn, hp, hx⟩
    · exact h c hc
theorem okB_K {q len : Nat} {F : Vl → Nat → List Nat → Bt → Bt} {V : Vl} {g n : Nat} {p : List Nat} {l : Nat} (hF : ∀ W n p b, n + l ≤ q → p.length + l = len → (∀ x ∈ p, x < 12) → okB q len b → okB q len (F W n p b)) (hn : n + l + 1 ≤ q) (hp : p.length + l + 1 = len) (hx : ∀ x ∈ p, x < 12) : ∀ (r k : Nat) (b : Bt), k + r = 12 → okB q len b → okB q len (bestK F V g n p r k b)
  | 0, k, b, _, h => h
  | r + 1, k, b, hk, h => by
    unfold bestK
    refine okB_K hF hn hp hx r (k + 1) _ (by omega) ?_
    split
    · have := sayN_le V k
      refine hF _ _ _ _ (by omega) (by rw [List.length_append, List.length_singleton]; omega) (fun x hx' => ?_) h
      rcases List.mem_append.mp hx' with z | z
      · exact hx x z
      · rw [List.mem_singleton.mp z]; omega
    · exact h
theorem okB_N {q len : Nat} : ∀ (t : List Nat) (V : Vl) (n : Nat) (p : List Nat) (b : Bt), n + t.length ≤ q → p.length + t.length = len → (∀ x ∈ p, x < 12) → okB q len b → okB q len (bestN t V n p b)
  | [], V, n, p, b, hn, hp, hx, h => okB_up h hn hp hx
  | g :: t, V, n, p, b, hn, hp, hx, h => by
    have e : (g :: t).length = t.length + 1 := rfl
    exact okB_K (l := t.length) (fun W n p b => okB_N t W n p b) (by omega) (by omega) hx 12 0 b rfl h
/-! ===== what can't be better ===== -/
theorem goP_n6 {S : Sf} {ls : List Nat} (sh : Bool) (said day idle : Int32) : ∀ (R : List Rl), R.any (fun r => r.2 == 6) = false → goP S ls sh said day idle R ≠ none
  | [], _ => fun z => by cases z
  | r :: t, h => by
    rw [List.any_cons, Bool.or_eq_false_iff] at h
    unfold goP
    split
    · unfold placeP
      have h6 : ¬ r.2 = 6 := fun z => by rw [z] at h; exact absurd h.1 (by decide)
      rw [if_neg h6]
      repeat' split
      all_goals exact fun z => by cases z
    · exact goP_n6 sh said day idle t h.2
theorem sayN_1 {V : Vl} (h : (vlR V).any (fun r => r.2 == 6) = false) (k : Nat) : sayN V k = 1 := by
  unfold sayN
  split
  · rename_i z
    exact absurd z (goP_n6 _ _ _ _ _ h)
  · rfl
/-- how many letters a rest of a story takes at least -/
def lst (V : Vl) (n : Nat) : Nat := if (vlR V).any (fun r => r.2 == 6) then 0 else n
theorem best_prune : ∀ (t : List Nat) (V : Vl) (n : Nat) (p : List Nat) (c : Nat × List Nat), c.1 ≤ n + lst V t.length → bestN t V n p (some c) = some c
  | [], V, n, p, c, h => by
    have h : c.1 ≤ n := by
      unfold lst at h
      split at h <;> exact h
    show (if n < c.1 then some (n, p) else some c) = _
    rw [if_neg (by omega)]
  | g :: t, V, n, p, c, h => by
    have key : ∀ (r k : Nat), bestK (bestN t) V g n p r k (some c) = some c := by
      intro r
      induction r with
      | zero => intro k; rfl
      | succ r ih =>
        intro k
        unfold bestK
        split
        · rw [best_prune t (sayV V k) (n + sayN V k) (p ++ [k]) c ?_]
          · exact ih (k + 1)
          · show c.1 ≤ n + sayN V k + lst V t.length
            unfold lst at h ⊢
            have e : (g :: t).length = t.length + 1 := rfl
            cases hc : (vlR V).any (fun r => r.2 == 6) with
            | true => rw [hc] at h; simp only [if_true] at h ⊢; omega
            | false => rw [hc] at h; rw [sayN_1 hc]; simp only [Bool.false_eq_true, if_false] at h ⊢; omega
        · exact ih (k + 1)
    exact key 12 0
theorem best_pruneK {t : List Nat} {V : Vl} {g n : Nat} {p : List Nat} {c : Nat × List Nat} (h : c.1 ≤ n + lst V (t.length + 1)) : ∀ (r k : Nat), bestK (bestN t) V g n p r k (some c) = some c
  | 0, k => rfl
  | r + 1, k => by
    unfold bestK
    split
    · rw [best_prune t (sayV V k) (n + sayN V k) (p ++ [k]) c ?_]
      · exact best_pruneK h r (k + 1)
      · show c.1 ≤ n + sayN V k + lst V t.length
        unfold lst at h ⊢
        cases hc : (vlR V).any (fun r => r.2 == 6) with
        | true => rw [hc] at h; simp only [if_true] at h ⊢; omega
        | false => rw [hc] at h; rw [sayN_1 hc]; simp only [Bool.false_eq_true, if_false] at h ⊢; omega
    · exact best_pruneK h r (k + 1)
