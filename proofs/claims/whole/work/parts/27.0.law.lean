/-! ===== what a LAW says ===== -/
abbrev Ck : Type := Nat × Nat
abbrev Rl : Type := List Ck × Nat
def isVow (c : Nat) : Bool := c == 1 || c == 5 || c == 9 || c == 15 || c == 21
def isSuchB (c told : Nat) : Bool := if told = 0 then isVow c else c == told
def cmpB (v : Int32) (a : Nat) : Bool := if a % 4 = 0 then decide (v < nI (a / 4)) else if a % 4 = 1 then decide (nI (a / 4) < v) else decide (v = nI (a / 4))
/-- what one piece asks -/
def askB (ls : List Nat) (sh : Bool) (said day idle : Int32) (c : Ck) : Bool :=
  if c.1 = 0 then sh else if c.1 = 1 then isSuchB (ls.getD 0 0) c.2 else if c.1 = 2 then isSuchB (ls.getD (ls.length - 1) 0) c.2 else if c.1 = 3 then ls.any (fun x => isSuchB x c.2) else cmpB (if c.1 = 4 then nI ls.length else if c.1 = 5 then said else if c.1 = 6 then day else idle) c.2
def stepB (ask : Ck → Bool) (st : List Bool) (c : Ck) : List Bool :=
  if c.1 = 8 then (match st with | [] => [] | a :: t => (!a) :: t) else if c.1 = 9 then (match st with | b :: a :: t => (a && b) :: t | s => s) else if c.1 = 10 then (match st with | b :: a :: t => (a || b) :: t | s => s) else ask c :: st
def evB (ask : Ck → Bool) (code : List Ck) (st : List Bool) : List Bool := code.foldl (stepB ask) st
/-- how many answers stand, at most 28 -/
def dep : List Ck → Nat → Option Nat
  | [], n => some n
  | c :: t, n => if c.1 = 8 then (if 1 ≤ n then dep t n else none) else if c.1 = 9 ∨ c.1 = 10 then (if 2 ≤ n then dep t (n - 1) else none) else if n < 28 then dep t (n + 1) else none
def okCk (c : Ck) : Prop := c.1 ≤ 10 ∧ (1 ≤ c.1 → c.1 ≤ 3 → c.2 ≤ 26) ∧ (4 ≤ c.1 → c.1 ≤ 7 → c.2 / 4 ≤ 99 ∧ c.2 % 4 < 3)
def okRl (r : Rl) : Prop := (∀ c ∈ r.1, okCk c) ∧ dep r.1 0 = some 1 ∧ r.2 ≤ 6
def cs (R : List Rl) : List Ck := R.flatMap (fun r => r.1)
def en (R : List Rl) (r : Nat) : Nat := (cs (R.take r)).length
def okR (R : List Rl) : Prop := R.length ≤ 12 ∧ (cs R).length ≤ 150 ∧ ∀ r ∈ R, okRl r
/-- softness of letters: named at a rank, or not -/
abbrev Sf : Type := Nat → Option Nat
def okS (S : Sf) : Prop := ∀ c k, S c = some k → k < 26
def rkM (S : Sf) (c : Nat) : Nat := match S c with | some k => k | none => 100 + c
def rkX (S : Sf) (c : Nat) : Nat := match S c with | some k => k | none => 32 + c
def amin (f : Nat → Nat) : Nat → Nat
  | 0 => 0
  | n + 1 => if f (n + 1) < f (amin f n) then n + 1 else amin f n
def amax (f : Nat → Nat) : Nat → Nat
  | 0 => 0
  | n + 1 => if f (amax f n) ≤ f (n + 1) then n + 1 else amax f n
def lvow (ls : List Nat) : Nat → Nat
  | 0 => ls.length - 1
  | k + 1 => if isVow (ls.getD k 0) then k else lvow ls k
def placeP (S : Sf) (ls : List Nat) (wh : Nat) : Option Nat :=
  if wh = 0 then some 0 else if wh = 2 then some (amin (fun p => rkM S (ls.getD p 0)) (ls.length - 1)) else if wh = 3 then some (amax (fun p => rkM S (ls.getD p 0)) (ls.length - 1)) else if wh = 4 then some (ls.length / 2) else if wh = 5 then some (lvow ls ls.length) else if wh = 6 then none else some (ls.length - 1)
def goP (S : Sf) (ls : List Nat) (sh : Bool) (said day idle : Int32) : List Rl → Option Nat
  | [] => some (ls.length - 1)
  | r :: t => if (evB (askB ls sh said day idle) r.1 []).headD false then placeP S ls r.2 else goP S ls sh said day idle t
theorem amin_c (f : Nat → Nat) : ∀ n, amin f n ≤ n ∧ ∀ q, q ≤ n → f (amin f n) ≤ f q ∧ (q < amin f n → f (amin f n) < f q)
  | 0 => ⟨Nat.le_refl 0, fun q hq => by
    have : q = 0 := by omega
    subst this
    exact ⟨Nat.le_refl _, fun z => absurd z (Nat.lt_irrefl 0)⟩⟩
  | n + 1 => by
    obtain ⟨h1, h2⟩ := amin_c f n
    unfold amin
    by_cases c : f (n + 1) < f (amin f n)
    · rw [if_pos c]
      refine ⟨Nat.le_refl _, fun q hq => ?_⟩
      by_cases e : q = n + 1
      · subst e; exact ⟨Nat.le_refl _, fun z => absurd z (Nat.lt_irrefl _)⟩
      · have := (h2 q (by omega)).1
        exact ⟨by omega, fun _ => by omega⟩
    · rw [if_neg c]
      refine ⟨by omega, fun q hq => ?_⟩
      by_cases e : q = n + 1
      · subst e; exact ⟨by omega, fun z => by omega⟩
      · exact h2 q (by omega)
theorem amin_u {f : Nat → Nat} {n p : Nat} (hp : p ≤ n) (h : ∀ q, q ≤ n → f p ≤ f q ∧ (q < p → f p < f q)) : p = amin f n := by
  obtain ⟨h1, h2⟩ := amin_c f n
  have a := h (amin f n) h1
  have b := h2 p hp
  rcases Nat.lt_trichotomy p (amin f n) with z | z | z
  · have := b.2 z; omega
  · exact z
  · have := a.2 z; omega
theorem amax_c (f : Nat → Nat) : ∀ n, amax f n ≤ n ∧ ∀ q, q ≤ n → f q ≤ f (amax f n) ∧ (amax f n < q → f q < f (amax f n))
  | 0 => ⟨Nat.le_refl 0, fun q hq => by
    have : q = 0 := by omega
    subst this
    exact ⟨Nat.le_refl _, fun z => absurd z (Nat.lt_irrefl 0)⟩⟩
  | n + 1 => by
    obtain ⟨h1, h2⟩ := amax_c f n
    unfold amax
    by_cases c : f (amax f n) ≤ f (n + 1)
    · rw [if_pos c]
      refine ⟨Nat.le_refl _, fun q hq => ?_⟩
      by_cases e : q = n + 1
      · subst e; exact ⟨Nat.le_refl _, fun z => absurd z (Nat.lt_irrefl _)⟩
      · have := (h2 q (by omega)).1
        exact ⟨by omega, fun _ => by omega⟩
    · rw [if_neg c]
      refine ⟨by omega, fun q hq => ?_⟩
      by_cases e : q = n + 1
      · subst e; exact ⟨by omega, fun z => by omega⟩
      · exact h2 q (by omega)
theorem amax_u {f : Nat → Nat} {n p : Nat} (hp : p ≤ n) (h : ∀ q, q ≤ n → f q ≤ f p ∧ (p < q → f q < f p)) : p = amax f n := by
  obtain ⟨h1, h2⟩ := amax_c f n
  have a := h (amax f n) h1
  have b := h2 p hp
  rcases Nat.lt_trichotomy p (amax f n) with z | z | z
  · have := a.2 z; omega
  · exact z
  · have := b.2 z; omega
theorem rk_lt {S : Sf} (h : okS S) {a b : Nat} : rkX S a < rkX S b ↔ rkM S a < rkM S b := by
  unfold rkX rkM
  cases ha : S a with
  | none =>
    cases hb : S b with
    | none => dsimp only; omega
    | some k => have := h b k hb; dsimp only; omega
  | some j =>
    have := h a j ha
    cases hb : S b with
    | none => dsimp only; omega
    | some k => exact Iff.rfl
theorem amin_X {S : Sf} (h : okS S) (g : Nat → Nat) : ∀ n, amin (fun p => rkX S (g p)) n = amin (fun p => rkM S (g p)) n
  | 0 => rfl
  | n + 1 => by
    unfold amin
    rw [amin_X h g n]
    simp only [rk_lt h]
theorem amax_X {S : Sf} (h : okS S) (g : Nat → Nat) : ∀ n, amax (fun p => rkX S (g p)) n = amax (fun p => rkM S (g p)) n
  | 0 => rfl
  | n + 1 => by
    unfold amax
    rw [amax_X h g n]
    simp only [← Nat.not_lt, rk_lt h]
/-- the letter sets that pieces want -/
def wantN (t : Nat) : Nat := if t = 0 then 2130466 else 2 ^ t
theorem want_bit : ∀ t, t < 27 → ∀ c, c < 32 → ((nI (wantN t)) >>> (nI c &&& 31)) &&& 1 = if isSuchB c t then 1 else 0 := by decide +kernel
theorem vow_bit : ∀ c, c < 32 → ((2130466 : Int32) >>> (nI c &&& 31)) &&& 1 = if isVow c then 1 else 0 := by decide +kernel
def setN (ls : List Nat) : Nat := ls.foldl (fun v c => v ||| 2 ^ c) 0
theorem setN_snoc (a : List Nat) (c : Nat) : setN (a ++ [c]) = setN a ||| 2 ^ c := by
  unfold setN
  rw [List.foldl_append]
  rfl
theorem setN_bit (ls : List Nat) (i : Nat) : (setN ls).testBit i = ls.any (fun c => i == c) := by
  suffices ∀ v, (ls.foldl (fun v c => v ||| 2 ^ c) v).testBit i = (v.testBit i || ls.any (fun c => i == c)) by
    have := this 0
    simpa [setN] using this
  induction ls with
  | nil => intro v; simp
  | cons c l ih =>
    intro v
    rw [List.foldl_cons, ih, fb_bit_set]
    simp only [List.any_cons, Bool.or_assoc]
    rfl
theorem fb_andI (a b : Nat) : nI a &&& nI b = nI (a &&& b) := by
  apply Int32.toBitVec_inj.mp
  show BitVec.ofNat 32 a &&& BitVec.ofNat 32 b = BitVec.ofNat 32 (a &&& b)
  exact (BitVec.ofNat_and).symm
theorem fb_orI (a b : Nat) : nI a ||| nI b = nI (a ||| b) := by
  apply Int32.toBitVec_inj.mp
  show BitVec.ofNat 32 a ||| BitVec.ofNat 32 b = BitVec.ofNat 32 (a ||| b)
  exact (BitVec.ofNat_or).symm
