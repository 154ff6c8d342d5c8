/-! ===== readings: what is counted ===== -/
def fd (f : Nat → Int64) (x : Int64) : Nat → Nat → Option Nat
  | 0, _ => none
  | r + 1, k => if f k = x then some k else fd f x r (k + 1)
theorem fd_lt {f : Nat → Int64} {x : Int64} : ∀ (r k q : Nat), fd f x r k = some q → k ≤ q ∧ q < k + r
  | 0, k, q, h => by cases h
  | r + 1, k, q, h => by
    unfold fd at h
    split at h
    · have := Option.some.inj h; omega
    · have := fd_lt r (k + 1) q h; omega
def stS (f : Nat → Int64) (s : Option Nat) (x : Int64) : Option Nat := match s with
  | none => none
  | some a => match fd f x (40 - a) a with
    | none => none
    | some k => some (k + 1)
theorem stS_le {f : Nat → Int64} {s : Option Nat} {x : Int64} {a : Nat} (h : stS f s x = some a) : a ≤ 40 := by
  unfold stS at h
  split at h
  · cases h
  · split at h
    · cases h
    · rename_i hk
      have := fd_lt _ _ _ hk
      have := Option.some.inj h
      omega
def sm (F : Nat → Nat) : Nat → Nat → Nat
  | 0, _ => 0
  | r + 1, k => F k + sm F r (k + 1)
theorem sm_app (F : Nat → Nat) : ∀ (a b k : Nat), sm F (a + b) k = sm F a k + sm F b (k + a)
  | 0, b, k => by rw [Nat.zero_add, Nat.add_zero]; exact (Nat.zero_add _).symm
  | a + 1, b, k => by
    rw [Nat.succ_add]
    show F k + sm F (a + b) (k + 1) = F k + sm F a (k + 1) + sm F b (k + (a + 1))
    rw [sm_app F a b (k + 1), show k + 1 + a = k + (a + 1) by omega, Nat.add_assoc]
theorem sm_last (F : Nat → Nat) (r k : Nat) : sm F (r + 1) k = sm F r k + F (k + r) := by
  rw [sm_app]
  rfl
theorem sm_cg {F G : Nat → Nat} : ∀ (r k : Nat), (∀ i, k ≤ i → i < k + r → F i = G i) → sm F r k = sm G r k
  | 0, _, _ => rfl
  | r + 1, k, h => by
    unfold sm
    rw [h k (Nat.le_refl k) (by omega), sm_cg r (k + 1) (fun i h1 h2 => h i (by omega) (by omega))]
theorem sm_0 {F : Nat → Nat} : ∀ (r k : Nat), (∀ i, k ≤ i → i < k + r → F i = 0) → sm F r k = 0
  | 0, _, _ => rfl
  | r + 1, k, h => by
    unfold sm
    rw [h k (Nat.le_refl k) (by omega), sm_0 r (k + 1) (fun i h1 h2 => h i (by omega) (by omega))]
theorem sm_dbl (F : Nat → Nat) : ∀ n, sm F (2 * n) 0 = sm (fun i => F (2 * i) + F (2 * i + 1)) n 0
  | 0 => rfl
  | n + 1 => by
    rw [show 2 * (n + 1) = 2 * n + 1 + 1 by omega, sm_last, sm_last, sm_dbl F n, sm_last, Nat.zero_add, Nat.zero_add, Nat.add_assoc, Nat.zero_add]
def upS (σ : Nat → Option Nat) (c a : Nat) : Nat → Option Nat := fun c' => if c' = c then some a else σ c'
/-- how many rows of words there are -/
def cnt (lv : Nat → Bool) (f : Nat → Nat → Int64) (K : Nat) : List Int64 → (Nat → Option Nat) → Nat
  | [], _ => 1
  | x :: t, σ => sm (fun c => if lv c then (match stS (f c) (σ c) x with | none => 0 | some a => cnt lv f K t (upS σ c a)) else 0) K 0
/-- all parts of a row for one word, the rest for others -/
def subS (f : Nat → Int64) : List Int64 → Option Nat → (List Int64 → Nat) → Nat
  | [], s, G => if s.isSome then G [] else 0
  | x :: t, s, G => subS f t s (fun l => G (x :: l)) + subS f t (stS f s x) G
theorem subS_none (f : Nat → Int64) : ∀ (xs : List Int64) (G : List Int64 → Nat), subS f xs none G = 0
  | [], G => rfl
  | x :: t, G => by
    unfold subS
    rw [subS_none f t]
    have : stS f none x = none := rfl
    rw [this, subS_none f t]
theorem subS_0 (f : Nat → Int64) : ∀ (xs : List Int64) (s : Option Nat), subS f xs s (fun _ => 0) = 0
  | [], s => by unfold subS; split <;> rfl
  | x :: t, s => by
    unfold subS
    rw [subS_0 f t, subS_0 f t]
theorem subS_add (f : Nat → Int64) : ∀ (xs : List Int64) (s : Option Nat) (G H : List Int64 → Nat), subS f xs s (fun l => G l + H l) = subS f xs s G + subS f xs s H
  | [], s, G, H => by unfold subS; split <;> rfl
  | x :: t, s, G, H => by
    unfold subS
    rw [subS_add f t, subS_add f t]
    omega
theorem subS_sm (f : Nat → Int64) (xs : List Int64) (s : Option Nat) (G : Nat → List Int64 → Nat) : ∀ (r k : Nat), sm (fun c => subS f xs s (G c)) r k = subS f xs s (fun l => sm (fun c => G c l) r k)
  | 0, k => (subS_0 f xs s).symm
  | r + 1, k => by
    unfold sm
    rw [subS_sm f xs s G r (k + 1), ← subS_add]
theorem cnt_ind {lv : Nat → Bool} {f : Nat → Nat → Int64} {K : Nat} : ∀ (xs : List Int64) (σ τ : Nat → Option Nat), (∀ c, c < K → σ c = τ c) → cnt lv f K xs σ = cnt lv f K xs τ
  | [], σ, τ, h => rfl
  | x :: t, σ, τ, h => by
    unfold cnt
    refine sm_cg K 0 (fun c _ hc => ?_)
    rw [Nat.zero_add] at hc
    rw [h c hc]
    cases stS (f c) (τ c) x with
    | none => rfl
    | some a =>
      dsimp only
      rw [cnt_ind t (upS σ c a) (upS τ c a) (fun c' hc' => by unfold upS; split; rfl; exact h c' hc')]
theorem cnt_skip {lv : Nat → Bool} {f : Nat → Nat → Int64} {K : Nat} (hl : lv K = false) : ∀ (xs : List Int64) (σ : Nat → Option Nat), cnt lv f (K + 1) xs σ = cnt lv f K xs σ
  | [], σ => rfl
  | x :: t, σ => by
    unfold cnt
    rw [sm_last, Nat.zero_add, hl, if_neg (by decide), Nat.add_zero]
    refine sm_cg K 0 (fun c _ hc => ?_)
    cases stS (f c) (σ c) x with
    | none => rfl
    | some a =>
      dsimp only
      rw [cnt_skip hl t]
theorem cnt_word {lv : Nat → Bool} {f : Nat → Nat → Int64} {K : Nat} (hl : lv K = true) : ∀ (xs : List Int64) (σ : Nat → Option Nat), σ K ≠ none → cnt lv f (K + 1) xs σ = subS (f K) xs (σ K) (fun l => cnt lv f K l σ)
  | [], σ, h => by
    unfold subS
    cases hs : σ K with
    | none => exact absurd hs h
    | some a => rfl
  | x :: t, σ, h => by
    have e1 : sm (fun c => if lv c then (match stS (f c) (σ c) x with | none => 0 | some a => cnt lv f (K + 1) t (upS σ c a)) else 0) K 0 = subS (f K) t (σ K) (fun l => cnt lv f K (x :: l) σ) := by
      have : ∀ l, cnt lv f K (x :: l) σ = sm (fun c => if lv c then (match stS (f c) (σ c) x with | none => 0 | some a => cnt lv f K l (upS σ c a)) else 0) K 0 := fun l => rfl
      simp only [this]
      rw [← subS_sm (f K) t (σ K) (fun c l => if lv c then (match stS (f c) (σ c) x with | none => 0 | some a => cnt lv f K l (upS σ c a)) else 0)]
      refine sm_cg K 0 (fun c _ hc => ?_)
      rw [Nat.zero_add] at hc
      cases lv c with
      | false => simp only [Bool.false_eq_true, if_false]; exact (subS_0 _ _ _).symm
      | true =>
        simp only [if_true]
        cases stS (f c) (σ c) x with
        | none => exact (subS_0 _ _ _).symm
        | some a =>
          have eK : upS σ c a K = σ K := by unfold upS; rw [if_neg (by omega)]
          dsimp only
          rw [cnt_word hl t (upS σ c a) (by rw [eK]; exact h), eK]
    have e2 : (if lv K then (match stS (f K) (σ K) x with | none => 0 | some a => cnt lv f (K + 1) t (upS σ K a)) else 0) = subS (f K) t (stS (f K) (σ K) x) (fun l => cnt lv f K l σ) := by
      rw [if_pos hl]
      cases stS (f K) (σ K) x with
      | none => exact (subS_none _ _ _).symm
      | some a =>
        have eK : upS σ K a K = some a := by unfold upS; rw [if_pos rfl]
        dsimp only
        rw [cnt_word hl t (upS σ K a) (by rw [eK]; exact fun z => by cases z), eK]
        congr 1
        funext l
        exact cnt_ind l _ _ (fun c hc => by unfold upS; rw [if_neg (by omega)])
    unfold subS
    rw [← e1, ← e2]
    show sm _ (K + 1) 0 = _
    rw [sm_last, Nat.zero_add]
/-! ===== parts as numbers ===== -/
def sel : Nat → List Int64 → List Int64
  | _, [] => []
  | s, x :: t => if s % 2 = 1 then x :: sel (s / 2) t else sel (s / 2) t
def rnS (f : Nat → Int64) (l : List Int64) (s : Option Nat) : Option Nat := l.foldl (stS f) s
theorem sel_0 : ∀ (hs : List Int64), sel 0 hs = []
  | [] => rfl
  | x :: t => by
    unfold sel
    rw [if_neg (by decide), show 0 / 2 = 0 from rfl, sel_0 t]
theorem sel_all : ∀ (hs : List Int64), sel (2 ^ hs.length - 1) hs = hs
  | [] => rfl
  | x :: t => by
    have h : (2 ^ (x :: t).length - 1) = 2 * (2 ^ t.length - 1) + 1 := by
      rw [List.length_cons, Nat.pow_succ]
      have := Nat.one_le_two_pow (n := t.length)
      omega
    unfold sel
    rw [h, if_pos (by omega), show (2 * (2 ^ t.length - 1) + 1) / 2 = 2 ^ t.length - 1 by omega, sel_all t]
def sb (p s : Nat) : Bool := p &&& s == p
theorem sb_even : ∀ i, i < 32 → ∀ s, s < 64 → sb (2 * i) s = sb i (s / 2) ∧ (s ^^^ (2 * i)) / 2 = s / 2 ^^^ i ∧ (s ^^^ (2 * i)) % 2 = s % 2 := by decide +kernel
theorem sb_odd : ∀ i, i < 32 → ∀ s, s < 64 → sb (2 * i + 1) s = (sb i (s / 2) && s % 2 == 1) ∧ (s ^^^ (2 * i + 1)) / 2 = s / 2 ^^^ i ∧ (s ^^^ (2 * i + 1)) % 2 = 1 - s % 2 := by decide +kernel
theorem sub_sum (f : Nat → Int64) : ∀ (hs : List Int64) (s : Nat) (st : Option Nat) (G : List Int64 → Nat), hs.length ≤ 6 → s < 2 ^ hs.length → subS f (sel s hs) st G = sm (fun p => if sb p s = true ∧ (rnS f (sel p hs) st).isSome = true then G (sel (s ^^^ p) hs) else 0) (2 ^ hs.length) 0
  | [], s, st, G, h6, hs => by
    have hs : s < 1 := hs
    have : s = 0 := by omega
    subst this
    show (if st.isSome then G [] else 0) = (if sb 0 0 = true ∧ st.isSome = true then G [] else 0) + 0
    rw [Nat.add_zero, show sb 0 0 = true from rfl]
    by_cases c : st.isSome = true
    · rw [if_pos c, if_pos ⟨rfl, c⟩]
    · rw [if_neg c, if_neg (fun z => c z.2)]
  | x :: t, s, st, G, h6, hs => by
    have h6 : t.length + 1 ≤ 6 := h6
    have hl : (x :: t).length = t.length + 1 := rfl
    have p32 : 2 ^ t.length ≤ 2 ^ 5 := Nat.pow_le_pow_right (by decide) (by omega)
    rw [hl, Nat.pow_succ] at hs
    have hs64 : s < 64 := by omega
    rw [hl, Nat.pow_succ, Nat.mul_comm, sm_dbl]
    have ih := fun st G => sub_sum f t (s / 2) st G (by omega) (by omega)
    have hse : ∀ i, sel (2 * i) (x :: t) = sel i t := fun i => by
      show (if 2 * i % 2 = 1 then _ else _) = _
      rw [if_neg (by omega), show 2 * i / 2 = i by omega]
    have hso : ∀ i, sel (2 * i + 1) (x :: t) = x :: sel i t := fun i => by
      show (if (2 * i + 1) % 2 = 1 then _ else _) = _
      rw [if_pos (by omega), show (2 * i + 1) / 2 = i by omega]
    have hsx : ∀ q, sel q (x :: t) = if q % 2 = 1 then x :: sel (q / 2) t else sel (q / 2) t := fun q => rfl
    by_cases c : s % 2 = 1
    · rw [hsx s, if_pos c]
      unfold subS
      rw [ih, ih]
      have := subS_sm
      have hadd : ∀ (F G : Nat → Nat) (r k : Nat), sm F r k + sm G r k = sm (fun i => F i + G i) r k := by
        intro F G r
        induction r with
        | zero => intro k; rfl
        | succ r ih =>
          intro k
          unfold sm
          rw [← ih (k + 1)]
          omega
      rw [hadd]
      refine sm_cg _ 0 (fun i _ hi => ?_)
      rw [Nat.zero_add] at hi
      obtain ⟨a1, a2, a3⟩ := sb_even i (by omega) s hs64
      obtain ⟨b1, b2, b3⟩ := sb_odd i (by omega) s hs64
      have cb : (s % 2 == 1) = true := by rw [c]; rfl
      rw [hse, hso, a1, b1, cb, Bool.and_true, hsx (s ^^^ (2 * i)), a2, a3, if_pos c, hsx (s ^^^ (2 * i + 1)), b2, b3, if_neg (show ¬ 1 - s % 2 = 1 by omega)]
      rfl
    · rw [hsx s, if_neg c, ih]
      refine sm_cg _ 0 (fun i _ hi => ?_)
      rw [Nat.zero_add] at hi
      obtain ⟨a1, a2, a3⟩ := sb_even i (by omega) s hs64
      obtain ⟨b1, b2, b3⟩ := sb_odd i (by omega) s hs64
      have cb : (s % 2 == 1) = false := by
        have : s % 2 = 0 := by omega
        rw [this]; rfl
      rw [hse, a1, b1, cb, Bool.and_false, if_neg (c := (false = true ∧ _)) (fun z => by cases z.1), Nat.add_zero, hsx (s ^^^ (2 * i)), a2, a3, if_neg c]
theorem top_bit : ∀ s, s < 64 → 2 ≤ s → (s ^^^ 2 ^ (Nat.log2 s)) % 2 = s % 2 ∧ (s ^^^ 2 ^ (Nat.log2 s)) / 2 = (s / 2) ^^^ 2 ^ (Nat.log2 (s / 2)) ∧ Nat.log2 s = Nat.log2 (s / 2) + 1 := by decide +kernel
theorem sel_top : ∀ (hs : List Int64) (s : Nat), hs.length ≤ 6 → 1 ≤ s → s < 2 ^ hs.length → sel s hs = sel (s ^^^ 2 ^ (Nat.log2 s)) hs ++ [hs.getD (Nat.log2 s) 0]
  | [], s, h6, h1, hs => by have hs : s < 1 := hs; omega
  | x :: t, s, h6, h1, hs => by
    have h6 : t.length + 1 ≤ 6 := h6
    have hl : (x :: t).length = t.length + 1 := rfl
    have p32 : 2 ^ t.length ≤ 2 ^ 5 := Nat.pow_le_pow_right (by decide) (by omega)
    rw [hl, Nat.pow_succ] at hs
    have hsx : ∀ q, sel q (x :: t) = if q % 2 = 1 then x :: sel (q / 2) t else sel (q / 2) t := fun q => rfl
    by_cases c : s = 1
    · subst c
      rw [show (1 ^^^ 2 ^ Nat.log2 1) = 0 by decide, sel_0, show Nat.log2 1 = 0 by decide, hsx, if_pos (by decide), show 1 / 2 = 0 from rfl, sel_0]
      rfl
    · obtain ⟨a1, a2, a3⟩ := top_bit s (by omega) (by omega)
      rw [hsx s, hsx (s ^^^ 2 ^ Nat.log2 s), a1, a2, sel_top t (s / 2) (by omega) (by omega) (by omega), a3]
      have : (x :: t).getD (Nat.log2 (s / 2) + 1) 0 = t.getD (Nat.log2 (s / 2)) 0 := by simp [List.getD]
      rw [this]
      split <;> rfl
theorem rn_top {f : Nat → Int64} {hs : List Int64} {s : Nat} (h6 : hs.length ≤ 6) (h1 : 1 ≤ s) (h : s < 2 ^ hs.length) (st : Option Nat) : rnS f (sel s hs) st = stS f (rnS f (sel (s ^^^ 2 ^ (Nat.log2 s)) hs) st) (hs.getD (Nat.log2 s) 0) := by
  rw [sel_top hs s h6 h1 h]
  unfold rnS
  rw [List.foldl_append]
  rfl
theorem rn_le {f : Nat → Int64} : ∀ (l : List Int64) (s : Option Nat) (a : Nat), (∀ b, s = some b → b ≤ 40) → rnS f l s = some a → a ≤ 40
  | [], s, a, h, h2 => h a h2
  | x :: t, s, a, h, h2 => rn_le t (stS f s x) a (fun b hb => stS_le hb) h2
/-- a word more, set by set -/
theorem cnt_step {lv : Nat → Bool} {f : Nat → Nat → Int64} {K : Nat} (hl : lv K = true) {hs : List Int64} (h6 : hs.length ≤ 6) {s : Nat} (h : s < 2 ^ hs.length) : cnt lv f (K + 1) (sel s hs) (fun _ => some 0) = cnt lv f K (sel s hs) (fun _ => some 0) + sm (fun p => if sb p s = true ∧ (rnS (f K) (sel p hs) (some 0)).isSome = true then cnt lv f K (sel (s ^^^ p) hs) (fun _ => some 0) else 0) s 1 := by
  rw [cnt_word hl _ _ (fun z => by cases z), sub_sum _ hs s _ _ h6 h]
  obtain ⟨r, hr⟩ : ∃ r, 2 ^ hs.length = 1 + (s + r) := ⟨2 ^ hs.length - 1 - s, by omega⟩
  rw [hr, sm_app, sm_app]
  have e0 : sm (fun p => if sb p s = true ∧ (rnS (f K) (sel p hs) (some 0)).isSome = true then cnt lv f K (sel (s ^^^ p) hs) (fun _ => some 0) else 0) 1 0 = cnt lv f K (sel s hs) (fun _ => some 0) := by
    show (if sb 0 s = true ∧ (rnS (f K) (sel 0 hs) (some 0)).isSome = true then cnt lv f K (sel (s ^^^ 0) hs) (fun _ => some 0) else 0) + 0 = _
    rw [sel_0, Nat.xor_zero, Nat.add_zero]
    have : sb 0 s = true := by unfold sb; rw [Nat.zero_and]; rfl
    rw [if_pos ⟨this, rfl⟩]
  have e2 : sm (fun p => if sb p s = true ∧ (rnS (f K) (sel p hs) (some 0)).isSome = true then cnt lv f K (sel (s ^^^ p) hs) (fun _ => some 0) else 0) r (0 + 1 + s) = 0 := sm_0 _ _ (fun i h1 h2 => by
    refine if_neg (fun z => ?_)
    have z1 := z.1
    unfold sb at z1
    have z1 : i &&& s = i := by simpa using z1
    have := Nat.and_le_right (n := i) (m := s)
    omega)
  rw [e0, e2, Nat.add_zero]
