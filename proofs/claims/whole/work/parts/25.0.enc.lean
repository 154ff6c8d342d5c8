/-! ===== letters as a number ===== -/
def enc (ls : List Nat) : Nat := ls.foldl (fun v c => 32 * v + c) 0
theorem enc_fold (ls : List Nat) : ∀ v, ls.foldl (fun v c => 32 * v + c) v = v * 32 ^ ls.length + enc ls := by
  induction ls with
  | nil => intro v; simp [enc]
  | cons c l ih =>
    intro v
    have h1 := ih (32 * v + c)
    have h2 := ih (32 * 0 + c)
    unfold enc
    simp only [List.foldl_cons, List.length_cons]
    rw [h1, h2, Nat.pow_succ]
    simp only [Nat.mul_zero, Nat.zero_add, Nat.add_mul]
    rw [Nat.mul_comm 32 v, Nat.mul_assoc, Nat.mul_comm 32, Nat.add_assoc]
theorem enc_nil : enc [] = 0 := rfl
theorem enc_cons (c : Nat) (l : List Nat) : enc (c :: l) = c * 32 ^ l.length + enc l := by
  have := enc_fold l (32 * 0 + c)
  unfold enc
  rw [List.foldl_cons, this]
  simp [enc]
theorem enc_app (a b : List Nat) : enc (a ++ b) = enc a * 32 ^ b.length + enc b := by
  unfold enc
  rw [List.foldl_append]
  exact enc_fold b _
/-- letters are from 1 to 31 -/
def okL (ls : List Nat) : Prop := ∀ c ∈ ls, 1 ≤ c ∧ c < 32
theorem okL_app {a b : List Nat} (ha : okL a) (hb : okL b) : okL (a ++ b) := fun c hc => by
  rcases List.mem_append.mp hc with h | h
  · exact ha c h
  · exact hb c h
theorem okL_sub {a b : List Nat} (h : ∀ c ∈ a, c ∈ b) (hb : okL b) : okL a := fun c hc => hb c (h c hc)
theorem enc_lt {ls : List Nat} (h : okL ls) : enc ls < 32 ^ ls.length := by
  induction ls with
  | nil => decide
  | cons c l ih =>
    have h1 := ih (fun x hx => h x (List.mem_cons_of_mem _ hx))
    have h2 := (h c List.mem_cons_self).2
    rw [enc_cons, List.length_cons, Nat.pow_succ]
    have : c * 32 ^ l.length ≤ 31 * 32 ^ l.length := Nat.mul_le_mul_right _ (by omega)
    omega
theorem enc_ge {c : Nat} {l : List Nat} (h : okL (c :: l)) : 32 ^ l.length ≤ enc (c :: l) := by
  have h2 := (h c List.mem_cons_self).1
  rw [enc_cons]
  have : 1 * 32 ^ l.length ≤ c * 32 ^ l.length := Nat.mul_le_mul_right _ h2
  omega
theorem enc_pos {ls : List Nat} (h : okL ls) (hn : ls ≠ []) : 0 < enc ls := by
  cases ls with
  | nil => exact absurd rfl hn
  | cons c l => exact Nat.lt_of_lt_of_le (Nat.pow_pos (by decide)) (enc_ge h)
theorem enc_0 {ls : List Nat} (h : okL ls) : enc ls = 0 ↔ ls = [] := by
  constructor
  · intro e
    cases ls with
    | nil => rfl
    | cons c l => have := enc_pos h (by simp); omega
  · intro e; rw [e]; rfl
theorem enc_len {a b : List Nat} (ha : okL a) (hb : okL b) (h : enc a = enc b) : a.length = b.length := by
  have key : ∀ {a b : List Nat}, okL a → okL b → enc a = enc b → a.length ≤ b.length := by
    intro a b ha hb h
    rcases Nat.lt_or_ge b.length a.length with z | z
    · exfalso
      cases a with
      | nil => simp at z
      | cons c l =>
        have h1 := enc_ge ha
        have h2 := enc_lt hb
        have h3 : 32 ^ b.length ≤ 32 ^ l.length := Nat.pow_le_pow_right (by decide) (by simp at z; omega)
        omega
    · exact z
  exact Nat.le_antisymm (key ha hb h) (key hb ha h.symm)
theorem enc_inj0 : ∀ {a b : List Nat}, okL a → okL b → a.length = b.length → enc a = enc b → a = b
  | [], [], _, _, _, _ => rfl
  | [], _ :: _, _, _, hl, _ => by cases hl
  | _ :: _, [], _, _, hl, _ => by cases hl
  | c :: l, c' :: l', ha, hb, hl, h => by
    have hl2 : l.length = l'.length := by simpa using hl
    have ha' : okL l := fun x hx => ha x (List.mem_cons_of_mem _ hx)
    have hb' : okL l' := fun x hx => hb x (List.mem_cons_of_mem _ hx)
    rw [enc_cons, enc_cons, hl2] at h
    have h1 := enc_lt ha'
    have h2 := enc_lt hb'
    rw [hl2] at h1
    have hp : 0 < 32 ^ l'.length := Nat.pow_pos (by decide)
    have e1 : c = c' := by
      have := congrArg (· / 32 ^ l'.length) h
      simp only [Nat.mul_comm _ (32 ^ l'.length), Nat.mul_add_div hp, Nat.div_eq_of_lt h1, Nat.div_eq_of_lt h2, Nat.add_zero] at this
      exact this
    subst e1
    rw [enc_inj0 ha' hb' hl2 (by omega)]
theorem enc_inj {a b : List Nat} (ha : okL a) (hb : okL b) : enc a = enc b ↔ a = b := ⟨fun h => enc_inj0 ha hb (enc_len ha hb h) h, fun h => by rw [h]⟩
theorem enc_div {a b : List Nat} (hb : okL b) : enc (a ++ b) / 32 ^ b.length = enc a := by
  rw [enc_app, Nat.mul_comm, Nat.mul_add_div (Nat.pow_pos (by decide)), Nat.div_eq_of_lt (enc_lt hb), Nat.add_zero]
theorem enc_mod {a b : List Nat} (hb : okL b) : enc (a ++ b) % 32 ^ b.length = enc b := by
  rw [enc_app, Nat.mul_comm, Nat.mul_add_mod, Nat.mod_eq_of_lt (enc_lt hb)]
/-- the first i letters -/
theorem enc_take {ls : List Nat} (h : okL ls) {i : Nat} (hi : i ≤ ls.length) : enc ls / 32 ^ (ls.length - i) = enc (ls.take i) := by
  have h1 := enc_div (a := ls.take i) (b := ls.drop i) (okL_sub (fun c hc => List.mem_of_mem_drop hc) h)
  rw [List.take_append_drop, List.length_drop] at h1
  exact h1
/-- the last j letters -/
theorem enc_drop {ls : List Nat} (h : okL ls) {j : Nat} (hj : j ≤ ls.length) : enc ls % 32 ^ j = enc (ls.drop (ls.length - j)) := by
  have h1 := enc_mod (a := ls.take (ls.length - j)) (b := ls.drop (ls.length - j)) (okL_sub (fun c hc => List.mem_of_mem_drop hc) h)
  rw [List.take_append_drop, List.length_drop, show ls.length - (ls.length - j) = j by omega] at h1
  exact h1
theorem enc_snoc (a : List Nat) (c : Nat) : enc (a ++ [c]) = 32 * enc a + c := by
  rw [enc_app]
  simp [enc, Nat.mul_comm]
/-- the letter at a place -/
theorem enc_at {ls : List Nat} (h : okL ls) {p : Nat} (hp : p < ls.length) : enc ls / 32 ^ (ls.length - 1 - p) % 32 = ls.getD p 0 := by
  have h1 := enc_take h (i := p + 1) (by omega)
  rw [show ls.length - (p + 1) = ls.length - 1 - p by omega] at h1
  rw [h1, List.take_succ_eq_append_getElem hp, enc_snoc, Nat.mul_add_mod]
  have h2 := (h ls[p] (List.getElem_mem hp)).2
  rw [Nat.mod_eq_of_lt h2]
  simp [List.getD, List.getElem?_eq_getElem hp]
theorem pow32 (n : Nat) : 32 ^ n = 2 ^ (5 * n) := by rw [Nat.pow_mul]
theorem enc_40 {ls : List Nat} (h : okL ls) (h8 : ls.length ≤ 8) : enc ls < 2 ^ 40 := by
  have h1 := enc_lt h
  have h2 : 32 ^ ls.length ≤ 32 ^ 8 := Nat.pow_le_pow_right (by decide) h8
  have h3 : (32 : Nat) ^ 8 = 2 ^ 40 := by decide
  omega
