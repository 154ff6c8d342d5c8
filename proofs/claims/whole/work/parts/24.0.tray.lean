/-! ===== trays ===== -/
theorem jt_cd {α : Type} (p : Prop) [Decidable p] (a b : α) : cond (decide p) a b = if p then a else b := by
  by_cases h : p
  · rw [decide_eq_true h, if_pos h]; rfl
  · rw [decide_eq_false h, if_neg h]; rfl
/-- only these slots have changed -/
def jk (P : Nat → Nat → Prop) (μ μ' : jm_M) : Prop := ∀ K k, ¬ P K k → ∀ i j, μ'.1 K i j k = μ.1 K i j k ∧ μ'.2 K i j k = μ.2 K i j k
theorem jk.rf {P : Nat → Nat → Prop} {μ : jm_M} : jk P μ μ := fun _ _ _ _ _ => ⟨rfl, rfl⟩
theorem jk.tr {P : Nat → Nat → Prop} {a b c : jm_M} (h1 : jk P a b) (h2 : jk P b c) : jk P a c := fun K k h i j => ⟨(h2 K k h i j).1.trans (h1 K k h i j).1, (h2 K k h i j).2.trans (h1 K k h i j).2⟩
theorem jk.weak {P Q : Nat → Nat → Prop} {a b : jm_M} (h : jk P a b) (hw : ∀ K k, P K k → Q K k) : jk Q a b := fun K k hq i j => h K k (fun z => hq (hw K k z)) i j
theorem jk_I {P : Nat → Nat → Prop} {μ : jm_M} {K i j k : Nat} {x : Int32} (h : P K k) : jk P μ (jm_sI μ K i j k x) := fun K' k' hn i' j' => by
  refine ⟨?_, rfl⟩
  show jm_uI μ.1 K i j k x K' i' j' k' = _
  rw [jt_II, if_neg]
  rintro ⟨rfl, -, -, rfl⟩
  exact hn h
theorem jk_L {P : Nat → Nat → Prop} {μ : jm_M} {K i j k : Nat} {x : Int64} (h : P K k) : jk P μ (jm_sL μ K i j k x) := fun K' k' hn i' j' => by
  refine ⟨rfl, ?_⟩
  show jm_uL μ.2 K i j k x K' i' j' k' = _
  rw [jt_LL, if_neg]
  rintro ⟨rfl, -, -, rfl⟩
  exact hn h
abbrev Tr : Type := Nat → Option (Nat × Nat × (Nat → Int64))
def xT1 (q : Option (Nat × Nat × (Nat → Int64))) (t : Nat) (μ : jm_M) : Prop := match q with
  | none => μ.1 2 t 0 1 = -1
  | some (so, sz, f) => so < 4 ∧ sz ≤ 60 ∧ μ.1 2 t 0 1 = nI so ∧ μ.1 2 t 0 2 = nI sz ∧ ∀ k, k < sz → μ.2 3 t 0 k = f k
def mT1 (q : Option (Nat × Nat × (Nat → Int64))) (t : Nat) (μ : jm_M) : Prop := match q with
  | none => μ.1 44 0 0 t = -1
  | some (so, sz, f) => so < 4 ∧ sz ≤ 60 ∧ μ.1 43 0 0 t = nI so ∧ μ.1 44 0 0 t = nI sz ∧ ∀ k, k < sz → μ.2 45 0 0 (60 * t + k) = f k
def xT (T : Tr) (μ : jm_M) : Prop := ∀ t, t < 4 → xT1 (T t) t μ
def mT (T : Tr) (μ : jm_M) : Prop := ∀ t, t < 4 → mT1 (T t) t μ
theorem xT_k {T : Tr} {μ μ' : jm_M} (h : xT T μ) (h2 : ∀ i j k, μ'.1 2 i j k = μ.1 2 i j k) (h3 : ∀ i j k, μ'.2 3 i j k = μ.2 3 i j k) : xT T μ' := fun t ht => by
  have := h t ht
  unfold xT1 at this ⊢
  split
  · rename_i e; rw [e] at this; rw [h2]; exact this
  · rename_i so sz f e
    rw [e] at this
    exact ⟨this.1, this.2.1, by rw [h2]; exact this.2.2.1, by rw [h2]; exact this.2.2.2.1, fun k hk => by rw [h3]; exact this.2.2.2.2 k hk⟩
theorem mT_k {T : Tr} {μ μ' : jm_M} (h : mT T μ) (h2 : ∀ i j k, μ'.1 43 i j k = μ.1 43 i j k) (h4 : ∀ i j k, μ'.1 44 i j k = μ.1 44 i j k) (h3 : ∀ i j k, μ'.2 45 i j k = μ.2 45 i j k) : mT T μ' := fun t ht => by
  have := h t ht
  unfold mT1 at this ⊢
  split
  · rename_i e; rw [e] at this; rw [h4]; exact this
  · rename_i so sz f e
    rw [e] at this
    exact ⟨this.1, this.2.1, by rw [h2]; exact this.2.2.1, by rw [h4]; exact this.2.2.2.1, fun k hk => by rw [h3]; exact this.2.2.2.2 k hk⟩
theorem jt_t4 (x : Int32) : (x < 0 ∨ 4 ≤ x) ∨ ∃ t : Nat, t < 4 ∧ x = nI t := by
  rcases jt_ix3 x (n := 4) (by decide) with h | h | ⟨j, h1, h2⟩
  · exact Or.inl (Or.inl h)
  · exact Or.inl (Or.inr h)
  · exact Or.inr ⟨j, h1, h2⟩
theorem s_X11_isTray (d : Nat) (x : Int32) (m : jm_M) : jm_sem false (d + 1) jn_X11_isTray [.inl x] m = if x < 0 ∨ 4 ≤ x then some (.inl 0, m) else some (.inl 1, m) := by
  rw [e_X11_isTray, jt_c, jt_cd, jt_cd]
  by_cases h1 : x < 0
  · simp [h1]
  · simp [h1]
theorem s_X12_isTray (d : Nat) (x : Int32) (m : jm_M) : jm_sem false (d + 1) jn_X12_isTray [.inl x] m = if x < 0 ∨ 4 ≤ x then some (.inl 0, m) else some (.inl 1, m) := by
  rw [e_X12_isTray, jt_c, jt_cd, jt_cd]
  by_cases h1 : x < 0
  · simp [h1]
  · simp [h1]
theorem jt_4n {t : Nat} (h : t < 4) : ¬ (nI t < 0 ∨ 4 ≤ nI t) := by
  have := nI_toInt (n := t) (by omega)
  simp only [Int32.lt_iff_toInt_lt, Int32.le_iff_toInt_le, this, show (0 : Int32).toInt = 0 by decide, show (4 : Int32).toInt = 4 by decide]
  omega
theorem jt_m1 {n : Nat} (h : n < 2 ^ 31) : nI n ≠ -1 := by
  intro z
  have := congrArg Int32.toInt z
  rw [nI_toInt h, show (-1 : Int32).toInt = -1 by decide] at this
  omega
theorem jt_t0 : (0 : Int32).toInt = 0 := by decide
theorem jt_t1 : (1 : Int32).toInt = 1 := by decide
/-- is a place in a tray wrong, and how -/
def wpA (T : Tr) (x1 x2 : Int32) : Int32 := if x1 < 0 ∨ 4 ≤ x1 then 1 else match T (jm_ix x1) with
  | none => 2
  | some (_, sz, _) => if x2 < 0 ∨ nI sz ≤ x2 then 3 else 0
theorem wpA_0 {T : Tr} {x1 x2 : Int32} (h : wpA T x1 x2 = 0) : ∃ t p so sz f, t < 4 ∧ x1 = nI t ∧ x2 = nI p ∧ T t = some (so, sz, f) ∧ (sz < 2 ^ 31 → p < sz) ∧ ¬ nI sz ≤ x2 ∧ ¬ x2 < 0 := by
  unfold wpA at h
  rcases jt_t4 x1 with hx | ⟨t, ht, rfl⟩
  · rw [if_pos hx] at h; exact absurd h (by decide)
  · rw [if_neg (jt_4n ht), jt_ix (by omega)] at h
    cases hT : T t with
    | none => rw [hT] at h; exact absurd (show (2 : Int32) = 0 from h) (by decide)
    | some q =>
      obtain ⟨so, sz, f⟩ := q
      rw [hT] at h
      dsimp only at h
      by_cases h2 : x2 < 0 ∨ nI sz ≤ x2
      · rw [if_pos h2] at h; exact absurd h (by decide)
      · obtain ⟨p, hp, rfl⟩ := nI_of (fun z => h2 (Or.inl z))
        refine ⟨t, p, so, sz, f, ht, rfl, rfl, hT, fun hz => ?_, fun z => h2 (Or.inr z), fun z => h2 (Or.inl z)⟩
        rcases Nat.lt_or_ge p sz with z | z
        · exact z
        · exact absurd (nI_le z hp) (fun y => h2 (Or.inr y))
theorem sx_wrongPlace {T : Tr} {μ : jm_M} (h : xT T μ) (d : Nat) (x1 x2 : Int32) : jm_sem false (d + 2) jn_X11_wrongPlace [vX, .inl x1, .inl x2] μ = some (.inl (wpA T x1 x2), μ) := by
  rcases jt_t4 x1 with hx | ⟨t, ht, rfl⟩
  · unfold wpA
    rw [if_pos hx]
    simp only [e_X11_wrongPlace, s_X11_isTray, if_pos hx, jt_bi]
    rfl
  · have h4 := jt_4n ht
    have hin := jt_in ht (by decide)
    have hix := jt_ix (n := t) (by omega)
    have hq := h t ht
    unfold wpA
    rw [if_neg h4, hix]
    cases hT : T t with
    | none =>
      rw [hT] at hq
      have hq : μ.1 2 t 0 1 = -1 := hq
      simp only [e_X11_wrongPlace, s_X11_isTray, if_neg h4, jt_bi, hin, hix, e_X7_isMissing, hq, jt_c, jt_cd, Bool.and_true]
      rfl
    | some q =>
      obtain ⟨so, sz, f⟩ := q
      rw [hT] at hq
      obtain ⟨hso, hsz, h1, h3, h6⟩ := hq
      have hm1 := jt_m1 (n := so) (by omega)
      have tz := nI_toInt (n := sz) (by omega)
      simp only [e_X11_wrongPlace, s_X11_isTray, if_neg h4, jt_bi, hin, hix, e_X7_isMissing, e_X7_hasRun, h1, h3, jt_c, jt_cd, Bool.and_true, cond_true, if_pos hm1, ne_eq, show ¬ ((1 : Int32) = 0) by decide, not_false_eq_true, if_true, show ¬ ((1 : Int32) < 0) by decide, if_false]
      by_cases a : x2 < 0
      · simp [a, jt_bi]
      · have e : (nI sz < 1 ∨ nI sz - 1 < x2) ↔ nI sz ≤ x2 := by
          obtain ⟨p, hp, rfl⟩ := nI_of a
          rw [nI_leI (by omega) hp]
          cases sz with
          | zero => exact ⟨fun _ => by omega, fun _ => Or.inl (by decide)⟩
          | succ z =>
            rw [nI_pred, nI_ltI (by omega) hp, Int32.lt_iff_toInt_lt, tz, jt_t1]
            omega
        by_cases b : nI sz < 1
        · have := e.mp (Or.inl b)
          simp [a, b, this, jt_bi]
        · by_cases c : nI sz - 1 < x2
          · have := e.mp (Or.inr c)
            simp [a, b, c, this, jt_bi]
          · have : ¬ nI sz ≤ x2 := fun z => by rcases e.mpr z with y | y; exact b y; exact c y
            simp [a, b, c, this, jt_bi]
theorem sm_wrongPlace {T : Tr} {μ : jm_M} (h : mT T μ) (d : Nat) (x1 x2 : Int32) : jm_sem false (d + 2) jn_X12_wrongPlace [vM, .inl x1, .inl x2] μ = some (.inl (wpA T x1 x2), μ) := by
  rcases jt_t4 x1 with hx | ⟨t, ht, rfl⟩
  · unfold wpA
    rw [if_pos hx]
    simp only [e_X12_wrongPlace, s_X12_isTray, if_pos hx, jt_bi]
    rfl
  · have h4 := jt_4n ht
    have hin := jt_in ht (by decide)
    have hix := jt_ix (n := t) (by omega)
    have hq := h t ht
    unfold wpA
    rw [if_neg h4, hix]
    cases hT : T t with
    | none =>
      rw [hT] at hq
      have hq : μ.1 44 0 0 t = -1 := hq
      simp only [e_X12_wrongPlace, s_X12_isTray, if_neg h4, jt_bi, hin, hix, hq, jt_c, jt_cd]
      rfl
    | some q =>
      obtain ⟨so, sz, f⟩ := q
      rw [hT] at hq
      obtain ⟨hso, hsz, h1, h3, h6⟩ := hq
      have hm1 := jt_m1 (n := sz) (by omega)
      simp only [e_X12_wrongPlace, s_X12_isTray, if_neg h4, jt_bi, hin, hix, h3, jt_c, jt_cd, cond_true, if_pos hm1, ne_eq, show ¬ ((1 : Int32) = 0) by decide, not_false_eq_true, if_true]
      by_cases a : x2 < 0
      · simp [a]
      · by_cases b : x2 < nI sz
        · have : ¬ nI sz ≤ x2 := Int32.not_le.mpr b
          simp [a, b, this]
        · have : nI sz ≤ x2 := Int32.not_lt.mp b
          simp [a, b, this]
