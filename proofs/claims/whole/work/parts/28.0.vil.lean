/-! ===== a VILLAGE ===== -/
/-- meanings, speakers, day, words, known (speaker, word), softness, rules -/
abbrev Vl : Type := Nat × Nat × Nat × List Wd × (Nat → Nat → List Nat) × Sf × List Rl
abbrev vlM (V : Vl) : Nat := V.1
abbrev vlP (V : Vl) : Nat := V.2.1
abbrev vlD (V : Vl) : Nat := V.2.2.1
abbrev vlW (V : Vl) : List Wd := V.2.2.2.1
abbrev vlK (V : Vl) : Nat → Nat → List Nat := V.2.2.2.2.1
abbrev vlS (V : Vl) : Sf := V.2.2.2.2.2.1
abbrev vlR (V : Vl) : List Rl := V.2.2.2.2.2.2
/-- the same village with other words -/
def vlSet (V : Vl) (ws : List Wd) : Vl := (vlM V, vlP V, vlD V, ws, vlK V, vlS V, vlR V)
def wNil : Wd := ([], 0, 0, -1, false, [], [])
def gw (ws : List Wd) (j : Nat) : Wd := ws.getD j wNil
theorem gw_set {ws : List Wd} {a : Nat} (x : Wd) (h : a < ws.length) (b : Nat) : gw (ws.set a x) b = if b = a then x else gw ws b := by
  unfold gw
  by_cases e : b = a
  · subst e
    simp [List.getD, h]
  · rw [if_neg e]
    simp only [List.getD]
    rw [List.getElem?_set_ne (fun z => e z.symm)]
theorem gw_mem {ws : List Wd} {j : Nat} (h : j < ws.length) : gw ws j ∈ ws := by
  unfold gw
  simp only [List.getD, List.getElem?_eq_getElem h, Option.getD_some]
  exact List.getElem_mem h
theorem gw_out {ws : List Wd} {j : Nat} (h : ws.length ≤ j) : gw ws j = wNil := by
  unfold gw
  simp [List.getD, List.getElem?_eq_none h]
def okW2 (w : Wd) : Prop := okW w ∧ (∀ c ∈ wL w, c ≤ 26) ∧ (∀ q ∈ wX w, q.1 ≤ 26) ∧ (∀ c ∈ wF w, c ≤ 26) ∧ (wT w = -1 ∨ ∃ t : Nat, t ≤ 999 ∧ wT w = nI t)
def dist (ws : List Wd) : Prop := ∀ a b, a < ws.length → b < ws.length → a ≠ b → wL (gw ws a) ≠ [] → wL (gw ws a) ≠ wL (gw ws b)
def okWs (ws : List Wd) : Prop := ws.length ≤ 12 ∧ (∀ j, j < ws.length → okW2 (gw ws j)) ∧ dist ws
def okK (l : List Nat) : Prop := okL l ∧ l.length ≤ 8
def okV (V : Vl) : Prop := vlM V ≤ 12 ∧ vlP V ≤ 4 ∧ vlD V ≤ 999 ∧ okWs (vlW V) ∧ (∀ s w, s < vlP V → w < (vlW V).length → okK (vlK V s w)) ∧ okS (vlS V) ∧ okR (vlR V)
theorem nil_get {α : Type} {n : Nat} {q : α} {p : Prop} (h : ([] : List α)[n]? = some q) : p := by simp at h
theorem wNil_ok : okW2 wNil := ⟨⟨fun _ hc => absurd hc List.not_mem_nil, by decide, fun _ _ hq => nil_get hq, by decide, fun _ hc => absurd hc List.not_mem_nil, by decide, fun _ => ⟨rfl, rfl⟩⟩, fun _ hc => absurd hc List.not_mem_nil, fun _ hc => absurd hc List.not_mem_nil, fun _ hc => absurd hc List.not_mem_nil, Or.inl rfl⟩
/-! ===== what becomes of a word ===== -/
theorem okL_er {ls : List Nat} (h : okL ls) (p : Nat) : okL (ls.eraseIdx p) := okL_sub (fun _ hc => List.mem_of_mem_eraseIdx hc) h
theorem getD_memN {ls : List Nat} {k : Nat} (h : k < ls.length) : ls.getD k 0 ∈ ls := by
  simp only [List.getD, List.getElem?_eq_getElem h, Option.getD_some]
  exact List.getElem_mem h
theorem okW2_wear {w : Wd} (h : okW2 w) (hn : wL w ≠ []) {p : Option Nat} (hp : ∀ q, p = some q → q < (wL w).length) {day : Nat} (hd : day ≤ 999) : okW2 (wWear w p (nI day)) := by
  obtain ⟨⟨h1, h2, h3, h4, h5, h6, h7⟩, h8, h9, h10, h11⟩ := h
  have hday : nI day = -1 ∨ ∃ t : Nat, t ≤ 999 ∧ nI day = nI t := Or.inr ⟨day, hd, rfl⟩
  cases p with
  | none => exact ⟨⟨h1, h2, h3, h4, h5, h6, h7⟩, h8, h9, h10, hday⟩
  | some p =>
    have hp : p < (wL w).length := hp p rfl
    have hel : ((wL w).eraseIdx p).length = (wL w).length - 1 := by rw [List.length_eraseIdx, if_pos hp]
    unfold wWear
    dsimp only
    by_cases z : (wL w).eraseIdx p = []
    · rw [if_pos z]
      exact ⟨⟨fun _ hc => absurd hc List.not_mem_nil, (by decide : 0 + 0 ≤ 8), fun _ _ hq => nil_get hq, (by decide : 0 < 4096), h5, h6, fun _ => ⟨rfl, rfl⟩⟩, fun _ hc => absurd hc List.not_mem_nil, fun _ hc => absurd hc List.not_mem_nil, h10, hday⟩
    · rw [if_neg z]
      have hc := h1 _ (getD_memN hp)
      refine ⟨⟨okL_er h1 p, ?_, fun n q hq => ?_, h4, h5, h6, fun e => absurd e z⟩, fun c hc => h8 c (List.mem_of_mem_eraseIdx hc), fun q hq => ?_, h10, hday⟩
      · show ((wL w).eraseIdx p).length + (((wL w).getD p 0, p) :: wX w).length ≤ 8
        simp only [List.length_cons]
        omega
      · show 1 ≤ q.1 ∧ q.1 < 32 ∧ q.2 ≤ ((wL w).eraseIdx p).length + n
        cases n with
        | zero =>
          have hq : ((wL w).getD p 0, p) = q := Option.some.inj hq
          subst hq
          exact ⟨hc.1, hc.2, by dsimp only; omega⟩
        | succ n =>
          have hq : (wX w)[n]? = some q := by have h : (((wL w).getD p 0, p) :: wX w)[n + 1]? = some q := hq; simpa using h
          have := h3 n q hq
          exact ⟨this.1, this.2.1, by omega⟩
      · rcases List.mem_cons.mp hq with rfl | hq
        · exact h8 _ (getD_memN hp)
        · exact h9 q hq
def wGone (w : Wd) : Wd := ([], 0, wS w, wT w, wC w, [], wF w)
def wJoin (a b : Wd) (day : Int32) : Wd := (wL a, wM a ||| wM b, wS a + wS b, day, true, [], wF a)
theorem okW2_gone {w : Wd} (h : okW2 w) : okW2 (wGone w) := by
  obtain ⟨⟨h1, h2, h3, h4, h5, h6, h7⟩, h8, h9, h10, h11⟩ := h
  exact ⟨⟨fun _ hc => absurd hc List.not_mem_nil, (by decide : 0 + 0 ≤ 8), fun _ _ hq => nil_get hq, (by decide : 0 < 4096), h5, h6, fun _ => ⟨rfl, rfl⟩⟩, fun _ hc => absurd hc List.not_mem_nil, fun _ hc => absurd hc List.not_mem_nil, h10, h11⟩
theorem okW2_join {a b : Wd} (h : okW2 a) (hb : okW2 b) (hn : wL a ≠ []) {day : Nat} (hd : day ≤ 999) : okW2 (wJoin a b (nI day)) := by
  obtain ⟨⟨h1, h2, h3, h4, h5, h6, h7⟩, h8, h9, h10, h11⟩ := h
  have hb4 := hb.1.2.2.2.1
  refine ⟨⟨h1, (by show (wL a).length + 0 ≤ 8; omega), fun _ _ hq => nil_get hq, ?_, h5, h6, fun e => absurd e hn⟩, h8, fun _ hc => absurd hc List.not_mem_nil, h10, Or.inr ⟨day, hd, rfl⟩⟩
  exact Nat.or_lt_two_pow (n := 12) h4 hb4
theorem goP_lt {S : Sf} {ls : List Nat} (hn : ls ≠ []) (sh : Bool) (said day idle : Int32) : ∀ (R : List Rl) (q : Nat), goP S ls sh said day idle R = some q → q < ls.length
  | [], q, h => by
    have hl : 0 < ls.length := List.length_pos_iff.mpr hn
    unfold goP at h
    have := Option.some.inj h
    omega
  | r :: t, q, h => by
    have hl : 0 < ls.length := List.length_pos_iff.mpr hn
    unfold goP at h
    split at h
    · unfold placeP at h
      have hv : ∀ k, k ≤ ls.length → lvow ls k < ls.length := by
        intro k
        induction k with
        | zero => intro _; unfold lvow; omega
        | succ k ih => intro hk; unfold lvow; split
                       · omega
                       · exact ih (by omega)
      have h1 := (amin_c (fun p => rkM S (ls.getD p 0)) (ls.length - 1)).1
      have h2 := (amax_c (fun p => rkM S (ls.getD p 0)) (ls.length - 1)).1
      have h3 := hv ls.length (Nat.le_refl _)
      repeat' split at h
      all_goals first | cases h | skip
      all_goals omega
    · exact goP_lt hn sh said day idle t q h
/-- the place that a word loses, said now -/
def goW (V : Vl) (w : Wd) : Option Nat := goP (vlS V) (wL w) (shB (wM w)) (wS w) (mn99 (nI (vlD V))) (mn99 (nI (vlD V) - lat (wT w))) (vlR V)
/-- the first word but one that has these letters -/
def alk (ws : List Wd) (ls : List Nat) (but : Option Nat) : Nat → Nat → Option Nat
  | 0, _ => none
  | r + 1, k => if some k ≠ but ∧ wL (gw ws k) ≠ [] ∧ wL (gw ws k) = ls then some k else alk ws ls but r (k + 1)
theorem alk_none {ws : List Wd} {ls : List Nat} {but : Option Nat} : ∀ (r k : Nat), alk ws ls but r k = none → ∀ q, k ≤ q → q < k + r → some q ≠ but → wL (gw ws q) ≠ [] → wL (gw ws q) ≠ ls
  | 0, k, _, q, h1, h2, _, _, _ => by omega
  | r + 1, k, h, q, h1, h2, h3, h4, h5 => by
    unfold alk at h
    split at h
    · cases h
    · rename_i hc
      by_cases e : q = k
      · subst e; exact hc ⟨h3, h4, h5⟩
      · exact alk_none r (k + 1) h q (by omega) (by omega) h3 h4 h5
theorem alk_some {ws : List Wd} {ls : List Nat} {but : Option Nat} {o : Nat} : ∀ (r k : Nat), alk ws ls but r k = some o → k ≤ o ∧ o < k + r ∧ some o ≠ but ∧ wL (gw ws o) ≠ [] ∧ wL (gw ws o) = ls
  | 0, k, h => by cases h
  | r + 1, k, h => by
    unfold alk at h
    split at h
    · rename_i hc
      have := Option.some.inj h
      subst this
      exact ⟨Nat.le_refl _, by omega, hc⟩
    · have := alk_some r (k + 1) h
      exact ⟨by omega, by omega, this.2.2⟩
def uni (ws : List Wd) (a b : Nat) (day : Int32) : List Wd := (ws.set (min a b) (wJoin (gw ws (min a b)) (gw ws (max a b)) day)).set (max a b) (wGone (gw ws (max a b)))
theorem uni_len (ws : List Wd) (a b : Nat) (day : Int32) : (uni ws a b day).length = ws.length := by unfold uni; rw [List.length_set, List.length_set]
theorem uni_gw {ws : List Wd} {a b : Nat} (ha : a < ws.length) (hb : b < ws.length) (day : Int32) (j : Nat) : gw (uni ws a b day) j = if j = max a b then wGone (gw ws (max a b)) else if j = min a b then wJoin (gw ws (min a b)) (gw ws (max a b)) day else gw ws j := by
  unfold uni
  rw [gw_set _ (by rw [List.length_set]; omega), gw_set _ (by omega)]
/-- the words behind a saying -/
def sayWs (V : Vl) (k : Nat) : List Wd := match alk ((vlW V).set k (wWear (gw (vlW V) k) (goW V (gw (vlW V) k)) (nI (vlD V)))) (wL (wWear (gw (vlW V) k) (goW V (gw (vlW V) k)) (nI (vlD V)))) (some k) (vlW V).length 0 with
  | none => (vlW V).set k (wWear (gw (vlW V) k) (goW V (gw (vlW V) k)) (nI (vlD V)))
  | some o => uni ((vlW V).set k (wWear (gw (vlW V) k) (goW V (gw (vlW V) k)) (nI (vlD V)))) k o (nI (vlD V))
def sayN (V : Vl) (k : Nat) : Nat := match goW V (gw (vlW V) k) with
  | none => 0
  | some _ => 1
theorem sayWs_len (V : Vl) (k : Nat) : (sayWs V k).length = (vlW V).length := by
  unfold sayWs
  split
  · rw [List.length_set]
  · rw [uni_len, List.length_set]
theorem okWs_set {ws : List Wd} (h : okWs ws) {k : Nat} (hk : k < ws.length) {w : Wd} (hw : okW2 w) (hf : ∀ q, q < ws.length → q ≠ k → wL (gw ws q) ≠ [] → wL (gw ws q) ≠ wL w) : okWs (ws.set k w) := by
  obtain ⟨h1, h2, h3⟩ := h
  refine ⟨by rw [List.length_set]; exact h1, fun j hj => ?_, fun a b ha hb hab hn => ?_⟩
  · rw [List.length_set] at hj
    rw [gw_set _ hk]
    split
    · exact hw
    · exact h2 j hj
  · rw [List.length_set] at ha hb
    rw [gw_set _ hk] at hn ⊢
    rw [gw_set _ hk]
    by_cases ea : a = k
    · rw [if_pos ea] at hn ⊢
      rw [if_neg (by omega)]
      intro z
      exact hf b hb (by omega) (by rw [← z]; exact hn) z.symm
    · rw [if_neg ea] at hn ⊢
      by_cases eb : b = k
      · rw [if_pos eb]
        exact hf a ha ea hn
      · rw [if_neg eb]
        exact h3 a b ha hb hab hn
theorem okWs_uni {ws : List Wd} (h1 : ws.length ≤ 12) (h2 : ∀ j, j < ws.length → okW2 (gw ws j)) {a b : Nat} (ha : a < ws.length) (hb : b < ws.length) (hab : a ≠ b) (hn : wL (gw ws a) ≠ []) (he : wL (gw ws b) = wL (gw ws a)) (h3 : ∀ p q, p < ws.length → q < ws.length → p ≠ a → q ≠ a → p ≠ q → wL (gw ws p) ≠ [] → wL (gw ws p) ≠ wL (gw ws q)) {day : Nat} (hd : day ≤ 999) : okWs (uni ws a b (nI day)) := by
  have hlo : wL (gw ws (min a b)) = wL (gw ws a) := by
    by_cases e : a ≤ b
    · rw [Nat.min_eq_left e]
    · rw [Nat.min_eq_right (by omega), he]
  have hx : ∀ j, j < ws.length → j ≠ max a b → j ≠ min a b → j ≠ a ∧ j ≠ b := fun j _ h1 h2 => by omega
  have hL : ∀ j, wL (gw (uni ws a b (nI day)) j) = if j = max a b then [] else if j = min a b then wL (gw ws a) else wL (gw ws j) := fun j => by
    rw [uni_gw ha hb]
    by_cases e1 : j = max a b
    · rw [if_pos e1, if_pos e1]; rfl
    · rw [if_neg e1, if_neg e1]
      by_cases e2 : j = min a b
      · rw [if_pos e2, if_pos e2, ← hlo]; rfl
      · rw [if_neg e2, if_neg e2]
  refine ⟨by rw [uni_len]; exact h1, fun j hj => ?_, fun p q hp hq hpq hpn => ?_⟩
  · rw [uni_len] at hj
    rw [uni_gw ha hb]
    split
    · exact okW2_gone (h2 _ (by omega))
    · split
      · exact okW2_join (h2 _ (by omega)) (h2 _ (by omega)) (by rw [hlo]; exact hn) hd
      · exact h2 j hj
  · rw [uni_len] at hp hq
    rw [hL] at hpn ⊢
    rw [hL]
    by_cases p1 : p = max a b
    · rw [if_pos p1] at hpn; exact absurd rfl hpn
    · rw [if_neg p1] at hpn ⊢
      by_cases q1 : q = max a b
      · rw [if_pos q1]; exact hpn
      · rw [if_neg q1]
        by_cases p2 : p = min a b
        · rw [if_pos p2, if_neg (by omega), ← he]
          have := hx q hq q1 (by omega)
          exact h3 b q hb hq (fun z => hab z.symm) this.1 (fun z => this.2 z.symm) (by rw [he]; exact hn)
        · rw [if_neg p2] at hpn ⊢
          have hp' := hx p hp p1 p2
          by_cases q2 : q = min a b
          · rw [if_pos q2, ← he]
            exact h3 p b hp hb hp'.1 (fun z => hab z.symm) hp'.2 hpn
          · rw [if_neg q2]
            have hq' := hx q hq q1 q2
            exact h3 p q hp hq hp'.1 hq'.1 hpq hpn
theorem goW_lt {V : Vl} {w : Wd} (hn : wL w ≠ []) {q : Nat} (h : goW V w = some q) : q < (wL w).length := goP_lt hn _ _ _ _ _ q h
theorem okWs_say {V : Vl} (hD : vlD V ≤ 999) (h : okWs (vlW V)) {k : Nat} (hk : k < (vlW V).length) (hn : wL (gw (vlW V) k) ≠ []) : okWs (sayWs V k) := by
  have hw := okW2_wear (h.2.1 k hk) hn (p := goW V (gw (vlW V) k)) (fun q hq => goW_lt hn hq) hD
  unfold sayWs
  generalize wWear (gw (vlW V) k) (goW V (gw (vlW V) k)) (nI (vlD V)) = w' at hw ⊢
  split
  · rename_i ha
    refine okWs_set h hk hw (fun q hq hqk hqn => ?_)
    have := alk_none _ _ ha q (Nat.zero_le _) (by omega) (fun z => hqk (Option.some.inj z))
    rw [gw_set _ hk, if_neg hqk] at this
    exact this hqn
  · rename_i o ha
    obtain ⟨-, o1, o2, o3, o4⟩ := alk_some _ _ ha
    have hok : o ≠ k := fun z => o2 (by rw [z])
    rw [gw_set _ hk, if_neg hok] at o3 o4
    refine okWs_uni (by rw [List.length_set]; exact h.1) (fun j hj => ?_) (by rw [List.length_set]; exact hk) (by rw [List.length_set]; omega) (fun z => hok z.symm) ?_ ?_ (fun p q hp hq hpk hqk hpq hpn => ?_) hD
    · rw [List.length_set] at hj
      rw [gw_set _ hk]
      split
      · exact hw
      · exact h.2.1 j hj
    · rw [gw_set _ hk, if_pos rfl, ← o4]; exact o3
    · rw [gw_set _ hk, gw_set _ hk, if_pos rfl, if_neg hok, o4]
    · rw [List.length_set] at hp hq
      rw [gw_set _ hk, if_neg hpk] at hpn ⊢
      rw [gw_set _ hk, if_neg hqk]
      exact h.2.2 p q hp hq hpq hpn
theorem okV_set {V : Vl} (h : okV V) {ws : List Wd} (hw : okWs ws) (hl : ws.length = (vlW V).length) : okV (vlSet V ws) := ⟨h.1, h.2.1, h.2.2.1, hw, fun s w hs hw => h.2.2.2.2.1 s w hs (by rw [← hl]; exact hw), h.2.2.2.2.2⟩
theorem okV_say {V : Vl} (h : okV V) {k : Nat} (hk : k < (vlW V).length) (hn : wL (gw (vlW V) k) ≠ []) : okV (vlSet V (sayWs V k)) := okV_set h (okWs_say h.2.2.1 h.2.2.2.1 hk hn) (sayWs_len V k)
