/-! ===== write, read ===== -/
theorem rd_II (m : jm_M) (K i j k : Nat) (x : Int32) (K' i' j' k' : Nat) : (jm_sI m K i j k x).1 K' i' j' k' = if K' = K ∧ i' = i ∧ j' = j ∧ k' = k then x else m.1 K' i' j' k' := jt_II m K i j k x K' i' j' k'
theorem rd_IL (m : jm_M) (K i j k : Nat) (x : Int32) : (jm_sI m K i j k x).2 = m.2 := rfl
theorem rd_LI (m : jm_M) (K i j k : Nat) (x : Int64) : (jm_sL m K i j k x).1 = m.1 := rfl
theorem rd_LL (m : jm_M) (K i j k : Nat) (x : Int64) (K' i' j' k' : Nat) : (jm_sL m K i j k x).2 K' i' j' k' = if K' = K ∧ i' = i ∧ j' = j ∧ k' = k then x else m.2 K' i' j' k' := jt_LL m K i j k x K' i' j' k'
theorem ru_I (f : jm_MI) (K i j k : Nat) (x : Int32) (K' i' j' k' : Nat) : jm_uI f K i j k x K' i' j' k' = if K' = K ∧ i' = i ∧ j' = j ∧ k' = k then x else f K' i' j' k' := jt_II (f, fun _ _ _ _ => 0) K i j k x K' i' j' k'
theorem ru_L (f : jm_ML) (K i j k : Nat) (x : Int64) (K' i' j' k' : Nat) : jm_uL f K i j k x K' i' j' k' = if K' = K ∧ i' = i ∧ j' = j ∧ k' = k then x else f K' i' j' k' := jt_LL (fun _ _ _ _ => 0, f) K i j k x K' i' j' k'
def jcut (so : Nat) (y : Int64) : Int64 := if so = 0 then y.toInt32.toInt8.toInt32.toInt64 else if so = 1 then y.toInt32.toInt16.toInt32.toInt64 else if so = 2 then y.toInt32.toInt64 else y
def trPut (T : Tr) (t p : Nat) (y : Int64) : Tr := fun t' => if t' = t then (match T t with | none => none | some (so, sz, f) => some (so, sz, fun k => if k = p then jcut so y else f k)) else T t'
def PX_t (K k : Nat) : Prop := (K = 0 ∧ k = 14) ∨ K = 2 ∨ K = 3
def PM_t (K k : Nat) : Prop := (K = 40 ∧ k = 2) ∨ K = 43 ∨ K = 44 ∨ K = 45
theorem jt_n4 {so : Nat} (h : so < 4) : (nI so = 0 ↔ so = 0) ∧ (nI so = 1 ↔ so = 1) ∧ (nI so = 2 ↔ so = 2) := by
  have e : ∀ n : Nat, n < 4 → (nI so = nI n ↔ so = n) := fun n hn => nI_eq (by omega) (by omega)
  exact ⟨e 0 (by decide), e 1 (by decide), e 2 (by decide)⟩
theorem sx_put {T : Tr} {μ : jm_M} (h : xT T μ) {t p so sz : Nat} {f : Nat → Int64} (ht : t < 4) (hT : T t = some (so, sz, f)) (hp : p < sz) (d : Nat) (y : Int64) : jm_sem false (d + 2) jn_X7_put [.inr (.inr (.inl (2, t, 0))), .inl (nI p), .inr (.inl y)] μ = some (jm_j, jm_sL μ 3 t 0 p (jcut so y)) := by
  have hq := h t ht
  rw [hT] at hq
  obtain ⟨hso, hsz, h1, h3, h6⟩ := hq
  have tz := nI_toInt (n := sz) (by omega)
  obtain ⟨n0, n1, n2⟩ := jt_n4 hso
  have a : ¬ nI p < 0 := nI_pos (by omega)
  have b : ¬ nI sz < 1 := by rw [Int32.lt_iff_toInt_lt, tz, jt_t1]; omega
  have c : ¬ nI sz - 1 < nI p := by
    cases sz with
    | zero => omega
    | succ z => rw [nI_pred]; exact nI_nlt (by omega) (by omega)
  simp only [e_X7_put, e_X7_hasRun, e_X7_cutToSort, h1, h3, jt_c, jt_cd, if_neg a, if_neg b, if_neg c, show ¬ ((1 : Int32) < 0) by decide, if_false, jt_bi, show ¬ ((1 : Int32) = 0) by decide, n0, n1, n2, jt_in (show p < 60 by omega) (by decide), cond_true, jt_ix (show p < 2 ^ 31 by omega)]
  unfold jcut
  by_cases z0 : so = 0
  · simp [z0, jt_bl]
  · by_cases z1 : so = 1
    · simp [z1, jt_bl]
    · by_cases z2 : so = 2
      · simp [z2, jt_bl]
      · simp [z0, z1, z2, jt_bl]
theorem sx_write {T : Tr} {μ : jm_M} (h : xT T μ) (d : Nat) (x1 x2 : Int32) (y : Int64) : ∃ μ', jm_sem false (d + 3) jn_X11_write [vX, .inl x1, .inl x2, .inr (.inl y)] μ = some (.inl (if wpA T x1 x2 = 0 then 1 else 0), μ') ∧ xT (if wpA T x1 x2 = 0 then trPut T (jm_ix x1) (jm_ix x2) y else T) μ' ∧ μ'.1 0 0 0 14 = wpA T x1 x2 ∧ jk PX_t μ μ' := by
  by_cases hw : wpA T x1 x2 = 0
  · obtain ⟨t, p, so, sz, f, ht, rfl, rfl, hT, hp, -⟩ := wpA_0 hw
    have hq := h t ht
    rw [hT] at hq
    have hp := hp (by have := hq.2.1; omega)
    have hp60 : p < 60 := by have := hq.2.1; omega
    rw [if_pos hw, if_pos hw, jt_ix (show t < 2 ^ 31 by omega), jt_ix (show p < 2 ^ 31 by omega)]
    refine ⟨jm_sI (jm_sL μ 3 t 0 p (jcut so y)) 0 0 0 14 0, ?_, ?_, by rw [rd_II, if_pos ⟨rfl, rfl, rfl, rfl⟩, hw], (jk_L (Or.inr (Or.inr rfl))).tr (jk_I (Or.inl ⟨rfl, rfl⟩))⟩
    · simp only [e_X11_write, sx_wrongPlace h, jt_bi, hw, jt_in ht (show 4 < 2 ^ 31 by decide), jt_ix (show t < 2 ^ 31 by omega), sx_put h ht hT hp, jt_bv, e_X11_allow]
      rfl
    · intro t' ht'
      have hq' := h t' ht'
      unfold trPut
      by_cases e : t' = t
      · subst e
        rw [if_pos rfl, hT]
        refine ⟨hq.1, hq.2.1, ?_, ?_, fun k hk => ?_⟩
        · rw [rd_II, if_neg (by omega)]; exact hq.2.2.1
        · rw [rd_II, if_neg (by omega)]; exact hq.2.2.2.1
        · rw [rd_IL, rd_LL]
          dsimp only
          by_cases ek : k = p
          · rw [if_pos ⟨rfl, rfl, rfl, ek⟩, if_pos ek]
          · rw [if_neg (fun z => ek z.2.2.2), if_neg ek]; exact hq.2.2.2.2 k hk
      · rw [if_neg e]
        have e1 : ∀ k, (jm_sI (jm_sL μ 3 t 0 p (jcut so y)) 0 0 0 14 0).1 2 t' 0 k = μ.1 2 t' 0 k := fun k => by
          rw [rd_II, if_neg (by omega)]
        have e2 : ∀ k, (jm_sI (jm_sL μ 3 t 0 p (jcut so y)) 0 0 0 14 0).2 3 t' 0 k = μ.2 3 t' 0 k := fun k => by
          rw [rd_IL, rd_LL, if_neg (by omega)]
        unfold xT1 at hq' ⊢
        split
        · rename_i e; rw [e] at hq'; rw [e1]; exact hq'
        · rename_i e; rw [e] at hq'
          exact ⟨hq'.1, hq'.2.1, by rw [e1]; exact hq'.2.2.1, by rw [e1]; exact hq'.2.2.2.1, fun k hk => by rw [e2]; exact hq'.2.2.2.2 k hk⟩
  · rw [if_neg hw, if_neg hw]
    refine ⟨jm_sI μ 0 0 0 14 (wpA T x1 x2), ?_, ?_, by rw [rd_II, if_pos ⟨rfl, rfl, rfl, rfl⟩], jk_I (Or.inl ⟨rfl, rfl⟩)⟩
    · simp only [e_X11_write, sx_wrongPlace h, jt_bi, jt_cd, if_neg hw, e_X11_refuse]
      rfl
    · exact xT_k h (fun i j k => by rw [rd_II, if_neg (by omega)]) (fun i j k => rfl)
theorem jt_60 {t p sz : Nat} (ht : t < 4) (hp : p < sz) (hz : sz ≤ 60) : (60 : Int32) * nI t + nI p = nI (60 * t + p) ∧ 60 * t + p < 240 := by
  refine ⟨?_, by omega⟩
  rw [show (60 : Int32) = nI 60 from rfl, pk_mul, nI_add]
theorem sm_cutTo {so : Nat} (h : so < 4) (d : Nat) (y : Int64) (m : jm_M) : jm_sem false (d + 1) jn_X12_cutTo [.inr (.inl y), .inl (nI so)] m = some (.inr (.inl (jcut so y)), m) := by
  obtain ⟨n0, n1, n2⟩ := jt_n4 h
  simp only [e_X12_cutTo, jt_c, jt_cd, ne_eq, n0, n1, n2]
  unfold jcut
  by_cases z0 : so = 0
  · simp [z0]
  · by_cases z1 : so = 1
    · simp [z1]
    · by_cases z2 : so = 2
      · simp [z2]
      · simp [z0, z1, z2]
theorem sm_is0 (d : Nat) (m : jm_M) : jm_sem false (d + 1) jn_X12_is [vM, .inl 0] m = some (.inl 1, jm_sI m 40 0 0 2 0) := by
  rw [e_X12_is]; rfl
theorem sm_is1 (d : Nat) {x : Int32} (h : x ≠ 0) (m : jm_M) : jm_sem false (d + 1) jn_X12_is [vM, .inl x] m = some (.inl 0, jm_sI m 40 0 0 2 x) := by
  rw [e_X12_is, jt_cd, if_pos h]
theorem sm_write {T : Tr} {μ : jm_M} (h : mT T μ) (d : Nat) (x1 x2 : Int32) (y : Int64) : ∃ μ', jm_sem false (d + 3) jn_X12_write [vM, .inl x1, .inl x2, .inr (.inl y)] μ = some (.inl (if wpA T x1 x2 = 0 then 1 else 0), μ') ∧ mT (if wpA T x1 x2 = 0 then trPut T (jm_ix x1) (jm_ix x2) y else T) μ' ∧ μ'.1 40 0 0 2 = wpA T x1 x2 ∧ jk PM_t μ μ' := by
  by_cases hw : wpA T x1 x2 = 0
  · obtain ⟨t, p, so, sz, f, ht, rfl, rfl, hT, hp, -⟩ := wpA_0 hw
    have hq := h t ht
    rw [hT] at hq
    have hp := hp (by have := hq.2.1; omega)
    obtain ⟨e6, h240⟩ := jt_60 ht hp hq.2.1
    rw [if_pos hw, if_pos hw, jt_ix (show t < 2 ^ 31 by omega), jt_ix (show p < 2 ^ 31 by have := hq.2.1; omega)]
    refine ⟨jm_sI (jm_sL μ 45 0 0 (60 * t + p) (jcut so y)) 40 0 0 2 0, ?_, ?_, by rw [rd_II, if_pos ⟨rfl, rfl, rfl, rfl⟩, hw], (jk_L (Or.inr (Or.inr (Or.inr rfl)))).tr (jk_I (Or.inl ⟨rfl, rfl⟩))⟩
    · simp only [e_X12_write, sm_wrongPlace h, jt_bi, hw, jt_cd, ne_eq, not_true_eq_false, if_false, jt_in ht (show 4 < 2 ^ 31 by decide), jt_ix (show t < 2 ^ 31 by omega), hq.2.2.1, sm_cutTo hq.1, jt_bl, e6, jt_in h240 (show 240 < 2 ^ 31 by decide), cond_true, jt_ix (show 60 * t + p < 2 ^ 31 by omega), sm_is0]
      rfl
    · intro t' ht'
      have hq' := h t' ht'
      unfold trPut
      by_cases e : t' = t
      · subst e
        rw [if_pos rfl, hT]
        refine ⟨hq.1, hq.2.1, ?_, ?_, fun k hk => ?_⟩
        · rw [rd_II, if_neg (by omega)]; exact hq.2.2.1
        · rw [rd_II, if_neg (by omega)]; exact hq.2.2.2.1
        · rw [rd_IL, rd_LL]
          dsimp only
          by_cases ek : k = p
          · rw [if_pos ⟨rfl, rfl, rfl, by omega⟩, if_pos ek]
          · rw [if_neg (fun z => ek (by have := z.2.2.2; omega)), if_neg ek]; exact hq.2.2.2.2 k hk
      · rw [if_neg e]
        have hz := hq.2.1
        unfold mT1 at hq' ⊢
        split
        · rename_i e; rw [e] at hq'; rw [rd_II, if_neg (by omega)]; exact hq'
        · rename_i e; rw [e] at hq'
          exact ⟨hq'.1, hq'.2.1, by rw [rd_II, if_neg (by omega)]; exact hq'.2.2.1, by rw [rd_II, if_neg (by omega)]; exact hq'.2.2.2.1, fun k hk => by have := hq'.2.1; rw [rd_IL, rd_LL, if_neg (by omega)]; exact hq'.2.2.2.2 k hk⟩
  · rw [if_neg hw, if_neg hw]
    refine ⟨jm_sI μ 40 0 0 2 (wpA T x1 x2), ?_, ?_, by rw [rd_II, if_pos ⟨rfl, rfl, rfl, rfl⟩], jk_I (Or.inl ⟨rfl, rfl⟩)⟩
    · simp only [e_X12_write, sm_wrongPlace h, jt_bi, jt_cd, ne_eq, hw, not_false_eq_true, if_true, sm_is1 _ hw]
      rfl
    · exact mT_k h (fun i j k => by rw [rd_II, if_neg (by omega)]) (fun i j k => by rw [rd_II, if_neg (by omega)]) (fun i j k => rfl)
/-- what stands there -/
def trAt (T : Tr) (t p : Nat) : Int64 := match T t with
  | none => 0
  | some (_, _, f) => f p
theorem sx_read {T : Tr} {μ : jm_M} (h : xT T μ) (d : Nat) (x1 x2 : Int32) : jm_sem false (d + 3) jn_X11_read [vX, .inl x1, .inl x2] μ = some (.inr (.inl (if wpA T x1 x2 = 0 then trAt T (jm_ix x1) (jm_ix x2) else -1)), jm_sI μ 0 0 0 14 (wpA T x1 x2)) := by
  by_cases hw : wpA T x1 x2 = 0
  · obtain ⟨t, p, so, sz, f, ht, rfl, rfl, hT, hp, -⟩ := wpA_0 hw
    have hq := h t ht
    rw [hT] at hq
    obtain ⟨hso, hsz, h1, h3, h6⟩ := hq
    have hp := hp (by omega)
    have tz := nI_toInt (n := sz) (by omega)
    have a : ¬ nI p < 0 := nI_pos (by omega)
    have b : ¬ nI sz < 1 := by rw [Int32.lt_iff_toInt_lt, tz, jt_t1]; omega
    have c : ¬ nI sz - 1 < nI p := by
      cases sz with
      | zero => omega
      | succ z => rw [nI_pred]; exact nI_nlt (by omega) (by omega)
    rw [if_pos hw, jt_ix (show t < 2 ^ 31 by omega), jt_ix (show p < 2 ^ 31 by omega)]
    have e3 : jm_uI μ.1 0 0 0 14 0 2 t 0 2 = nI sz := by rw [ru_I, if_neg (by omega)]; exact h3
    simp only [e_X11_read, sx_wrongPlace h, jt_bi, hw, jt_in ht (show 4 < 2 ^ 31 by decide), jt_ix (show t < 2 ^ 31 by omega), e_X7_at, e_X7_hasRun, e3, jt_c, jt_cd, if_neg a, if_neg b, if_neg c, show ¬ ((1 : Int32) < 0) by decide, if_false, show ¬ ((1 : Int32) = 0) by decide, jt_in (show p < 60 by omega) (by decide), cond_true, jt_ix (show p < 2 ^ 31 by omega), jt_bl, if_true, Bool.and_true]
    unfold trAt
    rw [hT, h6 p hp]
  · rw [if_neg hw]
    simp only [e_X11_read, sx_wrongPlace h, jt_bi, jt_cd, if_neg hw, e_X11_fail]
    rfl
theorem sm_read {T : Tr} {μ : jm_M} (h : mT T μ) (d : Nat) (x1 x2 : Int32) : jm_sem false (d + 3) jn_X12_read [vM, .inl x1, .inl x2] μ = some (.inr (.inl (if wpA T x1 x2 = 0 then trAt T (jm_ix x1) (jm_ix x2) else -1)), jm_sI μ 40 0 0 2 (wpA T x1 x2)) := by
  by_cases hw : wpA T x1 x2 = 0
  · obtain ⟨t, p, so, sz, f, ht, rfl, rfl, hT, hp, -⟩ := wpA_0 hw
    have hq := h t ht
    rw [hT] at hq
    obtain ⟨hso, hsz, h1, h3, h6⟩ := hq
    have hp := hp (by omega)
    obtain ⟨e6, h240⟩ := jt_60 ht hp hsz
    rw [if_pos hw, jt_ix (show t < 2 ^ 31 by omega), jt_ix (show p < 2 ^ 31 by omega)]
    have e3 : jm_uI μ.1 40 0 0 2 0 40 0 0 2 = 0 := by rw [ru_I, if_pos ⟨rfl, rfl, rfl, rfl⟩]
    simp only [e_X12_read, sm_wrongPlace h, jt_bi, hw, e3, jt_cd, show (0 : Int32) ≤ 0 by decide, if_true, e6, jt_in h240 (show 240 < 2 ^ 31 by decide), cond_true, jt_ix (show 60 * t + p < 2 ^ 31 by omega), rd_IL]
    unfold trAt
    rw [hT, h6 p hp]
  · rw [if_neg hw]
    have hp : ¬ wpA T x1 x2 ≤ 0 := by
      unfold wpA at hw ⊢
      split
      · decide
      · rename_i hx
        rw [if_neg hx] at hw
        split
        · decide
        · rename_i e
          rw [e] at hw
          dsimp only at hw
          split
          · decide
          · rename_i hz
            rw [if_neg hz] at hw
            exact absurd rfl hw
    simp only [e_X12_read, sm_wrongPlace h, jt_bi, ru_I, jt_cd, and_self, if_true, if_neg hp]
