/-! ===== the class's functions of letters ===== -/
theorem jt_sh5 {n : Nat} (h : n ≤ 8) : ((5 : Int32) * nI n).toInt64 &&& 63 = lN (5 * n) := by
  rw [show (5 : Int32) = nI 5 from rfl, pk_mul]
  exact wb_c (5 * n) (by omega)
theorem jt_smod {k : Nat} (h : k < 64) : ((lN k).toBitVec.smod 64).toNat = k := by
  have key : ∀ k, k < 64 → ((lN k).toBitVec.smod 64).toNat = k := by decide +kernel
  exact key k h
theorem jt_shr5 {a n : Nat} (ha : a < 2 ^ 62) (hn : n ≤ 8) : lN a >>> (((5 : Int32) * nI n).toInt64 &&& 63) = lN (a / 32 ^ n) := by
  rw [jt_sh5 hn, pf_shr (jt_smod (by omega)) ha, pow32]
theorem jt_shl5 {a n : Nat} (hn : n ≤ 8) : lN a <<< (((5 : Int32) * nI n).toInt64 &&& 63) = lN (a * 32 ^ n) := by
  rw [show (5 : Int32) = nI 5 from rfl, pk_mul, wb_shl a (show 5 * n < 64 by omega), pow32]
theorem jt_sub1 {n : Nat} (h : 1 ≤ n) : nI n - 1 = nI (n - 1) := by
  rw [show (1 : Int32) = nI 1 from rfl, pk_sub h]
theorem sx_firstOf {ls : List Nat} (h : okL ls) (h8 : ls.length ≤ 8) {i : Nat} (hi : i ≤ ls.length) (d : Nat) (m : jm_M) : jm_sem false (d + 1) jn_X4_firstOf [.inr (.inl (lN (enc ls))), .inl (nI ls.length), .inl (nI i)] m = some (.inr (.inl (lN (enc (ls.take i)))), m) := by
  have e : (if (0 : Int32) < (nI ls.length - nI i) then (nI ls.length - nI i) else (0 : Int32)) = nI (ls.length - i) := by
    rw [pk_sub hi]
    by_cases z : (0 : Int32) < nI (ls.length - i)
    · rw [if_pos z]
    · rw [if_neg z]
      have : ls.length - i = 0 := by
        rcases Nat.eq_zero_or_pos (ls.length - i) with y | y
        · exact y
        · exact absurd (nI_lt (a := 0) y (by omega)) z
      rw [this]; rfl
  have h40 := enc_40 h h8
  rw [e_X4_firstOf, e, jt_shr5 (by omega) (by omega), enc_take h hi]
theorem sx_lastOf {ls : List Nat} (h : okL ls) (h8 : ls.length ≤ 8) {j : Nat} (hj : j ≤ ls.length) (d : Nat) (m : jm_M) : jm_sem false (d + 1) jn_X4_lastOf [.inr (.inl (lN (enc ls))), .inl (nI j)] m = some (.inr (.inl (lN (enc (ls.drop (ls.length - j))))), m) := by
  have e : (lN 1 <<< (((5 : Int32) * nI j).toInt64 &&& 63)) - 1 = lN (2 ^ (5 * j) - 1) := by
    rw [jt_shl5 (by omega), Nat.one_mul, show (1 : Int64) = lN 1 from rfl, lN_sub (Nat.pow_pos (by decide)), pow32]
  rw [e_X4_lastOf, show (1 : Int64) = lN 1 from rfl, show lN 1 <<< (((5 : Int32) * nI j).toInt64 &&& 63) - lN 1 = lN (2 ^ (5 * j) - 1) from e, fb_maskL, ← pow32, enc_drop h hj]
theorem jt_or32 {a b j : Nat} (hb : b < 32 ^ j) : lN (a * 32 ^ j) ||| lN b = lN (a * 32 ^ j + b) := by
  rw [pow32] at hb ⊢
  rw [Nat.mul_comm, fb_or_sumL a hb]
theorem sx_join {a b : List Nat} (hb : okL b) (h8 : b.length ≤ 8) (d : Nat) (m : jm_M) : jm_sem false (d + 1) jn_X4_join [.inr (.inl (lN (enc a))), .inr (.inl (lN (enc b))), .inl (nI b.length)] m = some (.inr (.inl (lN (enc (a ++ b)))), m) := by
  rw [e_X4_join, jt_shl5 h8, jt_or32 (enc_lt hb), ← enc_app]
theorem erase_td (ls : List Nat) (p : Nat) : ls.eraseIdx p = ls.take p ++ ls.drop (p + 1) := List.eraseIdx_eq_take_drop_succ ls p
/-- without the letter at a place -/
theorem sx_without {ls : List Nat} (h : okL ls) (h8 : ls.length ≤ 8) {p : Nat} (hp : p < ls.length) (d : Nat) (m : jm_M) : jm_sem false (d + 2) jn_X4_without [.inr (.inl (lN (enc ls))), .inl (nI ls.length), .inl (nI p)] m = some (.inr (.inl (lN (enc (ls.eraseIdx p)))), m) := by
  have e : nI ls.length - 1 - nI p = nI (ls.length - 1 - p) := by rw [jt_sub1 (by omega), pk_sub (by omega)]
  have hl : (ls.drop (p + 1)).length = ls.length - 1 - p := by rw [List.length_drop]; omega
  rw [e_X4_without, sx_firstOf h h8 (by omega), jt_bl, e, sx_lastOf h h8 (by omega), jt_bl, show ls.length - (ls.length - 1 - p) = p + 1 by omega, ← hl, sx_join (okL_sub (fun c hc => List.mem_of_mem_drop hc) h) (by omega), jt_bl, erase_td]
/-- with a letter at a place -/
theorem sx_with {ls : List Nat} (h : okL ls) (h8 : ls.length < 8) {p c : Nat} (hp : p ≤ ls.length) (hc : c < 32) (d : Nat) (m : jm_M) : jm_sem false (d + 2) jn_X4_with [.inr (.inl (lN (enc ls))), .inl (nI ls.length), .inl (nI p), .inl (nI c)] m = some (.inr (.inl (lN (enc (ls.take p ++ [c] ++ ls.drop p)))), m) := by
  have hl : (ls.drop p).length = ls.length - p := List.length_drop
  have e1 : (lN (enc (ls.take p)) <<< ((5 : Int32).toInt64 &&& 63)) ||| (nI c).toInt64 = lN (enc (ls.take p ++ [c])) := by
    have := jt_shl5 (a := enc (ls.take p)) (n := 1) (by decide)
    rw [show (5 : Int32) * nI 1 = 5 by decide] at this
    rw [this, nI_l (by omega), jt_or32 (by simpa using hc), enc_app]
    simp [enc]
  rw [e_X4_with, sx_firstOf h (by omega) hp, jt_bl, pk_sub hp, sx_lastOf h (by omega) (by omega), jt_bl, e1, show ls.length - (ls.length - p) = p by omega, ← hl, sx_join (okL_sub (fun c hc => List.mem_of_mem_drop hc) h) (by omega), jt_bl]
theorem jt_and31 (n : Nat) : nI n &&& 31 = nI (n % 32) := by
  rw [pk_and (nI n) 5 (by decide)]
  show nI ((BitVec.ofNat 32 n).toNat % 2 ^ 5) = _
  rw [BitVec.toNat_ofNat]
  congr 1
  omega
/-- the letter at a place, by the class -/
theorem jt_let {ls : List Nat} (h : okL ls) (h8 : ls.length ≤ 8) {p : Nat} (hp : p < ls.length) : (lN (enc ls) >>> (((5 : Int32) * ((nI ls.length - 1) - nI p)).toInt64 &&& 63)).toInt32 &&& (31 : Int32) = nI (ls.getD p 0) := by
  have h40 := enc_40 h h8
  rw [jt_sub1 (by omega), pk_sub (by omega), jt_shr5 (by omega) (by omega), lN_i, jt_and31, enc_at h hp]
theorem sx_letterAt {ls : List Nat} (h : okL ls) (h8 : ls.length ≤ 8) {p : Nat} (hp : p < 2 ^ 31) (d : Nat) (m : jm_M) : jm_sem false (d + 1) jn_X4_letterAt [.inr (.inl (lN (enc ls))), .inl (nI ls.length), .inl (nI p)] m = some (.inl (nI (ls.getD p 0)), m) := by
  rw [e_X4_letterAt, jt_cd, if_neg (nI_pos hp), jt_c, jt_cd]
  by_cases z : p < ls.length
  · rw [if_pos (nI_lt z (by omega)), jt_let h h8 z]
  · rw [if_neg (nI_nlt (by omega) hp)]
    simp [List.getD, List.getElem?_eq_none (show ls.length ≤ p by omega)]
    rfl
/-- how many letters -/
theorem sx_sizeOf_loop {ls : List Nat} (h : okL ls) (h8 : ls.length ≤ 8) (d : Nat) (z0 : jm_V) (m : jm_M) : ∀ (r k : Nat), k + r = ls.length → jm_ev false d 12 1 jc_X4_sizeOf 4 [z0, jm_j, .inl (nI k), .inr (.inl (lN (enc (ls.take r)))), jm_j] [] m = some (.inl (nI ls.length), m)
  | 0, k, hk => by
    rw [l_X4_sizeOf_4, jt_cd, if_pos, show k = ls.length by omega]
    show lg_cmp (lN 0) 0 ≤ 0
    decide
  | r + 1, k, hk => by
    have hok : okL (ls.take (r + 1)) := okL_sub (fun c hc => List.mem_of_mem_take hc) h
    have hl : (ls.take (r + 1)).length = r + 1 := by rw [List.length_take]; omega
    have h40 := enc_40 hok (by omega)
    have hpos := enc_pos hok (by intro z; rw [z] at hl; simp at hl)
    have c1 : ¬ lg_cmp (lN (enc (ls.take (r + 1)))) 0 ≤ 0 := by
      have hlt : lN 0 < lN (enc (ls.take (r + 1))) := (pk_lLT (by decide) (by omega)).mpr hpos
      have hlt : (0 : Int64) < lN (enc (ls.take (r + 1))) := hlt
      unfold lg_cmp
      have hne : ¬ lN (enc (ls.take (r + 1))) < 0 := Int64.not_lt.mpr (Int64.le_of_lt hlt)
      have hne2 : ¬ lN (enc (ls.take (r + 1))) = 0 := fun z => by rw [z] at hlt; exact absurd hlt (by decide)
      simp [hlt, hne, hne2]
      try decide
    have e1 : lN (enc (ls.take (r + 1))) >>> ((5 : Int32).toInt64 &&& 63) = lN (enc (ls.take r)) := by
      have h1 := jt_shr5 (a := enc (ls.take (r + 1))) (n := 1) (by omega) (by decide)
      rw [show (5 : Int32) * nI 1 = 5 by decide] at h1
      have h2 := enc_take hok (i := r) (by omega)
      rw [hl, show r + 1 - r = 1 by omega, List.take_take, show min r (r + 1) = r by omega] at h2
      rw [h1, h2]
    rw [l_X4_sizeOf_4, jt_cd, if_neg c1, jt_df (show ¬ (8 : Int32) ≤ nI k by rw [show (8 : Int32) = nI 8 from rfl, nI_leI (by decide) (by omega)]; omega), cond_false, nI_1, e1]
    exact sx_sizeOf_loop h h8 d z0 m r (k + 1) (by omega)
theorem sx_sizeOf {ls : List Nat} (h : okL ls) (h8 : ls.length ≤ 8) (d : Nat) (m : jm_M) : jm_sem false (d + 1) jn_X4_sizeOf [.inr (.inl (lN (enc ls)))] m = some (.inl (nI ls.length), m) := by
  have := sx_sizeOf_loop h h8 d (.inr (.inl (lN (enc ls)))) m ls.length 0 (by omega)
  rw [List.take_length] at this
  rw [e_X4_sizeOf]
  exact this
