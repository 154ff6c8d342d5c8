set_option maxRecDepth 20000 in
theorem e_X4_isVowel (d : Nat) (x0 : Int32) (m : jm_M) : jm_sem false (d + 1) jn_X4_isVowel [.inl x0] m = cond (decide (x0 ≤ 0)) (some (.inl 0, m)) (cond (jm_dec (31 < x0)) (some (.inl 0, m)) (cond (jm_dec ((((2130466 : Int32) >>> (x0 &&& 31)) &&& (1 : Int32)) ≠ 1)) (some (.inl 0, m)) (some (.inl 1, m)))) :=
  (jm_call_eq (c := 12) (r := 2) (mx := 1) (cd := jc_X4_isVowel) rfl rfl).trans (jm_tree [] 600 rfl)
set_option maxRecDepth 20000 in
theorem e_X4_sizeOf (d : Nat) (y0 : Int64) (m : jm_M) : jm_sem false (d + 1) jn_X4_sizeOf [.inr (.inl y0)] m = jm_ev false d 12 1 jc_X4_sizeOf 4 [.inr (.inl y0), jm_j, .inl 0, .inr (.inl y0), jm_j] [] m :=
  (jm_call_eq (c := 12) (r := 1) (mx := 5) (cd := jc_X4_sizeOf) rfl rfl).trans (jm_tree [4] 600 rfl)
set_option maxRecDepth 20000 in
theorem l_X4_sizeOf_4 (d : Nat) (z0 : jm_V) (x2 : Int32) (y3 : Int64) (m : jm_M) : jm_ev false d 12 1 jc_X4_sizeOf 4 [z0, jm_j, .inl x2, .inr (.inl y3), jm_j] [] m = cond (decide ((lg_cmp y3 0) ≤ 0)) (some (.inl x2, m)) (cond (jm_dec (8 ≤ x2)) (some (.inl x2, m)) (jm_ev false d 12 1 jc_X4_sizeOf 4 [z0, jm_j, .inl (x2 + 1), .inr (.inl (y3 >>> ((5 : Int32).toInt64 &&& 63))), jm_j] [] m)) :=
  jm_tree [4] 600 rfl
set_option maxRecDepth 20000 in
theorem e_X4_letterAt (d : Nat) (y0 : Int64) (x2 : Int32) (x3 : Int32) (m : jm_M) : jm_sem false (d + 1) jn_X4_letterAt [.inr (.inl y0), .inl x2, .inl x3] m = cond (decide (x3 < 0)) (some (.inl 0, m)) (cond (jm_dec (x3 < x2)) (some (.inl ((y0 >>> (((5 : Int32) * ((x2 - 1) - x3)).toInt64 &&& 63)).toInt32 &&& (31 : Int32)), m)) (some (.inl 0, m))) :=
  (jm_call_eq (c := 12) (r := 1) (mx := 4) (cd := jc_X4_letterAt) rfl rfl).trans (jm_tree [] 600 rfl)
set_option maxRecDepth 20000 in
theorem e_X4_firstOf (d : Nat) (y0 : Int64) (x2 : Int32) (x3 : Int32) (m : jm_M) : jm_sem false (d + 1) jn_X4_firstOf [.inr (.inl y0), .inl x2, .inl x3] m = some (.inr (.inl (y0 >>> (((5 : Int32) * (if (0 : Int32) < (x2 - x3) then (x2 - x3) else (0 : Int32))).toInt64 &&& 63))), m) :=
  (jm_call_eq (c := 12) (r := 5) (mx := 4) (cd := jc_X4_firstOf) rfl rfl).trans (jm_tree [] 600 rfl)
set_option maxRecDepth 20000 in
theorem e_X4_lastOf (d : Nat) (y0 : Int64) (x2 : Int32) (m : jm_M) : jm_sem false (d + 1) jn_X4_lastOf [.inr (.inl y0), .inl x2] m = some (.inr (.inl (y0 &&& (((1 : Int64) <<< (((5 : Int32) * x2).toInt64 &&& 63)) - 1))), m) :=
  (jm_call_eq (c := 12) (r := 5) (mx := 3) (cd := jc_X4_lastOf) rfl rfl).trans (jm_tree [] 600 rfl)
set_option maxRecDepth 20000 in
theorem e_X4_join (d : Nat) (y0 : Int64) (y2 : Int64) (x4 : Int32) (m : jm_M) : jm_sem false (d + 1) jn_X4_join [.inr (.inl y0), .inr (.inl y2), .inl x4] m = some (.inr (.inl ((y0 <<< (((5 : Int32) * x4).toInt64 &&& 63)) ||| y2)), m) :=
  (jm_call_eq (c := 12) (r := 5) (mx := 5) (cd := jc_X4_join) rfl rfl).trans (jm_tree [] 600 rfl)
set_option maxRecDepth 20000 in
theorem e_X4_without (d : Nat) (y0 : Int64) (x2 : Int32) (x3 : Int32) (m : jm_M) : jm_sem false (d + 1) jn_X4_without [.inr (.inl y0), .inl x2, .inl x3] m = jm_bl (jm_sem false d jn_X4_firstOf [.inr (.inl y0), .inl x2, .inl x3] m) (fun r10 m10 => jm_bl (jm_sem false d jn_X4_lastOf [.inr (.inl y0), .inl ((x2 - 1) - x3)] m10) (fun r16 m16 => jm_bl (jm_sem false d jn_X4_join [.inr (.inl r10), .inr (.inl r16), .inl ((x2 - 1) - x3)] m16) (fun r21 m21 => some (.inr (.inl r21), m21)))) :=
  (jm_call_eq (c := 12) (r := 5) (mx := 5) (cd := jc_X4_without) rfl rfl).trans (jm_tree [] 600 rfl)
set_option maxRecDepth 20000 in
theorem e_X4_with (d : Nat) (y0 : Int64) (x2 : Int32) (x3 : Int32) (x4 : Int32) (m : jm_M) : jm_sem false (d + 1) jn_X4_with [.inr (.inl y0), .inl x2, .inl x3, .inl x4] m = jm_bl (jm_sem false d jn_X4_firstOf [.inr (.inl y0), .inl x2, .inl x3] m) (fun r8 m8 => jm_bl (jm_sem false d jn_X4_lastOf [.inr (.inl y0), .inl (x2 - x3)] m8) (fun r20 m20 => jm_bl (jm_sem false d jn_X4_join [.inr (.inl ((r8 <<< ((5 : Int32).toInt64 &&& 63)) ||| x4.toInt64)), .inr (.inl r20), .inl (x2 - x3)] m20) (fun r25 m25 => some (.inr (.inl r25), m25)))) :=
  (jm_call_eq (c := 12) (r := 5) (mx := 6) (cd := jc_X4_with) rfl rfl).trans (jm_tree [] 600 rfl)
set_option maxRecDepth 20000 in
theorem e_X4_isLeftOf (d : Nat) (y0 : Int64) (y2 : Int64) (m : jm_M) : jm_sem false (d + 1) jn_X4_isLeftOf [.inr (.inl y0), .inr (.inl y2)] m = jm_bi (jm_sem false d jn_X4_sizeOf [.inr (.inl y0)] m) (fun r1 m1 => jm_bi (jm_sem false d jn_X4_sizeOf [.inr (.inl y2)] m1) (fun r7 m7 => cond (jm_dec (r7 < r1)) (some (.inl 0, m7)) (cond (jm_dec ((r7 - 2) ≤ r1)) (jm_ev false d 12 2 jc_X4_isLeftOf 36 [.inr (.inl y0), jm_j, .inr (.inl y2), jm_j, .inl r1, .inl r7, .inl 0, .inl 0] [] m7) (some (.inl 0, m7))))) :=
  (jm_call_eq (c := 12) (r := 2) (mx := 8) (cd := jc_X4_isLeftOf) rfl rfl).trans (jm_tree [36] 600 rfl)
set_option maxRecDepth 20000 in
theorem l_X4_isLeftOf_36 (d : Nat) (y0 : Int64) (y2 : Int64) (x4 : Int32) (x5 : Int32) (x6 : Int32) (x7 : Int32) (m : jm_M) : jm_ev false d 12 2 jc_X4_isLeftOf 36 [.inr (.inl y0), jm_j, .inr (.inl y2), jm_j, .inl x4, .inl x5, .inl x6, .inl x7] [] m = cond (jm_dec (x5 ≤ x7)) (cond (jm_dec (x6 ≠ x4)) (some (.inl 0, m)) (some (.inl 1, m))) (cond (jm_dec (x4 ≤ x6)) (jm_ev false d 12 2 jc_X4_isLeftOf 36 [.inr (.inl y0), jm_j, .inr (.inl y2), jm_j, .inl x4, .inl x5, .inl x6, .inl (x7 + 1)] [] m) (jm_bi (jm_sem false d jn_X4_letterAt [.inr (.inl y2), .inl x5, .inl x7] m) (fun r55 m55 => jm_bi (jm_sem false d jn_X4_letterAt [.inr (.inl y0), .inl x4, .inl x6] m55) (fun r63 m63 => cond (jm_dec (r55 ≠ r63)) (jm_ev false d 12 2 jc_X4_isLeftOf 36 [.inr (.inl y0), jm_j, .inr (.inl y2), jm_j, .inl x4, .inl x5, .inl x6, .inl (x7 + 1)] [] m63) (jm_ev false d 12 2 jc_X4_isLeftOf 36 [.inr (.inl y0), jm_j, .inr (.inl y2), jm_j, .inl x4, .inl x5, .inl (x6 + 1), .inl (x7 + 1)] [] m63))))) :=
  jm_tree [36] 600 rfl
