set_option maxRecDepth 20000 in
theorem e_X7_isMissing (d : Nat) (i0 : Nat) (m : jm_M) : jm_sem false (d + 1) jn_X7_isMissing [.inr (.inr (.inl (2, i0, 0)))] m = cond (jm_dec (m.1 2 i0 0 1 ≠ (-1))) (some (.inl 0, m)) (some (.inl 1, m)) :=
  (jm_call_eq (c := 6) (r := 2) (mx := 1) (cd := jc_X7_isMissing) rfl rfl).trans (jm_tree [] 600 rfl)
set_option maxRecDepth 20000 in
theorem e_X7_lay (d : Nat) (i0 : Nat) (x1 : Int32) (x2 : Int32) (m : jm_M) : jm_sem false (d + 1) jn_X7_lay [.inr (.inr (.inl (2, i0, 0))), .inl x1, .inl x2] m = jm_lt (jm_sI (jm_sI m 2 i0 0 1 x1) 2 i0 0 2 (if (0 : Int32) < (if (60 : Int32) < x2 then (60 : Int32) else x2) then (if (60 : Int32) < x2 then (60 : Int32) else x2) else (0 : Int32))) (fun q19 => jm_ev false d 6 0 jc_X7_lay 21 [.inr (.inr (.inl (2, i0, 0))), .inl x1, .inl x2, .inl 0] [] q19) :=
  (jm_call_eq (c := 6) (r := 0) (mx := 4) (cd := jc_X7_lay) rfl rfl).trans (jm_tree [21] 600 rfl)
set_option maxRecDepth 20000 in
theorem l_X7_lay_21 (d : Nat) (i0 : Nat) (z1 : jm_V) (z2 : jm_V) (x3 : Int32) (m : jm_M) : jm_ev false d 6 0 jc_X7_lay 21 [.inr (.inr (.inl (2, i0, 0))), z1, z2, .inl x3] [] m = cond (jm_dec (60 ≤ x3)) (some (jm_j, m)) (cond (jm_dec (vp_in x3 60)) (jm_ev false d 6 0 jc_X7_lay 21 [.inr (.inr (.inl (2, i0, 0))), z1, z2, .inl (x3 + 1)] [] (jm_sL m 3 i0 0 (jm_ix x3) 0)) none) :=
  jm_tree [21] 600 rfl
set_option maxRecDepth 20000 in
theorem e_X7_hasRun (d : Nat) (i0 : Nat) (x1 : Int32) (x2 : Int32) (m : jm_M) : jm_sem false (d + 1) jn_X7_hasRun [.inr (.inr (.inl (2, i0, 0))), .inl x1, .inl x2] m = cond (decide (x1 < 0)) (some (.inl 0, m)) (cond (decide (x2 < 0)) (some (.inl 0, m)) (cond (jm_dec (m.1 2 i0 0 2 < x2)) (some (.inl 0, m)) (cond (jm_dec ((m.1 2 i0 0 2 - x2) < x1)) (some (.inl 0, m)) (some (.inl 1, m))))) :=
  (jm_call_eq (c := 6) (r := 2) (mx := 3) (cd := jc_X7_hasRun) rfl rfl).trans (jm_tree [] 600 rfl)
set_option maxRecDepth 20000 in
theorem e_X7_at (d : Nat) (i0 : Nat) (x1 : Int32) (m : jm_M) : jm_sem false (d + 1) jn_X7_at [.inr (.inr (.inl (2, i0, 0))), .inl x1] m = jm_bi (jm_sem false d jn_X7_hasRun [.inr (.inr (.inl (2, i0, 0))), .inl x1, .inl 1] m) (fun r3 m3 => cond (decide (r3 = 0)) (some (.inr (.inl 0), m3)) (cond (jm_dec (vp_in x1 60)) (some (.inr (.inl (m3.2 3 i0 0 (jm_ix x1))), m3)) none)) :=
  (jm_call_eq (c := 6) (r := 5) (mx := 2) (cd := jc_X7_at) rfl rfl).trans (jm_tree [] 600 rfl)
set_option maxRecDepth 20000 in
theorem e_X7_put (d : Nat) (i0 : Nat) (x1 : Int32) (y2 : Int64) (m : jm_M) : jm_sem false (d + 1) jn_X7_put [.inr (.inr (.inl (2, i0, 0))), .inl x1, .inr (.inl y2)] m = jm_bi (jm_sem false d jn_X7_hasRun [.inr (.inr (.inl (2, i0, 0))), .inl x1, .inl 1] m) (fun r3 m3 => cond (decide (r3 = 0)) (some (jm_j, m3)) (jm_bl (jm_sem false d jn_X7_cutToSort [.inr (.inr (.inl (2, i0, 0))), .inr (.inl y2)] m3) (fun r16 m16 => cond (jm_dec (vp_in x1 60)) (some (jm_j, (jm_sL m16 3 i0 0 (jm_ix x1) r16))) none))) :=
  (jm_call_eq (c := 6) (r := 0) (mx := 4) (cd := jc_X7_put) rfl rfl).trans (jm_tree [] 600 rfl)
set_option maxRecDepth 20000 in
theorem e_X7_cutToSort (d : Nat) (i0 : Nat) (y1 : Int64) (m : jm_M) : jm_sem false (d + 1) jn_X7_cutToSort [.inr (.inr (.inl (2, i0, 0))), .inr (.inl y1)] m = cond (decide (m.1 2 i0 0 1 = 0)) (some (.inr (.inl y1.toInt32.toInt8.toInt32.toInt64), m)) (cond (decide (m.1 2 i0 0 1 = 1)) (some (.inr (.inl y1.toInt32.toInt16.toInt32.toInt64), m)) (cond (decide (m.1 2 i0 0 1 = 2)) (some (.inr (.inl y1.toInt32.toInt64), m)) (some (.inr (.inl y1), m)))) :=
  (jm_call_eq (c := 6) (r := 5) (mx := 3) (cd := jc_X7_cutToSort) rfl rfl).trans (jm_tree [] 600 rfl)
