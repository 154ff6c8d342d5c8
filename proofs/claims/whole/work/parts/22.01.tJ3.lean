set_option maxRecDepth 20000 in
theorem e_J3_checkIndex_8e157 (d : Nat) (x0 : Int32) (x1 : Int32) (m : jm_M) : jm_sem false (d + 1) jn_J3_checkIndex_8e157 [.inl x0, .inl x1, .inr (.inr (.inl (62, 0, 0)))] m = cond (decide (x0 < 0)) (none) (cond (jm_dec (x0 < x1)) (some (.inl x0, m)) (none)) :=
  (jm_call_eq (c := 16) (r := 1) (mx := 3) (cd := jc_J3_checkIndex_8e157) rfl rfl).trans (jm_tree [] 600 rfl)
