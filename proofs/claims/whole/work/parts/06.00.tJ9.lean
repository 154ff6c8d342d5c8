set_option maxRecDepth 20000 in
theorem e_J9_max_7cf53 (d : Nat) (x0 : Int32) (x1 : Int32) (m : jm_M) : jm_sem false (d + 1) jn_J9_max_7cf53 [.inl x0, .inl x1] m = cond (jm_dec (x0 < x1)) (some (.inl x1, m)) (some (.inl x0, m)) :=
  (jm_call_eq (c := 18) (r := 1) (mx := 2) (cd := jc_J9_max_7cf53) rfl).trans (jm_tree [] 600 rfl)
set_option maxRecDepth 20000 in
theorem e_J9_min_7cf53 (d : Nat) (x0 : Int32) (x1 : Int32) (m : jm_M) : jm_sem false (d + 1) jn_J9_min_7cf53 [.inl x0, .inl x1] m = cond (jm_dec (x1 < x0)) (some (.inl x1, m)) (some (.inl x0, m)) :=
  (jm_call_eq (c := 18) (r := 1) (mx := 2) (cd := jc_J9_min_7cf53) rfl).trans (jm_tree [] 600 rfl)
