set_option maxRecDepth 20000 in
theorem e_J0_length_8abf5 (d : Nat) (i0 : Nat) (m : jm_M) : jm_sem false (d + 1) jn_J0_length_8abf5 [.inr (.inr (.inl (60, i0, 0)))] m = jm_bi (jm_sem false d jn_J0_coder_7d493 [.inr (.inr (.inl (60, i0, 0)))] m) (fun r6 m6 => some (.inl ((Int32.ofNat ((jm_st.getD i0 []).length)) >>> (r6 &&& 31)), m6)) :=
  (jm_call_eq (c := 14) (r := 1) (mx := 1) (cd := jc_J0_length_8abf5) rfl rfl).trans (jm_tree [] 600 rfl)
set_option maxRecDepth 20000 in
theorem e_J0_charAt_5068e (d : Nat) (i0 : Nat) (x1 : Int32) (m : jm_M) : jm_sem false (d + 1) jn_J0_charAt_5068e [.inr (.inr (.inl (60, i0, 0))), .inl x1] m = jm_bi (jm_sem false d jn_J0_isLatin1_aae02 [.inr (.inr (.inl (60, i0, 0)))] m) (fun r1 m1 => cond (decide (r1 = 0)) (none) (jm_bi (jm_sem false d jn_J1_charAt_3b067 [.inr (.inr (.inl (61, i0, 0))), .inl x1] m1) (fun r12 m12 => cond (decide (r12.toUInt32.toUInt16.toUInt32.toInt32 = r12)) (some (.inl r12, m12)) none))) :=
  (jm_call_eq (c := 14) (r := 4) (mx := 2) (cd := jc_J0_charAt_5068e) rfl rfl).trans (jm_tree [] 600 rfl)
set_option maxRecDepth 20000 in
theorem e_J0_indexOf_0f7a4 (d : Nat) (i0 : Nat) (x1 : Int32) (m : jm_M) : jm_sem false (d + 1) jn_J0_indexOf_0f7a4 [.inr (.inr (.inl (60, i0, 0))), .inl x1] m = jm_bi (jm_sem false d jn_J0_indexOf_7cf53 [.inr (.inr (.inl (60, i0, 0))), .inl x1, .inl 0] m) (fun r3 m3 => some (.inl r3, m3)) :=
  (jm_call_eq (c := 14) (r := 1) (mx := 2) (cd := jc_J0_indexOf_0f7a4) rfl rfl).trans (jm_tree [] 600 rfl)
set_option maxRecDepth 20000 in
theorem e_J0_indexOf_7cf53 (d : Nat) (i0 : Nat) (x1 : Int32) (x2 : Int32) (m : jm_M) : jm_sem false (d + 1) jn_J0_indexOf_7cf53 [.inr (.inr (.inl (60, i0, 0))), .inl x1, .inl x2] m = jm_bi (jm_sem false d jn_J0_isLatin1_aae02 [.inr (.inr (.inl (60, i0, 0)))] m) (fun r1 m1 => cond (decide (r1 = 0)) (jm_bi (jm_sem false d jn_J0_length_8abf5 [.inr (.inr (.inl (60, i0, 0)))] m1) (fun r30 m30 => none)) (jm_bi (jm_sem false d jn_J0_length_8abf5 [.inr (.inr (.inl (60, i0, 0)))] m1) (fun r14 m14 => jm_bi (jm_sem false d jn_J1_indexOf_4cfef [.inr (.inr (.inl (61, i0, 0))), .inl x1, .inl x2, .inl r14] m14) (fun r17 m17 => some (.inl r17, m17))))) :=
  (jm_call_eq (c := 14) (r := 1) (mx := 3) (cd := jc_J0_indexOf_7cf53) rfl rfl).trans (jm_tree [] 600 rfl)
set_option maxRecDepth 20000 in
theorem e_J0_coder_7d493 (d : Nat) (i0 : Nat) (m : jm_M) : jm_sem false (d + 1) jn_J0_coder_7d493 [.inr (.inr (.inl (60, i0, 0)))] m = some (.inl 0, m) :=
  (jm_call_eq (c := 14) (r := 3) (mx := 1) (cd := jc_J0_coder_7d493) rfl rfl).trans (jm_tree [] 600 rfl)
set_option maxRecDepth 20000 in
theorem e_J0_isLatin1_aae02 (d : Nat) (i0 : Nat) (m : jm_M) : jm_sem false (d + 1) jn_J0_isLatin1_aae02 [.inr (.inr (.inl (60, i0, 0)))] m = some (.inl 1, m) :=
  (jm_call_eq (c := 14) (r := 2) (mx := 1) (cd := jc_J0_isLatin1_aae02) rfl rfl).trans (jm_tree [] 600 rfl)
set_option maxRecDepth 20000 in
theorem e_J0_checkIndex_df160 (d : Nat) (x0 : Int32) (x1 : Int32) (m : jm_M) : jm_sem false (d + 1) jn_J0_checkIndex_df160 [.inl x0, .inl x1] m = jm_bi (jm_sem false d jn_J3_checkIndex_8e157 [.inl x0, .inl x1, .inr (.inr (.inl (62, 0, 0)))] m) (fun r5 m5 => some (jm_j, m5)) :=
  (jm_call_eq (c := 14) (r := 0) (mx := 2) (cd := jc_J0_checkIndex_df160) rfl rfl).trans (jm_tree [] 600 rfl)
