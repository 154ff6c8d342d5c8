/-! ===== what holds at the law's entry ===== -/
def jx_tm (i : Nat) : Term := match i with
  | 0 => .string "WornWords$Text" 95
  | 1 => .string "WornWords$Text" 74
  | _ => .string "WornWordsModel" 184
def jx_fc : List Cond := flatC (Jvm.Cond.and given_1 narrow_1)
def jx_s4 (i : Nat) : List Cond := [Cond.exactly (jx_tm i) "java/lang/String", Cond.eq (.field (jx_tm i) "java/lang/String" "coder" "B") (.int 0), Cond.arrayOf (.field (jx_tm i) "java/lang/String" "value" "[B") .byte, Cond.eq (.length (.field (jx_tm i) "java/lang/String" "value" "[B")) (.int (Int32.ofNat (jx_sl.getD i 0)))]
def jx_se (i j : Nat) : Cond := Cond.eq (.elem (.field (jx_tm i) "java/lang/String" "value" "[B") (.int (Int32.ofNat j))) (.int ((jm_st.getD i []).getD j 0))
theorem jx_fc_0 : (jx_fc.drop 45).take 131 = jx_s4 0 ++ (List.range 127).map (jx_se 0) := by decide +kernel
theorem jx_fc_1 : (jx_fc.drop 176).take 10 = jx_s4 1 ++ (List.range 6).map (jx_se 1) := by decide +kernel
theorem jx_fc_2 : (jx_fc.drop 187).take 132 = jx_s4 2 ++ (List.range 128).map (jx_se 2) := by decide +kernel
theorem jx_sl_v : jx_sl.getD 0 0 = 127 ∧ jx_sl.getD 1 0 = 6 ∧ jx_sl.getD 2 0 = 128 := by decide +kernel
theorem jx_fc_in {p n : Nat} {l : List Cond} (h : (jx_fc.drop p).take n = l) {w : Cond} (hw : w ∈ l) : w ∈ jx_fc := by
  rw [← h] at hw
  exact List.mem_of_mem_drop (List.mem_of_mem_take hw)
theorem jx_fc_s {i : Nat} (hi : i < 3) : (∀ w ∈ jx_s4 i, w ∈ jx_fc) ∧ ∀ j, j < jx_sl.getD i 0 → jx_se i j ∈ jx_fc := by
  obtain ⟨e0, e1, e2⟩ := jx_sl_v
  match i, hi with
  | 0, _ => exact ⟨fun w hw => jx_fc_in jx_fc_0 (List.mem_append_left _ hw), fun j hj => jx_fc_in jx_fc_0 (List.mem_append_right _ (List.mem_map.mpr ⟨j, List.mem_range.mpr (by omega), rfl⟩))⟩
  | 1, _ => exact ⟨fun w hw => jx_fc_in jx_fc_1 (List.mem_append_left _ hw), fun j hj => jx_fc_in jx_fc_1 (List.mem_append_right _ (List.mem_map.mpr ⟨j, List.mem_range.mpr (by omega), rfl⟩))⟩
  | 2, _ => exact ⟨fun w hw => jx_fc_in jx_fc_2 (List.mem_append_left _ hw), fun j hj => jx_fc_in jx_fc_2 (List.mem_append_right _ (List.mem_map.mpr ⟨j, List.mem_range.mpr (by omega), rfl⟩))⟩
theorem jx_fc_x : jx_fc[4]? = some (Cond.eq (.static "java/lang/String" "COMPACT_STRINGS" "Z") (.int 1)) ∧ jx_fc[5]? = some (Cond.isRef (.static "jdk/internal/util/Preconditions" "SIOOBE_FORMATTER" "Ljava/util/function/BiFunction;")) ∧ jx_fc[186]? = some (Cond.not (Cond.eq (jx_tm 0) (jx_tm 1))) ∧ jx_fc[319]? = some (Cond.not (Cond.eq (jx_tm 0) (jx_tm 2))) ∧ jx_fc[320]? = some (Cond.not (Cond.eq (jx_tm 1) (jx_tm 2))) := by decide +kernel
theorem jx_wd_z : Cond.laysStatic "java/lang/String" "COMPACT_STRINGS" "Z" ∈ lw_tbl ∧ Cond.initialized "java/lang/String" ∈ lw_tbl ∧ Cond.laysStatic "jdk/internal/util/Preconditions" "SIOOBE_FORMATTER" "Ljava/util/function/BiFunction;" ∈ lw_tbl ∧ Cond.initialized "jdk/internal/util/Preconditions" ∈ lw_tbl := by decide +kernel
theorem jx_wd_s : Cond.stringRef "WornWords$Text" 95 "meaning word means speaker soft if drop or and not shared begins ends has vowel size said day idle first last hard middle none " ∈ lw_tbl ∧ Cond.stringRef "WornWords$Text" 74 ";<>=()" ∈ lw_tbl ∧ Cond.stringRef "WornWordsModel" 184 " meaning word speaker soft means if drop or and not shared begins ends has size said day idle first last hard middle none vowel " ∈ lw_tbl := by decide +kernel
theorem jx_wd_n : ∀ q ∈ [("WornWords$Village", 19, yX2_init), ("WornWords$Village", 24, yX10_init), ("WornWords$Stories", 52, yX10_init), ("WornWords", 67, yX1_init), ("WornWords", 74, yX0_init), ("WornWords", 109, yX7_init)], Cond.methodLinkNest q.1 q.2.1 q.2.2 "WornWords" ∈ lw_tbl := by decide +kernel
theorem jx_wd_o : Cond.arrayOver (.object RX7) ∈ lw_tbl ∧ Cond.arrayOver (.object RX8) ∈ lw_tbl ∧ Cond.arrayOver (.object RX10) ∈ lw_tbl := by decide +kernel
theorem jx_arrP {args : Array Value} {s : State} {ty : FieldType} (h : (Cond.arrayClass ty).before args s = true) (hne : ∀ C, ty ≠ .object C) : ∃ cA, ArrOfT s cA ty ∧ va_RA s cA ty := by
  obtain ⟨c, k, comp, h1, h2, h3⟩ := Cond.arrayClass_spec h
  refine ⟨c, fun n z => ⟨fun k h => (by cases h), k, h2, comp, h3⟩, ?_⟩
  cases ty with
  | object C => exact absurd rfl (hne C)
  | _ => exact h1
theorem jx_arrO {args : Array Value} {s : State} {C : String} (h : (Cond.arrayOver (.object C)).before args s = true) : ∃ cA, ArrOfT s cA (.object C) ∧ va_RA s cA (.object C) := by
  obtain ⟨comp, c, k, h1, h2, h3, h4, h5⟩ := Cond.arrayOver_spec h
  exact ⟨c, fun n z => ⟨fun k h => (by cases h), k, h3, comp, h4⟩, k, comp, h3, h4, h1, h5⟩
theorem jx_start {p : Program} {s : State} {m : MethodId} {meth : Method} {c : Code} {b L : Nat} {xs : Nat → Int32} (C0 : lw_At p s m meth c b L xs) : ∃ G : jx_G, jx_T G L xs s ∧ jx_B G = s.heap.size ∧ G.2.2.2.2.2.2 = b := by
  obtain ⟨hx, hb, hr, hml, hown, hts, hX, hbl, hlocks, hgv⟩ := C0
  have hfc : ∀ w ∈ jx_fc, w.before #[Value.ref b] s = true := flat_of_before _ hgv
  have hA : ∀ a : Nat, a < s.heap.size → ¬ (fun q : Nat => s.heap.size ≤ q) a := fun a h => Nat.not_le.mpr h
  have hD : ∀ c : Nat, ∃ r : ClassId × (Nat → Nat), ∀ q, vwCl[c]? = some q → u_Kn s q.1 q.2.1 q.2.2 r.1 r.2 := by
    intro c
    cases hq : vwCl[c]? with
    | none => exact ⟨(0, fun _ => 0), fun q h => by cases h⟩
    | some q =>
      have hc := jx_cls_all hq
      obtain ⟨cC, iS, hk⟩ := u_known (ws := jx_gw) (n := q.2.2) (fun w hw => hts w (List.mem_filter.mp hw).1) hc.1 (hts _ (List.mem_filter.mp hc.2.2.2.2.2.1).1)
      exact ⟨(cC, iS), fun q' h => by cases h; exact hk⟩
  obtain ⟨D, hD⟩ := Classical.axiomOfChoice hD
  obtain ⟨a0, ha0⟩ := jx_arrP (hts _ jx_wd_arr.1) (fun _ h => by cases h)
  obtain ⟨a1, ha1⟩ := jx_arrP (hts _ jx_wd_arr.2.1) (fun _ h => by cases h)
  obtain ⟨a2, ha2⟩ := jx_arrP (hts _ jx_wd_arr.2.2.1) (fun _ h => by cases h)
  obtain ⟨a3, ha3⟩ := jx_arrP (hts _ jx_wd_arr.2.2.2) (fun _ h => by cases h)
  obtain ⟨a10, ha10⟩ := jx_arrO (hts _ jx_wd_o.1)
  obtain ⟨a11, ha11⟩ := jx_arrO (hts _ jx_wd_o.2.1)
  obtain ⟨a13, ha13⟩ := jx_arrO (hts _ jx_wd_o.2.2)
  have hZ1 := va_Zof (hts _ jx_wd_z.1) (hts _ jx_wd_z.2.1) (va_eqi (hfc _ (List.mem_of_getElem? jx_fc_x.1))) hA
  have hZ2 : ∃ v : Value, va_Z "jdk/internal/util/Preconditions" "SIOOBE_FORMATTER" "Ljava/util/function/BiFunction;" v (fun q : Nat => s.heap.size ≤ q) s s.heap ∧ (v = .null ∨ ∃ a, v = .ref a) := by
    rcases va_Zqof (hts _ jx_wd_z.2.2.1) (hts _ jx_wd_z.2.2.2) (hfc _ (List.mem_of_getElem? jx_fc_x.2.1)) hA with h | ⟨t, h⟩
    · exact ⟨_, h, Or.inl rfl⟩
    · exact ⟨_, h, Or.inr ⟨t, rfl⟩⟩
  obtain ⟨v, hZ2, hv⟩ := hZ2
  have hS := vk_Sof (args := #[Value.ref b]) (s := s) (N := 3) (tm := jx_tm) (len := jx_sl) (byt := jm_st) (A := fun q : Nat => s.heap.size ≤ q)
    (fun i hi => by obtain ⟨e0, e1, e2⟩ := jx_sl_v; rcases (show i = 0 ∨ i = 1 ∨ i = 2 by omega) with rfl | rfl | rfl <;> omega)
    (fun i hi => hfc _ ((jx_fc_s hi).1 _ (by simp [jx_s4])))
    (fun i hi => hfc _ ((jx_fc_s hi).1 _ (by simp [jx_s4])))
    (fun i hi => hfc _ ((jx_fc_s hi).1 _ (by simp [jx_s4])))
    (fun i hi => hfc _ ((jx_fc_s hi).1 _ (by simp [jx_s4])))
    (fun i hi j hj => hfc _ ((jx_fc_s hi).2 j hj))
    (fun i j hi hj hij => by
      have h01 := hfc _ (List.mem_of_getElem? jx_fc_x.2.2.1)
      have h02 := hfc _ (List.mem_of_getElem? jx_fc_x.2.2.2.1)
      have h12 := hfc _ (List.mem_of_getElem? jx_fc_x.2.2.2.2)
      rcases (show i = 0 ∨ i = 1 ∨ i = 2 by omega) with rfl | rfl | rfl <;> rcases (show j = 0 ∨ j = 1 ∨ j = 2 by omega) with rfl | rfl | rfl
      · exact absurd rfl hij
      · exact Or.inl h01
      · exact Or.inl h02
      · exact Or.inr h01
      · exact absurd rfl hij
      · exact Or.inl h12
      · exact Or.inr h02
      · exact Or.inr h12
      · exact absurd rfl hij) hA
  obtain ⟨adK, adV, hS, hSe⟩ := hS
  refine ⟨((fun c => (D c).1, fun c => (D c).2), (fun k => if k = 0 then a0 else if k = 1 then a1 else if k = 2 then a2 else if k = 3 then a3 else if k = 10 then a10 else if k = 11 then a11 else a13), s.heap.size, adK, adV, v, b), ⟨⟨fun c q hq => hD c q hq, fun k q hq => ?_⟩, hZ1, hZ2, hS, ⟨vk_R.of (hts _ jx_wd_s.1) (hSe 0 (by decide)), vk_R.of (hts _ jx_wd_s.2.1) (hSe 1 (by decide)), vk_R.of (hts _ jx_wd_s.2.2) (hSe 2 (by decide))⟩, ⟨hX, hbl⟩, fun q hq => hts _ (jx_wd_n q hq), ⟨hts _ jx_wd_o.1, hts _ jx_wd_o.2.1, hts _ jx_wd_o.2.2⟩, hv⟩, rfl, rfl⟩
  match k, hq with
  | 0, hq => cases hq; exact ha0
  | 1, hq => cases hq; exact ha1
  | 2, hq => cases hq; exact ha2
  | 3, hq => cases hq; exact ha3
  | 4, hq => cases hq; exact ha10
  | 5, hq => cases hq; exact ha11
  | 6, hq => cases hq; exact ha13
  | k + 7, hq => simp [jx_tys] at hq
