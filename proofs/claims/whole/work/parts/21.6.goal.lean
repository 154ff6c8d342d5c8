/-! ===== the claim out of a run of the small machine ===== -/
def jl_g (L : Nat) (xs : Nat → Int32) : Nat → Nat → Nat → Int32 := fun _ j k => if j = 0 then xs k else Int32.ofNat L
/-- what is left: the law's loop, as the small machine runs it, answers 1 -/
def jl_goal : Prop := ∀ (L : Nat) (xs : Nat → Int32), L ≤ 3072 → ∃ μ', jm_ev false 100 13 2 jc_L_law 16 jl_ls [] (jm_ov (jl_g L xs) jm_mD) = some (.inl 1, μ')
theorem whole_start_of (hgoal : jl_goal) {p : Program} {e : Env} {s : State} {m : MethodId} {below : List Frame} {meth : Method} {c : Code} (l : Launch) {b L : Nat} {xs : Nat → Int32} (hL : L ≤ 3072) (C0 : lw_At p s m meth c b L xs) : W p l e room_1 s m #[Value.ref b] below meth c s.heap [] 0 0 (lw_Z below #[Value.ref b] s) (entryFrame m ([Value.ref b] : List Value).toArray 4) := by
  obtain ⟨G, hT, hB, hGb⟩ := jx_start C0
  obtain ⟨hx, hb, hr, hml, hown, hts, hX, hbl, hlocks, hgv⟩ := C0
  obtain ⟨μ', hev⟩ := hgoal L xs hL
  obtain ⟨n, hn⟩ := jm_ev_iff.mp hev
  have C : jx_C p s m #[Value.ref b] c G L xs code 4 R_law 0 := ⟨hx, hb, hml, hown, fun w hw => hts w (List.mem_filter.mp hw).1, hT, by rw [hB]; rfl⟩
  have hsv := hT.2.2.2.2.2.2.2.2
  have key := jx_prefix (l := l) (e := e) (below := below) (meth := meth) (R := room_1) (Q := lw_Z below #[Value.ref b] s) (jl_g L xs) C (by decide) (by decide) (by decide) (by decide)
    (jx_runJ l n hn C rfl jx_ck_law jx_kck_law (Or.inr (by decide +kernel)) (Nat.zero_le _) (by decide) (by decide) (show 179 - 0 ≤ 600000 by decide) (show 8600 * (179 - 0) ≤ 7302250 by decide) (fun pc' H locs LS hrd hS hH2 => ?_))
  · rw [lg_entry_eq]
    have hen := jx_entry hsv (as := [.inr (.inr (.inl (70, 0, 0)))]) (mx := 4) (by decide)
    have ev : ([.inr (.inr (.inl (70, 0, 0)))] : List jm_V).map (jx_v G) = [Value.ref b] := by
      show [Value.ref G.2.2.2.2.2.2] = _
      rw [hGb]
    rw [ev] at hen
    have h9 := key s.heap [] _ ⟨⟨⟨Nat.zero_le _, fun k q hq => ?_, fun r k hr _ _ => ?_, fun _ n r _ hr k => ?_⟩, ⟨fun j => rfl, rfl, by omega⟩⟩, va_S.rf, hen, fun v hv => ?_, jx_oks_nil⟩
    · exact h9
    · have : jx_ws G true (jm_ov (jl_g L xs) jm_mz) = [] := rfl
      rw [this] at hq
      cases hq
    · obtain ⟨n, hn, -⟩ := hr
      exact absurd hn (Nat.not_lt_zero _)
    · have h60 := jx_k60 hr
      rw [jm_ov_1 (by omega), jm_ov_1 (by omega)]
      exact ⟨rfl, rfl, rfl⟩
    · rcases List.mem_cons.mp hv with rfl | hv
      · exact Or.inr (Or.inr (Or.inr (Or.inr rfl)))
      · rcases List.mem_cons.mp hv with rfl | hv
        · trivial
        rcases List.mem_cons.mp hv with rfl | hv
        · trivial
        rcases List.mem_cons.mp hv with rfl | hv
        · trivial
        cases hv
  · refine va_forget (fun q hq => ?_) (W.widen (k := 600000) (n := 7302250) (show 179 - 0 ≤ 600000 by decide) (show 8600 * (179 - 0) ≤ 7302250 by decide) ?_)
    · have := hS.2.2 q hq
      rw [← hB]
      exact this
    · rcases hrd with ⟨h1, -⟩ | ⟨h1, -⟩ | ⟨-, -, h3⟩
      · cases h1
      · cases h1
      · exact lw_ret hx hb hr hlocks h3
