/-! ===== the law's loop: both objects new ===== -/
def st0 : St := (vNil, 0, fun _ => none, (0, fun _ => 0), [], [], none, (0, 1), (-1, -1))
theorem okV_nil : okV vNil := ⟨Nat.zero_le _, Nat.zero_le _, Nat.zero_le _, ⟨Nat.zero_le _, fun j hj => absurd hj (Nat.not_lt_zero j), fun a b ha => absurd ha (Nat.not_lt_zero a)⟩, fun s w hs => absurd hs (Nat.not_lt_zero s), fun c k h => (by cases h), ⟨Nat.zero_le _, Nat.zero_le _, fun r hr => absurd hr List.not_mem_nil⟩⟩
theorem okA_0 : okA st0 := ⟨okV_nil, Nat.zero_le _, fun k hk => absurd hk (Nat.not_lt_zero k), Nat.zero_le _, fun k hk => absurd hk (Nat.not_lt_zero k)⟩
theorem j0I (g : Nat → Nat → Nat → Int32) {K i j k : Nat} {x : Int32} (h : (K, i, j, k, x) ∈ jm_iniI) (hK : K ≠ 70) : (jm_ov g jm_mD).1 K i j k = x := by
  rw [jm_ov_1 hK]
  exact jm_Q_I jm_mD_Q h
theorem j0L (g : Nat → Nat → Nat → Int32) {K i j k : Nat} {x : Int64} (h : (K, i, j, k, x) ∈ jm_iniL) : (jm_ov g jm_mD).2 K i j k = x := jm_Q_L jm_mD_Q h
theorem i0_19 : ∀ c, c < 32 → (19, 0, 0, c, nI (32 + c)) ∈ jm_iniI := by decide +kernel
theorem i0_41' : ∀ c, c < 26 → (41, 0, 0, 490 + (c + 1), nI (100 + (c + 1))) ∈ jm_iniI := by decide +kernel
theorem i0_41 {c : Nat} (h : c < 27) (h1 : 1 ≤ c) : (41, 0, 0, 490 + c, nI (100 + c)) ∈ jm_iniI := by
  obtain ⟨q, rfl⟩ : ∃ q, c = q + 1 := ⟨c - 1, by omega⟩
  exact i0_41' q (by omega)
theorem i0_2 : ∀ t, t < 4 → (2, t, 0, 1, (-1 : Int32)) ∈ jm_iniI := by decide +kernel
theorem i0_44 : ∀ t, t < 4 → (44, 0, 0, t, (-1 : Int32)) ∈ jm_iniI := by decide +kernel
theorem xA_0' (g : Nat → Nat → Nat → Int32) : xA st0 (jm_ov g jm_mD) := by
  refine ⟨⟨⟨?_, ?_, ?_, ?_, ⟨?_, ?_, ?_, fun k hk => absurd hk (Nat.not_lt_zero k), fun r hr => absurd hr (Nat.not_lt_zero r)⟩, fun c c1 c2 => ?_, fun s w hs => absurd hs (Nat.not_lt_zero s)⟩, fun j hj => absurd hj (Nat.not_lt_zero j)⟩, ?_, fun t ht => ?_, ⟨Nat.zero_le _, ?_, fun k hk => absurd hk (Nat.not_lt_zero k)⟩, ?_, fun k hk => absurd hk (Nat.not_lt_zero k), ?_, fun k hk => absurd hk (Nat.not_lt_zero k), ?_, ?_, ?_, ?_, ?_⟩
  · exact j0I g (x := nI 0) (by decide +kernel) (by decide)
  · exact j0I g (x := nI 0) (by decide +kernel) (by decide)
  · exact j0I g (x := nI 0) (by decide +kernel) (by decide)
  · exact j0I g (x := nI 0) (by decide +kernel) (by decide)
  · exact j0I g (x := nI 0) (by decide +kernel) (by decide)
  · exact j0I g (x := nI 0) (by decide +kernel) (by decide)
  · exact j0I g (x := nI 0) (by decide +kernel) (by decide)
  · exact j0I g (i0_19 c (by omega)) (by decide)
  · exact j0I g (x := 0) (by decide +kernel) (by decide)
  · exact j0I g (i0_2 t ht) (by decide)
  · exact j0I g (x := nI 0) (by decide +kernel) (by decide)
  · exact j0I g (x := nI 0) (by decide +kernel) (by decide)
  · exact j0I g (x := nI 0) (by decide +kernel) (by decide)
  · exact j0I g (x := 0) (by decide +kernel) (by decide)
  · exact j0L g (x := 0) (by decide +kernel)
  · exact j0L g (x := 1) (by decide +kernel)
  · exact j0I g (x := -1) (by decide +kernel) (by decide)
  · exact j0I g (x := -1) (by decide +kernel) (by decide)
theorem mA_0' (g : Nat → Nat → Nat → Int32) : mA st0 (jm_ov g jm_mD) := by
  refine ⟨⟨⟨?_, ?_, ?_, ?_, fun j hj => absurd hj (Nat.not_lt_zero j)⟩, fun s w hs => absurd hs (Nat.not_lt_zero s), fun c c1 c2 => ?_, ?_, fun k hk => absurd hk (Nat.not_lt_zero k), fun r hr => absurd hr (Nat.not_lt_zero r)⟩, ?_, fun t ht => ?_, ⟨Nat.zero_le _, ?_, fun k hk => absurd hk (Nat.not_lt_zero k)⟩, ?_, fun k hk => absurd hk (Nat.not_lt_zero k), ?_, fun k hk => absurd hk (Nat.not_lt_zero k), ?_, ?_, ?_, ?_, ?_⟩
  · exact j0I g (x := nI 0) (by decide +kernel) (by decide)
  · exact j0I g (x := nI 0) (by decide +kernel) (by decide)
  · exact j0I g (x := nI 0) (by decide +kernel) (by decide)
  · exact j0I g (x := nI 0) (by decide +kernel) (by decide)
  · exact j0I g (i0_41 (by omega) c1) (by decide)
  · exact j0I g (x := nI 0) (by decide +kernel) (by decide)
  · exact j0I g (x := 0) (by decide +kernel) (by decide)
  · exact j0I g (i0_44 t ht) (by decide)
  · exact j0I g (x := nI 0) (by decide +kernel) (by decide)
  · exact j0I g (x := nI 0) (by decide +kernel) (by decide)
  · exact j0I g (x := nI 0) (by decide +kernel) (by decide)
  · exact j0I g (x := 0) (by decide +kernel) (by decide)
  · exact j0L g (x := 0) (by decide +kernel)
  · exact j0L g (x := 1) (by decide +kernel)
  · exact j0I g (x := -1) (by decide +kernel) (by decide)
  · exact j0I g (x := -1) (by decide +kernel) (by decide)
theorem scr_0 {L : Nat} (hL : L ≤ 3072) (xs : Nat → Int32) : scr L xs (jm_ov (jl_g L xs) jm_mD) := ⟨fun k => rfl, nI_clamp (n := L) (by omega)⟩
theorem jl_all : jl_goal := fun L xs hL => by
  obtain ⟨μ', h⟩ := jl_loop hL L 0 st0 (jm_ov (jl_g L xs) jm_mD) (by omega) (by omega) ⟨okA_0, xA_0' _, mA_0' _, scr_0 hL xs⟩
  exact ⟨μ', (l_L_law_16 100 jm_j _).trans h⟩
