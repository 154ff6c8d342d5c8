/-! ===== a call of the class, then the same call of the reference ===== -/
theorem jf_noref {S : jm_Rf → Prop} {as : List jm_V} (h : as.all (fun v => match v with | .inr (.inr (.inl _)) => false | _ => true) = true) : jf_l S as := fun v hv => by
  have := List.all_eq_true.mp h v hv
  rcases v with a | a | a | a
  · trivial
  · trivial
  · cases this
  · trivial
def jp_nr (as : List jm_V) : Prop := as.all (fun v => match v with | .inr (.inr (.inl _)) => false | _ => true) = true
/-- the class's cells as in one memory, the others as in another one -/
noncomputable def jp_2 (μa μb : jm_M) : jm_M := jm_mx jf_M μa μb
theorem jp_2M {μa μb : jm_M} {K : Nat} (h : 40 ≤ K) (i j : Nat) : (jp_2 μa μb).1 K i j = μb.1 K i j ∧ (jp_2 μa μb).2 K i j = μb.2 K i j := ⟨jm_mx_1 (S := jf_M) (r := (K, i, j)) h, jm_mx_2 (S := jf_M) (r := (K, i, j)) h⟩
theorem jp_2X {μa μb : jm_M} {K : Nat} (h : K < 40) (i j : Nat) : (jp_2 μa μb).1 K i j = μa.1 K i j ∧ (jp_2 μa μb).2 K i j = μa.2 K i j := by
  have hn : ¬ jf_M (K, i, j) := fun z => by have : 40 ≤ K := z; omega
  exact ⟨jm_mx_1n (S := jf_M) hn, jm_mx_2n (S := jf_M) hn⟩
theorem jp_pair {d kX kM : Nat} {as : List jm_V} {v : jm_V} {μ μa μb : jm_M} (hn : jp_nr as) (hX : jm_sem false d kX (vX :: as) μ = some (v, μa)) (hM : jm_sem false d kM (vM :: as) μ = some (v, μb)) :
    jm_sem false d kM (vM :: as) μa = some (v, jp_2 μa μb) ∧ (∀ K i j, 40 ≤ K → μa.1 K i j = μ.1 K i j ∧ μa.2 K i j = μ.2 K i j) ∧ (∀ K i j, K < 40 ∨ 60 ≤ K → μb.1 K i j = μ.1 K i j ∧ μb.2 K i j = μ.2 K i j) := by
  have vx : jf_v jf_X vX := Or.inl (show (0 : Nat) < 40 by decide)
  have vm : jf_v jf_M vM := (show (40 : Nat) ≤ 40 from Nat.le_refl _)
  have fX := jf_sem jf_X_S (jf_cons.mpr ⟨vx, jf_noref hn⟩) hX
  have fM := jf_sem jf_M_S (jf_cons.mpr ⟨vm, jf_noref hn⟩) hM
  have eX : ∀ K i j, 40 ≤ K → μa.1 K i j = μ.1 K i j ∧ μa.2 K i j = μ.2 K i j := by
    intro K i j hK
    by_cases h6 : 60 ≤ K
    · exact fX (K, i, j) (Or.inr h6)
    · refine fX (K, i, j) (Or.inl (fun z => ?_))
      rcases z with z | z
      · have : K < 40 := z
        omega
      · exact h6 z
  refine ⟨?_, eX, fun K i j hK => ?_⟩
  · have h := jm_sem_mx (ν := μa) jf_M_S (show 40 ≤ 70 by decide) (jf_cons.mpr ⟨vm, jf_noref hn⟩) hM
    have e : jm_mx jf_M μa μ = μa := by
      refine jm_mx_ext (fun K i j => ?_) (fun K i j => ?_)
      · by_cases hK : 40 ≤ K
        · exact (jm_mx_1 (S := jf_M) (r := (K, i, j)) hK).trans (eX K i j hK).1.symm
        · exact jm_mx_1n (S := jf_M) (r := (K, i, j)) (fun z => hK z)
      · by_cases hK : 40 ≤ K
        · exact (jm_mx_2 (S := jf_M) (r := (K, i, j)) hK).trans (eX K i j hK).2.symm
        · exact jm_mx_2n (S := jf_M) (r := (K, i, j)) (fun z => hK z)
    rw [e] at h
    exact h
  · rcases hK with hK | hK
    · exact fM (K, i, j) (Or.inl (fun z => by have : 40 ≤ K := z; omega))
    · exact fM (K, i, j) (Or.inr hK)
