/-! ===== both objects whole ===== -/
/-- village, status, trays, tape, marks (oldest first), best row, gossip told, fraction, fault -/
abbrev St : Type := Vl × Int32 × Tr × Tp × List Vl × List Nat × Option (Int32 × Int32 × Int32 × Int32) × (Int64 × Int64) × (Int32 × Int32)
abbrev aV (s : St) : Vl := s.1
abbrev aS (s : St) : Int32 := s.2.1
abbrev aT (s : St) : Tr := s.2.2.1
abbrev aP (s : St) : Tp := s.2.2.2.1
abbrev aM (s : St) : List Vl := s.2.2.2.2.1
abbrev aB (s : St) : List Nat := s.2.2.2.2.2.1
abbrev aG (s : St) : Option (Int32 × Int32 × Int32 × Int32) := s.2.2.2.2.2.2.1
abbrev aF (s : St) : Int64 × Int64 := s.2.2.2.2.2.2.2.1
abbrev aX (s : St) : Int32 × Int32 := s.2.2.2.2.2.2.2.2
def stV (s : St) (V : Vl) (x : Int32) : St := (V, x, aT s, aP s, aM s, aB s, aG s, aF s, aX s)
def vNil : Vl := (0, 0, 0, [], fun _ _ => [], fun _ => none, [])
def gm (l : List Vl) (k : Nat) : Vl := l.getD k vNil
def okA (s : St) : Prop := okV (aV s) ∧ (aM s).length ≤ 3 ∧ (∀ k, k < (aM s).length → okV (gm (aM s) k)) ∧ (aB s).length ≤ 5 ∧ (∀ k, k < (aB s).length → (aB s).getD k 0 < 12)
/-! ===== the class ===== -/
def xG (g : Option (Int32 × Int32 × Int32 × Int32)) (μ : jm_M) : Prop := match g with
  | none => μ.1 0 0 0 17 = 0
  | some (a, b, c, e) => μ.1 0 0 0 17 = 1 ∧ μ.1 37 0 0 1 = a ∧ μ.1 37 0 0 2 = b ∧ μ.1 37 0 0 3 = c ∧ μ.1 37 0 0 4 = e
def xO (s : St) (μ : jm_M) : Prop := μ.1 0 0 0 14 = aS s ∧ xT (aT s) μ ∧ xP (aP s) μ ∧ μ.1 0 0 0 13 = nI (aM s).length ∧ (∀ k, k < (aM s).length → xV (gm (aM s) k) (2 + k) μ) ∧ μ.1 22 0 0 1 = nI (aB s).length ∧ (∀ k, k < (aB s).length → μ.1 23 0 0 k = nI ((aB s).getD k 0)) ∧ xG (aG s) μ ∧ μ.2 0 0 0 18 = (aF s).1 ∧ μ.2 0 0 0 19 = (aF s).2 ∧ μ.1 0 0 0 15 = (aX s).1 ∧ μ.1 0 0 0 16 = (aX s).2
def xA (s : St) (μ : jm_M) : Prop := xV (aV s) 0 μ ∧ xO s μ
/-- what stands in xO -/
def SO (K i _j k : Nat) : Prop := K = 0 ∨ K = 2 ∨ K = 3 ∨ K = 4 ∨ (2 ≤ i ∧ i < 5 ∧ (K = 10 ∨ (12 ≤ K ∧ K ≤ 19))) ∨ (K = 22 ∧ k = 1) ∨ K = 23 ∨ (K = 37 ∧ i = 0)
def QX (K i j k : Nat) : Prop := ¬ SO K i j k
theorem xO_k {s : St} {μ μ' : jm_M} (h : xO s μ) (ho : okA s) (hf : ∀ K i j k, SO K i j k → μ'.1 K i j k = μ.1 K i j k ∧ μ'.2 K i j k = μ.2 K i j k) : xO s μ' := by
  obtain ⟨h1, h2, h3, h4, h5, h6, h7, h8, h9, h10, h11, h12⟩ := h
  have k0 := fun k => (hf 0 0 0 k (Or.inl rfl)).1
  have k0L := fun k => (hf 0 0 0 k (Or.inl rfl)).2
  have k2 := fun i j k => (hf 2 i j k (Or.inr (Or.inl rfl))).1
  have k3 := fun i j k => (hf 3 i j k (Or.inr (Or.inr (Or.inl rfl)))).2
  have k4 := fun i j k => (hf 4 i j k (Or.inr (Or.inr (Or.inr (Or.inl rfl))))).1
  have k23 := fun k => (hf 23 0 0 k (by unfold SO; omega)).1
  have k37 := fun k => (hf 37 0 0 k (by unfold SO; omega)).1
  have k22 := (hf 22 0 0 1 (by unfold SO; omega)).1
  refine ⟨by rw [k0]; exact h1, xT_k h2 k2 k3, xP_k h3 (k0 12) k4, by rw [k0]; exact h4, fun k hk => ?_, by rw [k22]; exact h6, fun k hk => by rw [k23]; exact h7 k hk, ?_, by rw [k0L]; exact h9, by rw [k0L]; exact h10, by rw [k0]; exact h11, by rw [k0]; exact h12⟩
  · have := ho.2.1
    have hv := (ho.2.2.1 k hk).2.2.2.1.1
    exact ⟨xH_k (h5 k hk).1 (fun K q hK => hf K (2 + k) 0 q (by unfold SO; omega)), fun j hj => xW_k ((h5 k hk).2 j hj) (fun q => (hf 12 (2 + k) j q (by unfold SO; omega)).1) (fun q => (hf 12 (2 + k) j q (by unfold SO; omega)).2)⟩
  · unfold xG at h8 ⊢
    split at h8
    · rw [k0]; exact h8
    · rw [k0, k37, k37, k37, k37]; exact h8
theorem xO_fr {s : St} {μ μ' : jm_M} (h : xO s μ) (ho : okA s) (hf : fr QX μ μ') : xO s μ' := xO_k h ho (fun K i j k hS => hf K i j k (fun z => z hS))
theorem xO_st {s : St} {μ : jm_M} (h : xO s μ) (ho : okA s) (V : Vl) (x : Int32) : xO (stV s V x) (jm_sI μ 0 0 0 14 x) := by
  obtain ⟨h1, h2, h3, h4, h5, h6, h7, h8, h9, h10, h11, h12⟩ := h
  have hi : ∀ K i j k, ¬ (K = 0 ∧ k = 14) → (jm_sI μ 0 0 0 14 x).1 K i j k = μ.1 K i j k := fun K i j k hn => by rw [rd_II, if_neg (fun z => hn ⟨z.1, z.2.2.2⟩)]
  refine ⟨by rw [rd_II, if_pos ⟨rfl, rfl, rfl, rfl⟩]; rfl, xT_k h2 (fun i j k => hi 2 i j k (by omega)) (fun i j k => rfl), xP_k h3 (hi 0 0 0 12 (by omega)) (fun i j k => hi 4 i j k (by omega)), by rw [hi _ _ _ _ (by omega)]; exact h4, fun k hk => ?_, by rw [hi _ _ _ _ (by omega)]; exact h6, fun k hk => by rw [hi _ _ _ _ (by omega)]; exact h7 k hk, ?_, h9, h10, by rw [hi _ _ _ _ (by omega)]; exact h11, by rw [hi _ _ _ _ (by omega)]; exact h12⟩
  · exact ⟨xH_k (h5 k hk).1 (fun K q hK => ⟨hi _ _ _ _ (by omega), rfl⟩), fun j hj => xW_k ((h5 k hk).2 j hj) (fun q => hi _ _ _ _ (by omega)) (fun q => rfl)⟩
  · show xG (aG s) _
    unfold xG at h8 ⊢
    split at h8
    · rw [hi _ _ _ _ (by omega)]; exact h8
    · rw [hi _ _ _ _ (by omega), hi _ _ _ _ (by omega), hi _ _ _ _ (by omega), hi _ _ _ _ (by omega), hi _ _ _ _ (by omega)]; exact h8
theorem xV_st {V : Vl} {i : Nat} {μ : jm_M} (h : xV V i μ) (x : Int32) : xV V i (jm_sI μ 0 0 0 14 x) := ⟨xH_k h.1 (fun K k hK => ⟨by rw [rd_II, if_neg (by omega)], rfl⟩), fun j hj => xW_k (h.2 j hj) (fun k => by rw [rd_II, if_neg (by omega)]) (fun k => rfl)⟩
/-- a call's end in the class -/
theorem xA_fin {s : St} {μ m : jm_M} (h : xA s μ) (ho : okA s) {V : Vl} (hv : xV V 0 m) (hf : fr QX μ m) (x : Int32) : xA (stV s V x) (jm_sI m 0 0 0 14 x) := ⟨xV_st hv x, xO_st (xO_fr h.2 ho hf) ho V x⟩
theorem xA_0 {s : St} {μ : jm_M} (h : xA s μ) (ho : okA s) (x : Int32) : xA (stV s (aV s) x) (jm_sI μ 0 0 0 14 x) := xA_fin h ho h.1 .rf x
/-! ===== the reference ===== -/
def mG (g : Option (Int32 × Int32 × Int32 × Int32)) (μ : jm_M) : Prop := match g with
  | none => μ.1 40 0 0 46 = 0
  | some (a, b, c, e) => μ.1 40 0 0 46 = 1 ∧ μ.1 59 0 0 0 = a ∧ μ.1 59 0 0 1 = b ∧ μ.1 59 0 0 2 = c ∧ μ.1 59 0 0 3 = e
/-- the village here, whole -/
def mF (V : Vl) (μ : jm_M) : Prop := mV V 0 μ ∧ mN V 0 μ ∧ mS (vlS V) μ ∧ mL (vlR V) μ
/-- a village kept elsewhere -/
def mK (V : Vl) (s l : Nat) (μ : jm_M) : Prop := ∃ ν, mF V ν ∧ (∀ k, k < 770 → μ.1 41 0 0 (s + k) = ν.1 41 0 0 k) ∧ ∀ k, k < 64 → μ.2 42 0 0 (l + k) = ν.2 42 0 0 k
def mO (s : St) (μ : jm_M) : Prop := μ.1 40 0 0 2 = aS s ∧ mT (aT s) μ ∧ mP (aP s) μ ∧ μ.1 40 0 0 47 = nI (aM s).length ∧ (∀ k, k < (aM s).length → mK (gm (aM s) k) (770 * (k + 1)) (64 * (k + 1)) μ) ∧ μ.1 40 0 0 37 = nI (aB s).length ∧ (∀ k, k < (aB s).length → μ.1 55 0 0 k = nI ((aB s).getD k 0)) ∧ mG (aG s) μ ∧ μ.2 40 0 0 3 = (aF s).1 ∧ μ.2 40 0 0 4 = (aF s).2 ∧ μ.1 40 0 0 16 = (aX s).1 ∧ μ.1 40 0 0 17 = (aX s).2
def mA (s : St) (μ : jm_M) : Prop := mF (aV s) μ ∧ mO s μ
def SM (K _i _j k : Nat) : Prop := (K = 40 ∧ (k = 2 ∨ k = 3 ∨ k = 4 ∨ k = 10 ∨ k = 16 ∨ k = 17 ∨ k = 37 ∨ k = 46 ∨ k = 47)) ∨ (K = 41 ∧ 770 ≤ k ∧ k < 3080) ∨ (K = 42 ∧ 64 ≤ k ∧ k < 256) ∨ K = 43 ∨ K = 44 ∨ K = 45 ∨ K = 46 ∨ K = 55 ∨ K = 59
def QM (K i j k : Nat) : Prop := ¬ SM K i j k
theorem mO_k {s : St} {μ μ' : jm_M} (h : mO s μ) (ho : okA s) (hf : ∀ K i j k, SM K i j k → μ'.1 K i j k = μ.1 K i j k ∧ μ'.2 K i j k = μ.2 K i j k) : mO s μ' := by
  obtain ⟨h1, h2, h3, h4, h5, h6, h7, h8, h9, h10, h11, h12⟩ := h
  have hl := ho.2.1
  have k43 := fun i j k => (hf 43 i j k (by unfold SM; omega)).1
  have k44 := fun i j k => (hf 44 i j k (by unfold SM; omega)).1
  have k45 := fun i j k => (hf 45 i j k (by unfold SM; omega)).2
  have k46 := fun i j k => (hf 46 i j k (by unfold SM; omega)).1
  have k55 := fun k => (hf 55 0 0 k (by unfold SM; omega)).1
  have k59 := fun k => (hf 59 0 0 k (by unfold SM; omega)).1
  have q := fun k (hk : SM 40 0 0 k) => (hf 40 0 0 k hk).1
  refine ⟨by rw [q 2 (by unfold SM; omega)]; exact h1, mT_k h2 k43 k44 k45, mP_k h3 (q 10 (by unfold SM; omega)) k46, by rw [q 47 (by unfold SM; omega)]; exact h4, fun k hk => ?_, by rw [q 37 (by unfold SM; omega)]; exact h6, fun k hk => by rw [k55]; exact h7 k hk, ?_, by rw [(hf 40 0 0 3 (by unfold SM; omega)).2]; exact h9, by rw [(hf 40 0 0 4 (by unfold SM; omega)).2]; exact h10, by rw [q 16 (by unfold SM; omega)]; exact h11, by rw [q 17 (by unfold SM; omega)]; exact h12⟩
  · obtain ⟨ν, n1, n2, n3⟩ := h5 k hk
    exact ⟨ν, n1, fun c hc => by rw [(hf 41 0 0 _ (by unfold SM; omega)).1]; exact n2 c hc, fun c hc => by rw [(hf 42 0 0 _ (by unfold SM; omega)).2]; exact n3 c hc⟩
  · unfold mG at h8 ⊢
    split at h8
    · rw [q 46 (by unfold SM; omega)]; exact h8
    · rw [q 46 (by unfold SM; omega), k59, k59, k59, k59]; exact h8
theorem mO_fr {s : St} {μ μ' : jm_M} (h : mO s μ) (ho : okA s) (hf : fr QM μ μ') : mO s μ' := mO_k h ho (fun K i j k hS => hf K i j k (fun z => z hS))
theorem mF_k {V : Vl} {μ μ' : jm_M} (h : mF V μ) (ho : okV V) (h1 : ∀ k, k < 770 → μ'.1 41 0 0 k = μ.1 41 0 0 k) (h2 : ∀ k, k < 64 → μ'.2 42 0 0 k = μ.2 42 0 0 k) : mF V μ' := by
  obtain ⟨a, b, c, e⟩ := h
  have h12 := ho.2.2.2.1.1
  have hp := ho.2.1
  have hr := ho.2.2.2.2.2.2
  have hr1 := hr.1
  have hr2 := hr.2.1
  refine ⟨mV_cp a ho.2.2.2.1 (fun k hk => h1 _ (by omega)), fun s w hs hw => by rw [h2 _ (by omega)]; exact b s w hs hw, fun q q1 q2 => by rw [h1 _ (by omega)]; exact c q q1 q2, by rw [h1 _ (by omega)]; exact e.1, fun k hk => by rw [h1 _ (by omega)]; exact e.2.1 k hk, fun r hr => ?_⟩
  rw [h1 _ (by omega), h1 _ (by omega), h1 _ (by omega)]
  exact e.2.2 r hr
theorem mF_fr {V : Vl} {P : Nat → Nat → Nat → Nat → Prop} {μ μ' : jm_M} (h : mF V μ) (ho : okV V) (hf : fr P μ μ') (h1 : ∀ k, k < 770 → ¬ P 41 0 0 k) (h2 : ∀ k, k < 64 → ¬ P 42 0 0 k) : mF V μ' := mF_k h ho (fun k hk => (hf 41 0 0 k (h1 k hk)).1) (fun k hk => (hf 42 0 0 k (h2 k hk)).2)
theorem mO_st {s : St} {μ : jm_M} (h : mO s μ) (V : Vl) (x : Int32) : mO (stV s V x) (jm_sI μ 40 0 0 2 x) := by
  obtain ⟨h1, h2, h3, h4, h5, h6, h7, h8, h9, h10, h11, h12⟩ := h
  have hi : ∀ K i j k, ¬ (K = 40 ∧ k = 2) → (jm_sI μ 40 0 0 2 x).1 K i j k = μ.1 K i j k := fun K i j k hn => by rw [rd_II, if_neg (fun z => hn ⟨z.1, z.2.2.2⟩)]
  refine ⟨by rw [rd_II, if_pos ⟨rfl, rfl, rfl, rfl⟩]; rfl, mT_k h2 (fun i j k => hi _ i j k (by omega)) (fun i j k => hi _ i j k (by omega)) (fun i j k => rfl), mP_k h3 (hi _ 0 0 _ (by omega)) (fun i j k => hi _ i j k (by omega)), by rw [hi _ _ _ _ (by omega)]; exact h4, fun k hk => ?_, by rw [hi _ _ _ _ (by omega)]; exact h6, fun k hk => by rw [hi _ _ _ _ (by omega)]; exact h7 k hk, ?_, h9, h10, by rw [hi _ _ _ _ (by omega)]; exact h11, by rw [hi _ _ _ _ (by omega)]; exact h12⟩
  · obtain ⟨ν, n1, n2, n3⟩ := h5 k hk
    exact ⟨ν, n1, fun c hc => by rw [hi _ _ _ _ (by omega)]; exact n2 c hc, n3⟩
  · show mG (aG s) _
    unfold mG at h8 ⊢
    split at h8
    · rw [hi _ _ _ _ (by omega)]; exact h8
    · rw [hi _ _ _ _ (by omega), hi _ _ _ _ (by omega), hi _ _ _ _ (by omega), hi _ _ _ _ (by omega), hi _ _ _ _ (by omega)]; exact h8
theorem mF_st {V : Vl} {μ : jm_M} (h : mF V μ) (ho : okV V) (x : Int32) : mF V (jm_sI μ 40 0 0 2 x) := mF_k h ho (fun k _ => by rw [rd_II, if_neg (by omega)]) (fun k _ => rfl)
theorem mA_fin {s : St} {μ m : jm_M} (h : mA s μ) (ho : okA s) {V : Vl} (hV : okV V) (hv : mF V m) (hf : fr QM μ m) (x : Int32) : mA (stV s V x) (jm_sI m 40 0 0 2 x) := ⟨mF_st hv hV x, mO_st (mO_fr h.2 ho hf) V x⟩
theorem mA_0 {s : St} {μ : jm_M} (h : mA s μ) (ho : okA s) (x : Int32) : mA (stV s (aV s) x) (jm_sI μ 40 0 0 2 x) := mA_fin h ho ho.1 h.1 .rf x
/-! ===== a call that both do alike ===== -/
def jcall (kX kM : Nat) (as : List jm_V) : Prop := ∀ (s : St) (μ : jm_M), okA s → xA s μ → mA s μ → ∃ v s' μa μb, okA s' ∧ jm_sem false 99 kX (vX :: as) μ = some (v, μa) ∧ jm_sem false 99 kM (vM :: as) μ = some (v, μb) ∧ xA s' μa ∧ mA s' μb
theorem okA_V {s : St} (h : okA s) {V : Vl} (hV : okV V) (x : Int32) : okA (stV s V x) := ⟨hV, h.2⟩
theorem sm_refuse (d : Nat) (x : Int32) (m : jm_M) : jm_sem false (d + 1) jn_X12_refuse [vM, .inl x] m = some (.inl jM, jm_sI m 40 0 0 2 x) := e_X12_refuse d x m
theorem sm_gives (d : Nat) (x : Int32) (m : jm_M) : jm_sem false (d + 1) jn_X12_gives [vM, .inl x] m = some (.inl x, jm_sI m 40 0 0 2 0) := e_X12_gives d x m
theorem sx_fail (d : Nat) (x : Int32) (m : jm_M) : jm_sem false (d + 1) jn_X11_fail [vX, .inl x] m = some (.inl jM, jm_sI m 0 0 0 14 x) := e_X11_fail d x m
theorem sx_give (d : Nat) (x : Int32) (m : jm_M) : jm_sem false (d + 1) jn_X11_give [vX, .inl x] m = some (.inl x, jm_sI m 0 0 0 14 0) := e_X11_give d x m
/-- both say no -/
theorem jcall_no {s : St} {μ : jm_M} (ho : okA s) (hx : xA s μ) (hm : mA s μ) {kX kM : Nat} {as : List jm_V} {v : jm_V} (x : Int32) (e1 : jm_sem false 99 kX (vX :: as) μ = some (v, jm_sI μ 0 0 0 14 x)) (e2 : jm_sem false 99 kM (vM :: as) μ = some (v, jm_sI μ 40 0 0 2 x)) : ∃ v s' μa μb, okA s' ∧ jm_sem false 99 kX (vX :: as) μ = some (v, μa) ∧ jm_sem false 99 kM (vM :: as) μ = some (v, μb) ∧ xA s' μa ∧ mA s' μb := ⟨v, stV s (aV s) x, _, _, okA_V ho ho.1 x, e1, e2, xA_0 hx ho x, mA_0 hm ho x⟩
/-- both answer, and the village becomes another one -/
theorem jcall_V {s : St} {μ : jm_M} (ho : okA s) (hx : xA s μ) (hm : mA s μ) {kX kM : Nat} {as : List jm_V} {v : jm_V} {V : Vl} (hV : okV V) {ma mb : jm_M} (x : Int32) (va : xV V 0 ma) (fa : fr QX μ ma) (vb : mF V mb) (fb : fr QM μ mb) (e1 : jm_sem false 99 kX (vX :: as) μ = some (v, jm_sI ma 0 0 0 14 x)) (e2 : jm_sem false 99 kM (vM :: as) μ = some (v, jm_sI mb 40 0 0 2 x)) : ∃ v s' μa μb, okA s' ∧ jm_sem false 99 kX (vX :: as) μ = some (v, μa) ∧ jm_sem false 99 kM (vM :: as) μ = some (v, μb) ∧ xA s' μa ∧ mA s' μb := ⟨v, stV s V x, _, _, okA_V ho hV x, e1, e2, xA_fin hx ho va fa x, mA_fin hm ho hV vb fb x⟩
