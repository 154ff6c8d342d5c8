/-! ===== status, top, bottom, fault, tray, write, read, feed ===== -/
theorem c_status : jcall jn_X11_status jn_X12_status [] := by
  intro s μ ho hx hm
  refine ⟨.inl (aS s), s, μ, μ, ho, ?_, ?_, hx, hm⟩
  · rw [e_X11_status, hx.2.1]
  · rw [e_X12_status, hm.2.1]
theorem c_top : jcall jn_X11_top jn_X12_top [] := by
  intro s μ ho hx hm
  refine ⟨.inr (.inl (aF s).1), s, μ, μ, ho, ?_, ?_, hx, hm⟩
  · rw [e_X11_top, hx.2.2.2.2.2.2.2.2.2.1]
  · rw [e_X12_top, hm.2.2.2.2.2.2.2.2.2.1]
theorem c_bottom : jcall jn_X11_bottom jn_X12_bottom [] := by
  intro s μ ho hx hm
  refine ⟨.inr (.inl (aF s).2), s, μ, μ, ho, ?_, ?_, hx, hm⟩
  · rw [e_X11_bottom, hx.2.2.2.2.2.2.2.2.2.2.1]
  · rw [e_X12_bottom, hm.2.2.2.2.2.2.2.2.2.2.1]
theorem c_fault (x : Int32) : jcall jn_X11_fault jn_X12_fault [.inl x] := by
  intro s μ ho hx hm
  have a1 := hx.2.2.2.2.2.2.2.2.2.2.2.1
  have a2 := hx.2.2.2.2.2.2.2.2.2.2.2.2
  have b1 := hm.2.2.2.2.2.2.2.2.2.2.2.1
  have b2 := hm.2.2.2.2.2.2.2.2.2.2.2.2
  refine ⟨.inl (if x ≠ 0 then (if x ≠ 1 then -1 else (aX s).2) else (aX s).1), s, μ, μ, ho, ?_, ?_, hx, hm⟩
  · rw [e_X11_fault, a1, a2, jt_c, jt_cd, jt_cd]
    by_cases c : x = 0
    · rw [if_neg (fun z => z c), if_neg (fun z => z c)]
    · rw [if_pos c, if_pos c]
      by_cases e : x = 1
      · rw [if_neg (fun z => z e), if_neg (fun z => z e)]
      · rw [if_pos e, if_pos e]
  · rw [e_X12_fault, b1, b2, jt_c, jt_cd, jt_cd]
    by_cases c : x = 0
    · rw [if_neg (fun z => z c), if_neg (fun z => z c)]
    · rw [if_pos c, if_pos c]
      by_cases e : x = 1
      · rw [if_neg (fun z => z e), if_neg (fun z => z e)]
      · rw [if_pos e, if_pos e]
def stTP (s : St) (T : Tr) (q : Tp) (x : Int32) : St := (aV s, x, T, q, aM s, aB s, aG s, aF s, aX s)
theorem xA_TP {s : St} {μ μ' : jm_M} (h : xA s μ) (ho : okA s) {T : Tr} {q : Tp} {x : Int32} (hT : xT T μ') (hP : xP q μ') (hx : μ'.1 0 0 0 14 = x) (hf : ∀ K i j k, K ≠ 2 → K ≠ 3 → K ≠ 4 → ¬ (K = 0 ∧ (k = 14 ∨ k = 12)) → μ'.1 K i j k = μ.1 K i j k ∧ μ'.2 K i j k = μ.2 K i j k) : xA (stTP s T q x) μ' := by
  obtain ⟨hv, h1, h2, h3, h4, h5, h6, h7, h8, h9, h10, h11, h12⟩ := h
  have vk : ∀ (V : Vl) (i : Nat), xV V i μ → xV V i μ' := fun V i h => ⟨xH_k h.1 (fun K k hK => hf K i 0 k (by omega) (by omega) (by omega) (by omega)), fun j hj => xW_k (h.2 j hj) (fun k => (hf 12 i j k (by omega) (by omega) (by omega) (by omega)).1) (fun k => (hf 12 i j k (by omega) (by omega) (by omega) (by omega)).2)⟩
  have k0 := fun k (hk : k ≠ 14 ∧ k ≠ 12) => hf 0 0 0 k (by omega) (by omega) (by omega) (by omega)
  refine ⟨vk _ _ hv, hx, hT, hP, by rw [(k0 13 (by omega)).1]; exact h4, fun k hk => vk _ _ (h5 k hk), by rw [(hf 22 0 0 1 (by omega) (by omega) (by omega) (by omega)).1]; exact h6, fun k hk => by rw [(hf 23 0 0 k (by omega) (by omega) (by omega) (by omega)).1]; exact h7 k hk, ?_, by rw [(k0 18 (by omega)).2]; exact h9, by rw [(k0 19 (by omega)).2]; exact h10, by rw [(k0 15 (by omega)).1]; exact h11, by rw [(k0 16 (by omega)).1]; exact h12⟩
  have k37 := fun k => (hf 37 0 0 k (by omega) (by omega) (by omega) (by omega)).1
  show xG (aG s) μ'
  unfold xG at h8 ⊢
  split at h8
  · rw [(k0 17 (by omega)).1]; exact h8
  · rw [(k0 17 (by omega)).1, k37, k37, k37, k37]; exact h8
theorem mA_TP {s : St} {μ μ' : jm_M} (h : mA s μ) (ho : okA s) {T : Tr} {q : Tp} {x : Int32} (hT : mT T μ') (hP : mP q μ') (hx : μ'.1 40 0 0 2 = x) (hf : ∀ K i j k, K ≠ 43 → K ≠ 44 → K ≠ 45 → K ≠ 46 → ¬ (K = 40 ∧ (k = 2 ∨ k = 10)) → μ'.1 K i j k = μ.1 K i j k ∧ μ'.2 K i j k = μ.2 K i j k) : mA (stTP s T q x) μ' := by
  obtain ⟨hv, h1, h2, h3, h4, h5, h6, h7, h8, h9, h10, h11, h12⟩ := h
  have k0 := fun k (hk : k ≠ 2 ∧ k ≠ 10) => hf 40 0 0 k (by omega) (by omega) (by omega) (by omega) (by omega)
  have k41 := fun k => (hf 41 0 0 k (by omega) (by omega) (by omega) (by omega) (by omega)).1
  have k42 := fun k => (hf 42 0 0 k (by omega) (by omega) (by omega) (by omega) (by omega)).2
  have k59 := fun k => (hf 59 0 0 k (by omega) (by omega) (by omega) (by omega) (by omega)).1
  refine ⟨mF_k hv ho.1 (fun k _ => k41 k) (fun k _ => k42 k), hx, hT, hP, by rw [(k0 47 (by omega)).1]; exact h4, fun k hk => ?_, by rw [(k0 37 (by omega)).1]; exact h6, fun k hk => by rw [(hf 55 0 0 k (by omega) (by omega) (by omega) (by omega) (by omega)).1]; exact h7 k hk, ?_, by rw [(k0 3 (by omega)).2]; exact h9, by rw [(k0 4 (by omega)).2]; exact h10, by rw [(k0 16 (by omega)).1]; exact h11, by rw [(k0 17 (by omega)).1]; exact h12⟩
  · obtain ⟨ν, n1, n2, n3⟩ := h5 k hk
    exact ⟨ν, n1, fun c hc => by rw [k41]; exact n2 c hc, fun c hc => by rw [k42]; exact n3 c hc⟩
  · show mG (aG s) μ'
    unfold mG at h8 ⊢
    split at h8
    · rw [(k0 46 (by omega)).1]; exact h8
    · rw [(k0 46 (by omega)).1, k59, k59, k59, k59]; exact h8
theorem okA_TP {s : St} (h : okA s) (T : Tr) (q : Tp) (x : Int32) : okA (stTP s T q x) := h
theorem xA_tr {s : St} {μ μ' : jm_M} (h : xA s μ) (ho : okA s) {T : Tr} {x : Int32} (hT : xT T μ') (hx : μ'.1 0 0 0 14 = x) (hf : jk PX_t μ μ') : xA (stTP s T (aP s) x) μ' := xA_TP h ho hT (xP_k h.2.2.2.1 (hf 0 12 (by unfold PX_t; omega) 0 0).1 (fun i j k => (hf 4 k (by unfold PX_t; omega) i j).1)) hx (fun K i j k h1 h2 h3 h4 => hf K k (fun z => by unfold PX_t at z; omega) i j)
theorem mA_tr {s : St} {μ μ' : jm_M} (h : mA s μ) (ho : okA s) {T : Tr} {x : Int32} (hT : mT T μ') (hx : μ'.1 40 0 0 2 = x) (hf : jk PM_t μ μ') : mA (stTP s T (aP s) x) μ' := mA_TP h ho hT (mP_k h.2.2.2.1 (hf 40 10 (by unfold PM_t; omega) 0 0).1 (fun i j k => (hf 46 k (by unfold PM_t; omega) i j).1)) hx (fun K i j k h1 h2 h3 h4 h5 => hf K k (fun z => by unfold PM_t at z; omega) i j)
theorem c_tray (x y z : Int32) : jcall jn_X11_tray jn_X12_tray [.inl x, .inl y, .inl z] := by
  intro s μ ho hx hm
  have hX := sx_tray hx.2.2.1 96 x y z
  have hM := sm_tray hm.2.2.1 96 x y z
  by_cases c : trOk x y z
  · obtain ⟨m1, a1, a2, a3, a4⟩ := hX.1 c
    obtain ⟨n1, b1, b2, b3, b4⟩ := hM.1 c
    exact ⟨.inl 1, stTP s _ (aP s) 0, m1, n1, okA_TP ho _ _ _, a1, b1, xA_tr hx ho a2 a3 a4, mA_tr hm ho b2 b3 b4⟩
  · exact jcall_no ho hx hm 1 (hX.2 c) (hM.2 c)
theorem c_write (x y : Int32) (z : Int64) : jcall jn_X11_write jn_X12_write [.inl x, .inl y, .inr (.inl z)] := by
  intro s μ ho hx hm
  obtain ⟨m1, a1, a2, a3, a4⟩ := sx_write hx.2.2.1 96 x y z
  obtain ⟨n1, b1, b2, b3, b4⟩ := sm_write hm.2.2.1 96 x y z
  exact ⟨_, stTP s _ (aP s) _, m1, n1, okA_TP ho _ _ _, a1, b1, xA_tr hx ho a2 a3 a4, mA_tr hm ho b2 b3 b4⟩
theorem c_read (x y : Int32) : jcall jn_X11_read jn_X12_read [.inl x, .inl y] := by
  intro s μ ho hx hm
  exact jcall_no ho hx hm _ (sx_read hx.2.2.1 96 x y) (sm_read hm.2.2.1 96 x y)
theorem c_feed (a b c e f : Int32) : jcall jn_X11_feed jn_X12_feed [.inl a, .inl b, .inl c, .inl e, .inl f] := by
  intro s μ ho hx hm
  obtain ⟨m1, a1, a2, a3⟩ := sx_feed hx.2.2.2.1 97 a b c e f
  obtain ⟨n1, b1, b2, b3⟩ := sm_feed hm.2.2.2.1 97 a b c e f
  refine ⟨_, stTP s (aT s) (fdTp (aP s) a b c e f) (aS s), m1, n1, okA_TP ho _ _ _, a1, b1, ?_, ?_⟩
  · exact xA_TP hx ho (xT_k hx.2.2.1 (fun i j k => (a3 2 k (by unfold PX_p; omega) i j).1) (fun i j k => (a3 3 k (by unfold PX_p; omega) i j).2)) a2 (((a3 0 14 (by unfold PX_p; omega) 0 0).1).trans hx.2.1) (fun K i j k h1 h2 h3 h4 => a3 K k (fun z => by unfold PX_p at z; omega) i j)
  · exact mA_TP hm ho (mT_k hm.2.2.1 (fun i j k => (b3 43 k (by unfold PM_p; omega) i j).1) (fun i j k => (b3 44 k (by unfold PM_p; omega) i j).1) (fun i j k => (b3 45 k (by unfold PM_p; omega) i j).2)) b2 (((b3 40 2 (by unfold PM_p; omega) 0 0).1).trans hm.2.1) (fun K i j k h1 h2 h3 h4 h5 => b3 K k (fun z => by unfold PM_p at z; omega) i j)
theorem nn_cases (x : Int32) : x < 0 ∨ ∃ k : Nat, k < 2 ^ 31 ∧ x = nI k := by
  by_cases h : x < 0
  · exact Or.inl h
  · refine Or.inr ⟨x.toInt.toNat, ?_, ?_⟩
    · have := Int32.toInt_lt x
      omega
    · apply Int32.toInt_inj.mp
      have h0 : ¬ x.toInt < 0 := fun z => h (by rw [Int32.lt_iff_toInt_lt]; exact z)
      have := Int32.toInt_lt x
      rw [nI_toInt (by omega)]
      omega
theorem sx_refuse1 (d : Nat) (x : Int32) (m : jm_M) : jm_sem false (d + 1) jn_X11_refuse [vX, .inl x] m = some (.inl 0, jm_sI m 0 0 0 14 x) := e_X11_refuse d x m
theorem c_pour (x p y a n : Int32) : jcall jn_X11_pour jn_X12_pour [.inl x, .inl p, .inl y, .inl a, .inl n] := by
  intro s μ ho hx hm
  have r1 : ∀ m, jm_sem false 98 jn_X11_refuse [vX, .inl 1] m = some (.inl 0, jm_sI m 0 0 0 14 1) := fun m => sx_refuse1 97 1 m
  have i1 : ∀ m, jm_sem false 98 jn_X12_is [vM, .inl 1] m = some (.inl 0, jm_sI m 40 0 0 2 1) := fun m => sm_is1 97 (by decide) m
  have t1 := fun q m => s_X11_isTray 97 q m
  have t2 := fun q m => s_X12_isTray 97 q m
  have k0 : ((0 : Int32) = 0) = True := eq_true rfl
  have k1 : ((1 : Int32) = 0) = False := eq_false (by decide)
  have k2 : ((0 : Int32) &&& 1 = 0) = True := eq_true rfl
  rcases in_cases x (show 4 < 2 ^ 31 by decide) with h | ⟨t, ht, rfl⟩
  · have h : x < 0 ∨ 4 ≤ x := h
    refine jcall_no ho hx hm 1 (v := .inl 0) ?_ ?_
    · rw [e_X11_pour, t1, if_pos h]; simp only [jt_bi, r1, k0, k2, decide_true, cond_true]
    · rw [e_X12_pour, t2, if_pos h]; simp only [jt_bi, i1, k0, k2, decide_true, cond_true]
  rcases in_cases y (show 4 < 2 ^ 31 by decide) with h2 | ⟨u, hu, rfl⟩
  · have h2 : y < 0 ∨ 4 ≤ y := h2
    have hn : ¬ (nI t < 0 ∨ 4 ≤ nI t) := fun z => z.elim (nI_nlt (Nat.zero_le t) (by omega)) (fun z => absurd ((nI_leI (a := 4) (b := t) (by omega) (by omega)).mp z) (by omega))
    refine jcall_no ho hx hm 1 (v := .inl 0) ?_ ?_
    · rw [e_X11_pour, t1, if_neg hn, jt_bi, t1, if_pos h2]; simp only [jt_bi, r1, k0, k1, k2, decide_true, cond_true, decide_false, cond_false]
    · rw [e_X12_pour, t2, if_neg hn, jt_bi, t2, if_pos h2]; simp only [jt_bi, i1, k0, k1, k2, decide_true, cond_true, decide_false, cond_false]
  have hn : ¬ (nI t < 0 ∨ 4 ≤ nI t) := fun z => z.elim (nI_nlt (Nat.zero_le t) (by omega)) (fun z => absurd ((nI_leI (a := 4) (b := t) (by omega) (by omega)).mp z) (by omega))
  have hn2 : ¬ (nI u < 0 ∨ 4 ≤ nI u) := fun z => z.elim (nI_nlt (Nat.zero_le u) (by omega)) (fun z => absurd ((nI_leI (a := 4) (b := u) (by omega) (by omega)).mp z) (by omega))
  by_cases hb : p < 0 ∨ a < 0 ∨ n < 0
  · refine jcall_no ho hx hm 1 (v := .inl 0) ?_ ?_
    · rw [e_X11_pour, t1, if_neg hn, jt_bi, t1, if_neg hn2, jt_bi]
      by_cases c1 : p < 0
      · simp only [jt_bi, r1, k0, k1, k2, decide_true, cond_true, decide_false, cond_false, c1]
      · by_cases c2 : a < 0
        · simp only [jt_bi, r1, k0, k1, k2, decide_true, cond_true, decide_false, cond_false, c1, c2]
        · have c3 : (0 ≤ n) = False := eq_false (Int32.not_le.mpr ((hb.resolve_left c1).resolve_left c2))
          simp only [jt_bi, r1, k0, k1, k2, decide_true, cond_true, decide_false, cond_false, c1, c2, c3]
    · rw [e_X12_pour, t2, if_neg hn, jt_bi, t2, if_neg hn2, jt_bi]
      by_cases c1 : p < 0
      · simp only [jt_bi, i1, k0, k1, k2, decide_true, cond_true, decide_false, cond_false, c1]
      · by_cases c2 : a < 0
        · simp only [jt_bi, i1, k0, k1, k2, decide_true, cond_true, decide_false, cond_false, c1, c2]
        · have c3 : (0 ≤ n) = False := eq_false (Int32.not_le.mpr ((hb.resolve_left c1).resolve_left c2))
          simp only [jt_bi, i1, k0, k1, k2, decide_true, cond_true, decide_false, cond_false, c1, c2, c3]
  · obtain ⟨p', hp, rfl⟩ := (nn_cases p).resolve_left (fun z => hb (Or.inl z))
    obtain ⟨a', ha, rfl⟩ := (nn_cases a).resolve_left (fun z => hb (Or.inr (Or.inl z)))
    obtain ⟨n', hn', rfl⟩ := (nn_cases n).resolve_left (fun z => hb (Or.inr (Or.inr z)))
    obtain ⟨m1, a1, a2, a3, a4⟩ := sx_pour hx.2.2.1 96 ht hu hp ha hn'
    obtain ⟨n1, b1, b2, b3, b4⟩ := sm_pour hm.2.2.1 96 ht hu hp ha hn'
    exact ⟨_, stTP s _ (aP s) _, m1, n1, okA_TP ho _ _ _, a1, b1, xA_tr hx ho a2 a3 a4, mA_tr hm ho b2 b3 b4⟩
