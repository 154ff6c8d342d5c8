/-! ===== the tape; status, top, bottom, fault ===== -/
abbrev Tp : Type := Nat × (Nat → Int32)
def xP (q : Tp) (μ : jm_M) : Prop := q.1 ≤ 900 ∧ μ.1 0 0 0 12 = nI q.1 ∧ ∀ k, k < q.1 → μ.1 4 0 0 k = q.2 k
def mP (q : Tp) (μ : jm_M) : Prop := q.1 ≤ 900 ∧ μ.1 40 0 0 10 = nI q.1 ∧ ∀ k, k < q.1 → μ.1 46 0 0 k = q.2 k
theorem xP_k {q : Tp} {μ μ' : jm_M} (h : xP q μ) (h1 : μ'.1 0 0 0 12 = μ.1 0 0 0 12) (h2 : ∀ i j k, μ'.1 4 i j k = μ.1 4 i j k) : xP q μ' := ⟨h.1, h1.trans h.2.1, fun k hk => (h2 0 0 k).trans (h.2.2 k hk)⟩
theorem mP_k {q : Tp} {μ μ' : jm_M} (h : mP q μ) (h1 : μ'.1 40 0 0 10 = μ.1 40 0 0 10) (h2 : ∀ i j k, μ'.1 46 i j k = μ.1 46 i j k) : mP q μ' := ⟨h.1, h1.trans h.2.1, fun k hk => (h2 0 0 k).trans (h.2.2 k hk)⟩
def tpB (x s : Int32) : Int32 := ((x >>> (s &&& 31)).toInt8.toInt32).toInt8.toInt32
def tpPush (q : Tp) (v : Int32) : Tp := (q.1 + 1, fun k => if k = q.1 then v else q.2 k)
def tpFour (q : Tp) (x : Int32) : Tp := tpPush (tpPush (tpPush (tpPush q (tpB x 24)) (tpB x 16)) (tpB x 8)) (tpB x 0)
def tpFeed (q : Tp) (a b c d e : Int32) : Tp := tpFour (tpFour (tpFour (tpFour (tpFour q a) b) c) d) e
def PX_p (K k : Nat) : Prop := (K = 0 ∧ k = 12) ∨ K = 4
def PM_p (K k : Nat) : Prop := (K = 40 ∧ k = 10) ∨ K = 46
theorem jt_900 {n : Nat} (h : n < 900) : ¬ (900 : Int32) ≤ nI n := by
  rw [show (900 : Int32) = nI 900 from rfl, nI_leI (by decide) (by omega)]; omega
theorem sx_app1 {q : Tp} {m : jm_M} (h : xP q m) (hn : q.1 < 900) (d : Nat) (x s : Int32) (hs : ¬ s < 0) : ∃ m', jm_ev false d 10 0 jc_X11_append 3 [vX, .inl x, .inl s] [] m = jm_ev false d 10 0 jc_X11_append 3 [vX, .inl x, .inl (s + (-8))] [] m' ∧ xP (tpPush q (tpB x s)) m' ∧ jk PX_p m m' := by
  refine ⟨jm_sI (jm_sI m 4 0 0 q.1 (tpB x s)) 0 0 0 12 (nI (q.1 + 1)), ?_, ⟨by show q.1 + 1 ≤ 900; omega, by rw [rd_II, if_pos ⟨rfl, rfl, rfl, rfl⟩]; rfl, fun k hk => ?_⟩, (jk_I (Or.inr rfl)).tr (jk_I (Or.inl ⟨rfl, rfl⟩))⟩
  · rw [l_X11_append_3, jt_cd, if_neg hs, h.2.1, jt_df (jt_900 hn), cond_false, jt_in hn (by decide), cond_true, jt_lt, jt_ix (by omega), rd_II, if_neg (by omega), h.2.1, nI_1]
    rfl
  · have hk : k < q.1 + 1 := hk
    rw [rd_II, if_neg (by omega), rd_II]
    show _ = if k = q.1 then tpB x s else q.2 k
    by_cases e : k = q.1
    · rw [if_pos ⟨rfl, rfl, rfl, e⟩, if_pos e]
    · rw [if_neg (fun z => e z.2.2.2), if_neg e]; exact h.2.2 k (by omega)
theorem sm_app1 {q : Tp} {m : jm_M} (h : mP q m) (hn : q.1 < 900) (d : Nat) (x s : Int32) (hs : ¬ s < 0) : ∃ m', jm_ev false d 11 0 jc_X12_four 3 [vM, .inl x, .inl s] [] m = jm_ev false d 11 0 jc_X12_four 3 [vM, .inl x, .inl (s + (-8))] [] m' ∧ mP (tpPush q (tpB x s)) m' ∧ jk PM_p m m' := by
  refine ⟨jm_sI (jm_sI m 46 0 0 q.1 (tpB x s)) 40 0 0 10 (nI (q.1 + 1)), ?_, ⟨by show q.1 + 1 ≤ 900; omega, by rw [rd_II, if_pos ⟨rfl, rfl, rfl, rfl⟩]; rfl, fun k hk => ?_⟩, (jk_I (Or.inr rfl)).tr (jk_I (Or.inl ⟨rfl, rfl⟩))⟩
  · rw [l_X12_four_3, jt_cd, if_neg hs, h.2.1, jt_in hn (by decide), cond_true, jt_lt, jt_ix (by omega), rd_II, if_neg (by omega), h.2.1, nI_1]
    rfl
  · have hk : k < q.1 + 1 := hk
    rw [rd_II, if_neg (by omega), rd_II]
    show _ = if k = q.1 then tpB x s else q.2 k
    by_cases e : k = q.1
    · rw [if_pos ⟨rfl, rfl, rfl, e⟩, if_pos e]
    · rw [if_neg (fun z => e z.2.2.2), if_neg e]; exact h.2.2 k (by omega)
theorem sx_append {q : Tp} {m : jm_M} (h : xP q m) (hn : q.1 + 4 ≤ 900) (d : Nat) (x : Int32) : ∃ m', jm_sem false (d + 1) jn_X11_append [vX, .inl x] m = some (jm_j, m') ∧ xP (tpFour q x) m' ∧ jk PX_p m m' := by
  obtain ⟨m1, a1, b1, c1⟩ := sx_app1 h (by omega) d x 24 (by decide)
  obtain ⟨m2, a2, b2, c2⟩ := sx_app1 b1 (by show q.1 + 1 < 900; omega) d x 16 (by decide)
  obtain ⟨m3, a3, b3, c3⟩ := sx_app1 b2 (by show q.1 + 1 + 1 < 900; omega) d x 8 (by decide)
  obtain ⟨m4, a4, b4, c4⟩ := sx_app1 b3 (by show q.1 + 1 + 1 + 1 < 900; omega) d x 0 (by decide)
  refine ⟨m4, ?_, b4, ((c1.tr c2).tr c3).tr c4⟩
  rw [e_X11_append, a1, show (24 : Int32) + (-8) = 16 by decide, a2, show (16 : Int32) + (-8) = 8 by decide, a3, show (8 : Int32) + (-8) = 0 by decide, a4, l_X11_append_3, jt_cd, if_pos (by decide)]
theorem sm_four {q : Tp} {m : jm_M} (h : mP q m) (hn : q.1 + 4 ≤ 900) (d : Nat) (x : Int32) : ∃ m', jm_sem false (d + 1) jn_X12_four [vM, .inl x] m = some (jm_j, m') ∧ mP (tpFour q x) m' ∧ jk PM_p m m' := by
  obtain ⟨m1, a1, b1, c1⟩ := sm_app1 h (by omega) d x 24 (by decide)
  obtain ⟨m2, a2, b2, c2⟩ := sm_app1 b1 (by show q.1 + 1 < 900; omega) d x 16 (by decide)
  obtain ⟨m3, a3, b3, c3⟩ := sm_app1 b2 (by show q.1 + 1 + 1 < 900; omega) d x 8 (by decide)
  obtain ⟨m4, a4, b4, c4⟩ := sm_app1 b3 (by show q.1 + 1 + 1 + 1 < 900; omega) d x 0 (by decide)
  refine ⟨m4, ?_, b4, ((c1.tr c2).tr c3).tr c4⟩
  rw [e_X12_four, a1, show (24 : Int32) + (-8) = 16 by decide, a2, show (16 : Int32) + (-8) = 8 by decide, a3, show (8 : Int32) + (-8) = 0 by decide, a4, l_X12_four_3, jt_cd, if_pos (by decide)]
theorem tpFour_1 (q : Tp) (x : Int32) : (tpFour q x).1 = q.1 + 4 := rfl
theorem jt_20 {n : Nat} (h : n ≤ 900) : (nI n + 20 ≤ 900) ↔ n + 20 ≤ 900 := by
  rw [show (20 : Int32) = nI 20 from rfl, show (900 : Int32) = nI 900 from rfl, nI_add, nI_leI (by omega) (by decide)]
/-- feed: the new tape, and the answer -/
def fdTp (q : Tp) (a b c d e : Int32) : Tp := if q.1 + 20 ≤ 900 then tpFeed q a b c d e else q
def fdR (q : Tp) : Int32 := if q.1 + 20 ≤ 900 then nI (q.1 + 20) else -1
theorem sx_feed {q : Tp} {m : jm_M} (h : xP q m) (d : Nat) (x1 x2 x3 x4 x5 : Int32) : ∃ m', jm_sem false (d + 2) jn_X11_feed [vX, .inl x1, .inl x2, .inl x3, .inl x4, .inl x5] m = some (.inl (fdR q), m') ∧ xP (fdTp q x1 x2 x3 x4 x5) m' ∧ jk PX_p m m' := by
  unfold fdTp fdR
  by_cases hc : q.1 + 20 ≤ 900
  · rw [if_pos hc, if_pos hc]
    obtain ⟨m1, a1, b1, c1⟩ := sx_append h (by omega) d x1
    obtain ⟨m2, a2, b2, c2⟩ := sx_append b1 (by rw [tpFour_1]; omega) d x2
    obtain ⟨m3, a3, b3, c3⟩ := sx_append b2 (by rw [tpFour_1, tpFour_1]; omega) d x3
    obtain ⟨m4, a4, b4, c4⟩ := sx_append b3 (by rw [tpFour_1, tpFour_1, tpFour_1]; omega) d x4
    obtain ⟨m5, a5, b5, c5⟩ := sx_append b4 (by rw [tpFour_1, tpFour_1, tpFour_1, tpFour_1]; omega) d x5
    refine ⟨m5, ?_, b5, (((c1.tr c2).tr c3).tr c4).tr c5⟩
    rw [e_X11_feed, h.2.1, jt_dt ((jt_20 h.1).mpr hc), cond_true, a1, jt_bv, a2, jt_bv, a3, jt_bv, a4, jt_bv, a5, jt_bv, b5.2.1]
    rfl
  · rw [if_neg hc, if_neg hc]
    refine ⟨m, ?_, h, .rf⟩
    rw [e_X11_feed, h.2.1, jt_df (fun z => hc ((jt_20 h.1).mp z))]
    rfl
theorem sm_feed {q : Tp} {m : jm_M} (h : mP q m) (d : Nat) (x1 x2 x3 x4 x5 : Int32) : ∃ m', jm_sem false (d + 2) jn_X12_feed [vM, .inl x1, .inl x2, .inl x3, .inl x4, .inl x5] m = some (.inl (fdR q), m') ∧ mP (fdTp q x1 x2 x3 x4 x5) m' ∧ jk PM_p m m' := by
  unfold fdTp fdR
  by_cases hc : q.1 + 20 ≤ 900
  · rw [if_pos hc, if_pos hc]
    obtain ⟨m1, a1, b1, c1⟩ := sm_four h (by omega) d x1
    obtain ⟨m2, a2, b2, c2⟩ := sm_four b1 (by rw [tpFour_1]; omega) d x2
    obtain ⟨m3, a3, b3, c3⟩ := sm_four b2 (by rw [tpFour_1, tpFour_1]; omega) d x3
    obtain ⟨m4, a4, b4, c4⟩ := sm_four b3 (by rw [tpFour_1, tpFour_1, tpFour_1]; omega) d x4
    obtain ⟨m5, a5, b5, c5⟩ := sm_four b4 (by rw [tpFour_1, tpFour_1, tpFour_1, tpFour_1]; omega) d x5
    refine ⟨m5, ?_, b5, (((c1.tr c2).tr c3).tr c4).tr c5⟩
    rw [e_X12_feed, h.2.1, jt_dt ((jt_20 h.1).mpr hc), cond_true, a1, jt_bv, a2, jt_bv, a3, jt_bv, a4, jt_bv, a5, jt_bv, b5.2.1]
    rfl
  · rw [if_neg hc, if_neg hc]
    refine ⟨m, ?_, h, .rf⟩
    rw [e_X12_feed, h.2.1, jt_df (fun z => hc ((jt_20 h.1).mp z))]
    rfl
