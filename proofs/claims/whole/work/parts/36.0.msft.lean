/-! ===== a VILLAGE read (reference): soft letters, a part, all ===== -/
def cnL (l : List Nat) : Nat := (List.range 26).countP (fun i => l.any (fun x => x == i + 1))
theorem cnL_snoc {l : List Nat} {c : Nat} (h : l.any (fun x => x == c) = false) (h1 : 1 ≤ c) (h2 : c ≤ 26) : cnL (l ++ [c]) = cnL l + 1 := by
  unfold cnL
  refine cP_set (j := c - 1) ?_ ?_ (fun i hi => ?_) 26 (by omega)
  · rw [show c - 1 + 1 = c by omega]; exact h
  · rw [show c - 1 + 1 = c by omega, List.any_append]
    simp
  · rw [List.any_append]
    have : ([c] : List Nat).any (fun x => x == i + 1) = false := by
      simp
      omega
    rw [this, Bool.or_false]
theorem cnL_dsc : ∀ (rest pre : List Nat), dsc pre rest = false → (∀ c ∈ rest, 1 ≤ c ∧ c ≤ 26) → cnL (pre ++ rest) = cnL pre + rest.length
  | [], pre, _, _ => by rw [List.append_nil]; rfl
  | c :: t, pre, h, hc => by
    have h : (pre.any (fun x => x == c) || dsc (pre ++ [c]) t) = false := h
    rw [Bool.or_eq_false_iff] at h
    have cc := hc c List.mem_cons_self
    have := cnL_dsc t (pre ++ [c]) h.2 (fun x hx => hc x (List.mem_cons_of_mem _ hx))
    rw [List.append_assoc, List.singleton_append] at this
    rw [this, cnL_snoc h.1 cc.1 cc.2, List.length_cons]
    omega
theorem dsc_len {l : List Nat} (h : dsc [] l = false) (hc : ∀ c ∈ l, 1 ≤ c ∧ c ≤ 26) : l.length ≤ 26 := by
  have h1 := cnL_dsc l [] h hc
  have h2 : cnL ([] ++ l) ≤ 26 := by
    unfold cnL
    have := List.countP_le_length (p := fun i => ([] ++ l).any (fun x => x == i + 1)) (l := List.range 26)
    rw [List.length_range] at this
    exact this
  have h3 : cnL [] = 0 := by decide
  omega
theorem ixN_lt {x : Nat} : ∀ (l : List Nat) (i j : Nat), ixN x l i = some j → i ≤ j ∧ j < i + l.length
  | [], i, j, h => by cases h
  | y :: t, i, j, h => by
    unfold ixN at h
    split at h
    · have := Option.some.inj h; rw [List.length_cons]; omega
    · have := ixN_lt t (i + 1) j h; rw [List.length_cons]; omega
theorem ixN_any {x : Nat} : ∀ (l : List Nat) (i : Nat), l.any (fun y => y == x) = true → ixN x l i ≠ none
  | [], i, h => by cases h
  | y :: t, i, h => by
    unfold ixN
    by_cases e : y = x
    · rw [if_pos e]; exact fun z => by cases z
    · rw [if_neg e]
      rw [List.any_cons] at h
      have : (y == x) = false := by simpa using e
      rw [this, Bool.false_or] at h
      exact ixN_any t (i + 1) h
theorem dsc_pre : ∀ (l : List Nat) (p : List Nat) (c : Nat), dsc p (l ++ [c]) = (dsc p l || (p ++ l).any (fun x => x == c))
  | [], p, c => by
    show (p.any (fun x => x == c) || false) = (false || (p ++ []).any _)
    rw [List.append_nil, Bool.or_false, Bool.false_or]
  | y :: t, p, c => by
    show (p.any (fun x => x == y) || dsc (p ++ [y]) (t ++ [c])) = ((p.any (fun x => x == y) || dsc (p ++ [y]) t) || (p ++ y :: t).any (fun x => x == c))
    rw [dsc_pre t (p ++ [y]) c, Bool.or_assoc, List.append_assoc, List.singleton_append]
theorem sm_rsoft {T : Tb} {s : Pv} (ho : okPv s) {b : Nat} (k1 : tkK T b = 1) (d : Nat) : ∀ (rest pre : List Nat) (z2 : jm_V) (m : jm_M), pre ++ rest = tkL T b → dsc [] pre = false → mFn T b m → mPv (pvS s (some pre)) m → ∃ m', jm_ev false (d + 2) 11 2 jc_X12_areSoft 42 [vM, .inl (nI (b + pre.length)), z2] [] m = some (.inl (if dsc pre rest then nI 0 else nI 1), m') ∧ (if dsc pre rest then mEr (5, b) m' else mFn T (tkX T b) m' ∧ mPv (pvS s (some (tkL T b))) m') ∧ fr PMt m m'
  | [], pre, z2, m, hl, hd, h, hp => by
    rw [List.append_nil] at hl
    have h14 := h.2.2.1.2.2.1
    have ln := tkL_len T b
    have te := tkE_le h.1
    have tg := tkE_ge T b
    have h9 := h.2.1.1.1
    have hs : okPv (pvS s none) := ⟨ho.1, ho.2.1, ho.2.2.1, ho.2.2.2.1, ho.2.2.2.2.1, ho.2.2.2.2.2.1, ho.2.2.2.2.2.2.1, fun l h => by cases h⟩
    obtain ⟨m', e1, e2, e3⟩ := sm_aheadF h d
    refine ⟨m', ?_, ?_, P40_t e3⟩
    · rw [if_neg (show ¬ dsc pre [] = true from fun z => by cases z), hl, ln, l_X12_areSoft_42, h14, jt_dt (nI_le (show tkE T b ≤ b + (tkE T b - b) by omega) (by omega)), cond_true, e1, jt_bv]
      rfl
    · rw [if_neg (show ¬ dsc pre [] = true from fun z => by cases z), ← hl]
      exact ⟨e2, mPv_k (s := pvS s (some pre)) ho.2.2.1 ho.1 ho.2.1 hp (fun k _ _ => (e3 41 0 0 k (by unfold P40; omega)).1) (fun k _ _ => (e3 42 0 0 k (by unfold P40; omega)).2) (e3 40 0 0 19 (by unfold P40; omega)).1⟩
  | c :: rest, pre, z2, m, hl, hd, h, hp => by
    have h13 := h.2.2.1.2.1
    have h14 := h.2.2.1.2.2.1
    have ln := tkL_len T b
    have te := tkE_le h.1
    have tg := tkE_ge T b
    have h9 := h.2.1.1.1
    obtain ⟨o1, o2, o3⟩ := tkL_ok k1
    have hlen : pre.length + (rest.length + 1) = tkE T b - b := by rw [← ln, ← hl, List.length_append, List.length_cons]
    have hc : (tkL T b).getD pre.length 0 = c := by
      rw [← hl]
      simp only [List.getD]
      rw [List.getElem?_append_right (Nat.le_refl _), Nat.sub_self]
      rfl
    have mc : c ∈ tkL T b := by rw [← hl]; exact List.mem_append.mpr (Or.inr List.mem_cons_self)
    have c26 := o2 c mc
    have c1 := (o1 c mc).1
    have pre26 : pre.length ≤ 26 := dsc_len hd (fun x hx => by
      have mx : x ∈ tkL T b := by rw [← hl]; exact List.mem_append.mpr (Or.inl hx)
      exact ⟨(o1 x mx).1, o2 x mx⟩)
    have ts := tkL_sm k1 (show pre.length < tkE T b - b by omega)
    have tl := tkL_get (T := T) (a := b) (show pre.length < tkE T b - b by omega)
    have byt := sm_byT h.2.1 (show b + pre.length < T.1 by omega) (d + 1)
    have tc : T.2 (b + pre.length) = c + 96 := by omega
    rw [tc] at byt
    have ix : (3570 : Int32) + nI (c + 96) - 97 + 1 = nI (3570 + c) := by
      show nI 3570 + nI (c + 96) - nI 97 + nI 1 = _
      rw [nI_add, jg_sub (by omega), nI_add]
      exact congrArg nI (by omega)
    have cell := hp.2.2.2.2.2.2.1 c c1 c26
    have cell : m.1 41 0 0 (3570 + c) = nI (rkM (sfL pre) c) := cell
    have st := l_X12_areSoft_42 (d + 2) (nI (b + pre.length)) z2 m
    rw [h14, jt_df (nI_ge (show b + pre.length < tkE T b by omega) (by omega)), cond_false, byt, jt_bi, ix, i41 (by omega), cond_true, jt_ix (by omega), cell] at st
    have un : dsc pre (c :: rest) = (pre.any (fun x => x == c) || dsc (pre ++ [c]) rest) := rfl
    cases hb : pre.any (fun x => x == c) with
    | true =>
      rw [un, hb, Bool.true_or]
      obtain ⟨m', e1, e2, e3⟩ := sm_fails h (k := 5) (by decide) (by decide) (d + 1)
      rw [fltK_w (tk1_4 k1)] at e2
      have e1 : jm_sem false (d + 2) jn_X12_fails [vM, .inl 5] m = some (.inl (nI 0), m') := e1
      refine ⟨m', ?_, by rw [if_pos rfl]; exact e2, P40x_t e3⟩
      have rk : rkM (sfL pre) c < 100 := by
        unfold rkM sfL
        cases hx : ixN c pre 0 with
        | none => exact absurd hx (ixN_any pre 0 hb)
        | some j => have := (ixN_lt pre 0 j hx).2; dsimp only; omega
      rw [jt_df (show ¬ (100 : Int32) ≤ nI (rkM (sfL pre) c) from nI_ge (b := 100) rk (by omega)), cond_false, e1, jt_bi, and0, cond_true] at st
      rw [if_pos rfl]
      exact st
    | false =>
      rw [un, hb, Bool.false_or]
      have rk : rkM (sfL pre) c = 100 + c := by
        unfold rkM sfL
        rw [ixN_none pre 0 hb]
      have pl : (pre ++ [c]).length = pre.length + 1 := by rw [List.length_append, List.length_singleton]
      have f1 : fr (fun K _ _ k => K = 41 ∧ k = 3570 + c) m (jm_sI m 41 0 0 (3570 + c) (nI pre.length)) := fr_I ⟨rfl, rfl⟩
      obtain ⟨m', e1, e2, e3⟩ := sm_rsoft ho k1 d rest (pre ++ [c]) (.inl (nI (3570 + c))) (jm_sI m 41 0 0 (3570 + c) (nI pre.length)) (by rw [List.append_assoc]; exact hl) (by rw [dsc_pre pre [] c, hd, Bool.false_or, List.nil_append]; exact hb) (mFn_fr h f1 (fun k _ _ z => by omega) (fun k z => by omega)) (by
        obtain ⟨h1, h2, h3, h4, h5, h6, h7, h8, h9, h10⟩ := hp
        have ne : ∀ k, k ≠ 3570 + c → (jm_sI m 41 0 0 (3570 + c) (nI pre.length)).1 41 0 0 k = m.1 41 0 0 k := fun k z => by rw [rd_II, if_neg (by omega)]
        have lw := ho.2.2.1
        refine ⟨by rw [ne _ (by omega)]; exact h1, by rw [ne _ (by omega)]; exact h2, by rw [ne _ (by omega)]; exact h3, by rw [ne _ (by omega)]; exact h4, by rw [ne _ (by omega)]; exact h5, fun j hj => ?_, fun x x1 x2 => ?_, h8, h9, by rw [rd_II, if_neg (by omega)]; exact h10⟩
        · have hj' : j < (pW s).length := hj
          exact mW_cp (h6 j hj) (ws_X (s := pvS s (some pre)) hj) (fun k hk => ne _ (by omega))
        · show _ = nI (rkM (sfL (pre ++ [c])) x)
          unfold rkM
          rw [sfL_snoc hb, rd_II]
          by_cases e : x = c
          · rw [if_pos e, if_pos ⟨rfl, rfl, rfl, by rw [e]⟩]
          · rw [if_neg e, if_neg (by omega)]
            exact h7 x x1 x2)
      refine ⟨m', ?_, e2, (f1.wk (fun K i j k z => by unfold PMt; omega)).tr e3⟩
      have vl : nI (b + pre.length) - nI b = nI pre.length := by rw [jg_sub (by omega), show b + pre.length - b = pre.length by omega]
      rw [rk, jt_dt (show (100 : Int32) ≤ nI (100 + c) from nI_le (a := 100) (by omega) (by omega)), cond_true, cond_true, h13, vl, nI_1] at st
      rw [← e1, pl]
      exact st
theorem sm_areSoft {T : Tb} {s : Pv} {a : Nat} (k1 : tkK T a = 1) {m : jm_M} (h : mFn T a m) (hp : mPv s m) (ho : okPv s) (d : Nat) : ∃ m', jm_sem false (d + 3) jn_X12_areSoft [vM] m = some (.inl (reV (vtS T s a)), m') ∧ mRv T (vtS T s a) m' ∧ fr PMt m m' := by
  have t3 := hp.2.2.2.2.2.2.2.2.2
  have st := e_X12_areSoft (d + 2) m
  unfold vtS
  cases hs : pS s with
  | some l =>
    rw [if_pos (show (some l).isSome = true from rfl)]
    rw [hs] at t3
    have t3 : m.1 40 0 0 19 = nI 1 := t3
    obtain ⟨m', e1, e2, e3⟩ := sm_fails h (k := 5) (by decide) (by decide) (d + 1)
    rw [fltK_w (tk1_4 k1)] at e2
    have e1 : jm_sem false (d + 2) jn_X12_fails [vM, .inl 5] m = some (.inl (nI 0), m') := e1
    refine ⟨m', ?_, e2, P40x_t e3⟩
    rw [t3, jt_df (show ¬ (nI 1 ≠ 1) from fun z => z rfl), cond_false, e1, jt_bi, and0, cond_true] at st
    exact st
  | none =>
    rw [if_neg (show ¬ (none : Option (List Nat)).isSome = true from fun z => by cases z)]
    rw [hs] at t3
    have t3 : m.1 40 0 0 19 = nI 0 := t3
    have f0 : fr (fun K _ _ k => K = 40 ∧ k = 19) m (jm_sI m 40 0 0 19 1) := fr_I ⟨rfl, rfl⟩
    have h0 := mFn_fr h f0 (fun k _ _ z => by omega) (fun k z => by omega)
    have p0 : mPv (pvS s (some [])) (jm_sI m 40 0 0 19 1) := by
      obtain ⟨h1, h2, h3, h4, h5, h6, h7, h8, h9, h10⟩ := hp
      have ne : ∀ k, (jm_sI m 40 0 0 19 1).1 41 0 0 k = m.1 41 0 0 k := fun k => by rw [rd_II, if_neg (by omega)]
      rw [hs] at h7
      exact ⟨by rw [ne]; exact h1, by rw [ne]; exact h2, by rw [ne]; exact h3, by rw [ne]; exact h4, by rw [ne]; exact h5, fun j hj => mW_cp (h6 j hj) (ws_X hj) (fun k hk => ne _), fun x x1 x2 => by rw [ne]; exact h7 x x1 x2, h8, h9, by rw [rd_II, if_pos ⟨rfl, rfl, rfl, rfl⟩]; rfl⟩
    obtain ⟨m1, a1, a2, a3⟩ := sm_aheadF h0 d
    have p1 : mPv (pvS s (some [])) m1 := mPv_k (s := pvS s (some [])) ho.2.2.1 ho.1 ho.2.1 p0 (fun k _ _ => (a3 41 0 0 k (by unfold P40; omega)).1) (fun k _ _ => (a3 42 0 0 k (by unfold P40; omega)).2) (a3 40 0 0 19 (by unfold P40; omega)).1
    have f1 : fr PMt m m1 := (f0.wk (fun K i j k z => by unfold PMt; omega)).tr (P40_t a3)
    have k12 := a2.2.2.1.1
    have kd := kdM_le (tkK T (tkX T a))
    rw [t3, jt_dt (show nI 0 ≠ 1 by decide), cond_true, a1, jt_bv, k12] at st
    by_cases c1 : tkK T (tkX T a) = 1
    · rw [if_neg (fun z => z c1)]
      have h13 := a2.2.2.1.2.1
      rw [kd_w.mpr c1, jt_dt (show nI 2 = 2 from rfl), cond_true, h13] at st
      obtain ⟨m', e1, e2, e3⟩ := sm_rsoft ho c1 d (tkL T (tkX T a)) [] jm_j m1 rfl rfl a2 p1
      have e1 : jm_ev false (d + 2) 11 2 jc_X12_areSoft 42 [vM, .inl (nI (tkX T a)), jm_j] [] m1 = some (.inl (if dupB (tkL T (tkX T a)) then nI 0 else nI 1), m') := e1
      have st := st.trans e1
      have e2 : if dupB (tkL T (tkX T a)) then mEr (5, tkX T a) m' else mFn T (tkX T (tkX T a)) m' ∧ mPv (pvS s (some (tkL T (tkX T a)))) m' := e2
      cases hd : dupB (tkL T (tkX T a)) with
      | true => rw [hd, if_pos rfl] at e2 st; rw [if_pos rfl]; exact ⟨m', st, e2, f1.tr e3⟩
      | false => rw [hd, if_neg (by decide)] at e2 st; rw [if_neg (by decide)]; exact ⟨m', st, e2, f1.tr e3⟩
    · rw [if_pos c1]
      obtain ⟨m', e1, e2, e3⟩ := sm_fails a2 (k := 2) (by decide) (by decide) (d + 1)
      have e1 : jm_sem false (d + 2) jn_X12_fails [vM, .inl 2] m1 = some (.inl (nI 0), m') := e1
      refine ⟨m', ?_, e2, f1.tr (P40x_t e3)⟩
      rw [jt_df (show ¬ nI (kdM (tkK T (tkX T a))) = 2 from fun z => c1 (kd_w.mp ((nI_eq (b := 2) (by omega) (by decide)).mp z))), cond_false, e1, jt_bi, and0, cond_true] at st
      exact st
def vPart2 (T : Tb) (s : Pv) (a : Nat) : Ft ⊕ (Pv × Nat) := if tkY T a = some 0 then vtM T s a else if tkY T a = some 1 then vtW2 T s a else if tkY T a = some 3 then vtP T s a else if tkY T a = some 4 then vtS T s a else .inl (flt T a)
theorem vPart_2 (T : Tb) (s : Pv) (a : Nat) : vEnd T (vPart T s a) = vEnd T (vPart2 T s a) := by
  unfold vPart vPart2
  split
  · rfl
  · split
    · exact vtW_2 T s a
    · rfl
theorem sm_vend {T : Tb} {r : Ft ⊕ (Pv × Nat)} {m m1 : jm_M} (hr : mRv T r m1) (ho : ∀ q, r = .inr q → (pW q.1).length ≤ 12 ∧ (pM q.1).length ≤ 12 ∧ (pP q.1).length ≤ 4) (f : fr PMt m m1) (d : Nat) : ∃ m', (cond (decide (reV r = 0)) (some (.inl 0, m1)) (jm_bi (jm_sem false (d + 3) jn_X12_wantSign [vM, .inl 59] m1) (fun r81 m81 => cond (decide (r81 = 0)) (some (.inl 0, m81)) (some (.inl 1, m81)))) : Option (jm_V × jm_M)) = some (.inl (reV (vEnd T r)), m') ∧ mRv T (vEnd T r) m' ∧ fr PMt m m' := by
  cases r with
  | inl e => exact ⟨m1, rfl, hr, f⟩
  | inr q =>
    obtain ⟨h, hp⟩ := hr
    obtain ⟨m', e1, e2, e3⟩ := sm_wantSign h (c := 59) (by decide) d
    have e1 : jm_sem false (d + 3) jn_X12_wantSign [vM, .inl 59] m1 = some (.inl (if isSgn T 59 q.2 then nI 1 else nI 0), m') := e1
    obtain ⟨l1, l2, l3⟩ := ho q rfl
    have p' := mPv_k l1 l2 l3 hp (fun k _ _ => (e3 41 0 0 k (by unfold P40x; omega)).1) (fun k _ _ => (e3 42 0 0 k (by unfold P40x; omega)).2) (e3 40 0 0 19 (by unfold P40x; omega)).1
    refine ⟨m', ?_, ?_, f.tr (P40x_t e3)⟩
    · rw [show decide (reV (.inr q) = 0) = false from rfl, cond_false, e1, jt_bi]
      unfold vEnd
      dsimp only
      cases isSgn T 59 q.2 with
      | true => rw [if_pos rfl, if_pos rfl]; rfl
      | false => rw [if_neg (by decide), if_neg (by decide)]; rfl
    · unfold vEnd
      dsimp only
      cases hs : isSgn T 59 q.2 with
      | true => rw [hs, if_pos rfl] at e2; rw [if_pos rfl]; exact ⟨e2, p'⟩
      | false => rw [hs, if_neg (by decide)] at e2; rw [if_neg (by decide)]; exact e2
