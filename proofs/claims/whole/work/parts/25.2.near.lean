/-! ===== is a heard row of letters left of a known one: greedily, from either end ===== -/
def gr : List Nat → List Nat → List Nat
  | [], h => h
  | _ :: _, [] => []
  | c :: k, x :: t => if c = x then gr k t else gr k (x :: t)
theorem gr_nil (k : List Nat) : gr k [] = [] := by cases k <;> rfl
theorem gr_sub : ∀ (k h : List Nat), gr k h = [] ↔ h.Sublist k
  | [], h => by
    constructor
    · intro e
      have e : h = [] := e
      rw [e]; exact List.Sublist.refl _
    · intro e; exact List.sublist_nil.mp e
  | c :: k, [] => ⟨fun _ => List.nil_sublist _, fun _ => rfl⟩
  | c :: k, x :: t => by
    by_cases hx : c = x
    · subst hx
      have e : gr (c :: k) (c :: t) = gr k t := by simp [gr]
      rw [e, gr_sub k t]
      exact List.cons_sublist_cons.symm
    · have e : gr (c :: k) (x :: t) = gr k (x :: t) := by simp [gr, hx]
      rw [e, gr_sub k (x :: t)]
      constructor
      · exact fun h => h.cons c
      · intro h
        cases h with
        | cons _ h => exact h
        | cons_cons _ h => exact absurd rfl hx
theorem gr_rev (k h : List Nat) : gr k.reverse h.reverse = [] ↔ gr k h = [] := by
  rw [gr_sub, gr_sub, List.reverse_sublist]
theorem drop_cons {l : List Nat} {i : Nat} (h : i < l.length) : l.drop i = l.getD i 0 :: l.drop (i + 1) := by
  rw [List.drop_eq_getElem_cons h]
  simp [List.getD, List.getElem?_eq_getElem h]
def nearB (kn he : List Nat) : Int32 := if gr kn he = [] ∧ kn.length ≤ he.length + 2 then 1 else 0
theorem okL_31 {ls : List Nat} (h : okL ls) (p : Nat) : ls.getD p 0 < 32 := by
  unfold List.getD
  cases hp : ls[p]? with
  | none => decide
  | some c => exact (h c (List.mem_of_getElem? hp)).2
theorem sx_left_loop {kn he : List Nat} (hk : okL kn) (hh : okL he) (k8 : kn.length ≤ 8) (h8 : he.length ≤ 8) (d : Nat) (m : jm_M) : ∀ (r p f : Nat), p + r = kn.length → f ≤ he.length → jm_ev false (d + 1) 12 2 jc_X4_isLeftOf 36 [.inr (.inl (lN (enc he))), jm_j, .inr (.inl (lN (enc kn))), jm_j, .inl (nI he.length), .inl (nI kn.length), .inl (nI f), .inl (nI p)] [] m = some (.inl (if gr (kn.drop p) (he.drop f) = [] then 1 else 0), m)
  | 0, p, f, hp, hf => by
    rw [l_X4_isLeftOf_36, jt_dt (nI_le (show kn.length ≤ p by omega) (by omega)), cond_true, List.drop_eq_nil_of_le (show kn.length ≤ p by omega), jt_c, jt_cd]
    by_cases z : f = he.length
    · rw [if_neg (by rw [z]; simp), if_pos]
      show he.drop f = []
      exact List.drop_eq_nil_of_le (by omega)
    · rw [if_pos (by rw [ne_eq, nI_eq (by omega) (by omega)]; exact z), if_neg]
      intro e
      have e : he.drop f = [] := e
      have := congrArg List.length e
      rw [List.length_drop] at this
      simp at this
      omega
  | r + 1, p, f, hp, hf => by
    rw [l_X4_isLeftOf_36, jt_df (nI_ge (show p < kn.length by omega) (by omega)), cond_false, drop_cons (show p < kn.length by omega), nI_1]
    by_cases z : f = he.length
    · rw [jt_dt (nI_le (show he.length ≤ f by omega) (by omega)), cond_true, sx_left_loop hk hh k8 h8 d m r (p + 1) f (by omega) hf, List.drop_eq_nil_of_le (show he.length ≤ f by omega), gr_nil, gr_nil]
    · have hf' : f < he.length := by omega
      have k32 := okL_31 hk p
      have h32 := okL_31 hh f
      rw [jt_df (nI_ge hf' (by omega)), cond_false, sx_letterAt hk k8 (by omega), jt_bi, sx_letterAt hh h8 (by omega), jt_bi, jt_c, jt_cd, nI_1, drop_cons hf']
      by_cases e : kn.getD p 0 = he.getD f 0
      · rw [if_neg (by rw [e]; simp), sx_left_loop hk hh k8 h8 d m r (p + 1) (f + 1) (by omega) (by omega)]
        have : gr (kn.getD p 0 :: kn.drop (p + 1)) (he.getD f 0 :: he.drop (f + 1)) = gr (kn.drop (p + 1)) (he.drop (f + 1)) := by
          show (if kn.getD p 0 = he.getD f 0 then _ else _) = _
          rw [if_pos e]
        rw [this]
      · rw [if_pos (by rw [ne_eq, nI_eq (by omega) (by omega)]; exact e), sx_left_loop hk hh k8 h8 d m r (p + 1) f (by omega) hf]
        have : gr (kn.getD p 0 :: kn.drop (p + 1)) (he.getD f 0 :: he.drop (f + 1)) = gr (kn.drop (p + 1)) (he.drop f) := by
          show (if kn.getD p 0 = he.getD f 0 then _ else _) = _
          rw [if_neg e, drop_cons hf']
        rw [this]
theorem gr_len {k h : List Nat} (e : gr k h = []) : h.length ≤ k.length := ((gr_sub k h).mp e).length_le
theorem sx_isLeftOf {kn he : List Nat} (hk : okL kn) (hh : okL he) (k8 : kn.length ≤ 8) (h8 : he.length ≤ 8) (d : Nat) (m : jm_M) : jm_sem false (d + 2) jn_X4_isLeftOf [.inr (.inl (lN (enc he))), .inr (.inl (lN (enc kn)))] m = some (.inl (nearB kn he), m) := by
  rw [e_X4_isLeftOf, sx_sizeOf hh h8, jt_bi, sx_sizeOf hk k8, jt_bi]
  unfold nearB
  by_cases a : kn.length < he.length
  · rw [jt_dt (nI_lt a (by omega)), cond_true, if_neg]
    rintro ⟨e, -⟩
    have := gr_len e
    omega
  · rw [jt_df (nI_nlt (by omega) (by omega)), cond_false]
    have c : (nI kn.length - 2 ≤ nI he.length) ↔ kn.length ≤ he.length + 2 := by
      rw [show (2 : Int32) = nI 2 from rfl, Int32.le_iff_toInt_le, jt_sub (by omega) (by decide), nI_toInt (by omega)]
      omega
    by_cases b : kn.length ≤ he.length + 2
    · rw [jt_dt (c.mpr b), cond_true]
      have := sx_left_loop hk hh k8 h8 d m kn.length 0 0 (by omega) (by omega)
      rw [List.drop_zero, List.drop_zero] at this
      rw [show (.inl 0 : jm_V) = .inl (nI 0) from rfl, this]
      by_cases g : gr kn he = []
      · rw [if_pos g, if_pos ⟨g, b⟩]
      · rw [if_neg g, if_neg (fun z => g z.1)]
    · rw [jt_df (fun z => b (c.mp z)), cond_false, if_neg (fun z => b z.2)]
/-! the reference: from the last letter -/
theorem cmp_pos {a : Nat} (ha : a < 2 ^ 62) : (lg_cmp (lN a) 0 ≤ 0 ↔ a = 0) ∧ (lg_cmp (lN a) 0 = 0 ↔ a = 0) := by
  have h1 : (lN a > 0) ↔ 0 < a := by
    show lN 0 < lN a ↔ _
    rw [pk_lLT (by decide) (by omega)]
  have h2 : (lN a = 0) ↔ a = 0 := by
    show lN a = lN 0 ↔ _
    rw [pk_lEQ (by omega) (by decide)]
  unfold lg_cmp
  by_cases z : a = 0
  · subst z
    exact ⟨by decide, by decide⟩
  · rw [if_pos (h1.mpr (by omega))]
    exact ⟨⟨fun y => absurd y (by decide), fun y => absurd y z⟩, ⟨fun y => absurd y (by decide), fun y => absurd y z⟩⟩
theorem cmp_eq {a b : Nat} (ha : a < 2 ^ 62) (hb : b < 2 ^ 62) : lg_cmp (lN a) (lN b) = 0 ↔ a = b := by
  unfold lg_cmp
  have h1 : (lN a > lN b) ↔ b < a := pk_lLT (by omega) (by omega)
  have h2 : (lN a = lN b) ↔ a = b := pk_lEQ (by omega) (by omega)
  by_cases z : b < a
  · rw [if_pos (h1.mpr z)]
    exact ⟨fun y => absurd y (by decide), fun y => by omega⟩
  · rw [if_neg (fun y => z (h1.mp y))]
    by_cases w : a = b
    · rw [if_pos (h2.mpr w)]; exact ⟨fun _ => w, fun _ => rfl⟩
    · rw [if_neg (fun y => w (h2.mp y))]; exact ⟨fun y => absurd y (by decide), fun y => absurd y w⟩
/-- letters that are looked at from the last one: rk, rh are the rows turned round -/
theorem enc_rev (c : Nat) (l : List Nat) : enc (c :: l).reverse = 32 * enc l.reverse + c := by
  rw [List.reverse_cons, enc_snoc]
theorem sm_near_loop (d : Nat) (z0 z2 : jm_V) (m : jm_M) : ∀ (rk rh : List Nat) (w : Nat), okL rk → okL rh → w + rk.length ≤ 8 → rh.length ≤ 8 → jm_ev false d 11 2 jc_X12_areNear 9 [z0, jm_j, z2, jm_j, .inr (.inl (lN (enc rk.reverse))), jm_j, .inr (.inl (lN (enc rh.reverse))), jm_j, .inl (nI w)] [] m = some (.inl (if gr rk rh = [] ∧ w + rk.length ≤ rh.length + 2 then 1 else 0), m)
  | [], rh, w, hk, hh, k8, h8 => by
    have k8 : w ≤ 8 := by simpa using k8
    have hr : okL rh.reverse := okL_sub (fun c hc => List.mem_reverse.mp hc) hh
    have h40 := enc_40 hr (by simp; exact h8)
    have c1 := cmp_pos (a := enc rh.reverse) (by omega)
    have e0 : rh.reverse = [] ↔ rh = [] := List.reverse_eq_nil_iff
    rw [l_X12_areNear_9, show enc ([] : List Nat).reverse = 0 from rfl, jt_cd, if_pos (by decide), jt_cd, jt_c, jt_cd]
    rw [show (if gr [] rh = [] ∧ w + ([] : List Nat).length ≤ rh.length + 2 then (1 : Int32) else 0) = (if rh = [] ∧ w + 0 ≤ rh.length + 2 then 1 else 0) from rfl]
    by_cases z : rh = []
    · have c2 : (2 < nI w) ↔ 2 < w := by rw [show (2 : Int32) = nI 2 from rfl, nI_ltI (by decide) (by omega)]
      rw [if_neg (fun q => q (c1.2.mpr ((enc_0 hr).mpr (e0.mpr z))))]
      subst z
      by_cases y : 2 < w
      · rw [if_pos (c2.mpr y), if_neg (by simp; omega)]
      · rw [if_neg (fun q => y (c2.mp q)), if_pos ⟨rfl, by simp; omega⟩]
    · rw [if_pos (fun q => z (e0.mp ((enc_0 hr).mp (c1.2.mp q)))), if_neg (fun y => z y.1)]
  | c :: k, rh, w, hk, hh, k8, h8 => by
    have k8 : w + (k.length + 1) ≤ 8 := by simpa using k8
    have hkr : okL (c :: k).reverse := okL_sub (fun c hc => List.mem_reverse.mp hc) hk
    have hk' : okL k := fun x hx => hk x (List.mem_cons_of_mem _ hx)
    have hr : okL rh.reverse := okL_sub (fun c hc => List.mem_reverse.mp hc) hh
    have k40 := enc_40 hkr (by simp; omega)
    have h40 := enc_40 hr (by simp; exact h8)
    have kp := enc_pos hkr (by simp)
    have hc := hk c List.mem_cons_self
    have cK := cmp_pos (a := enc (c :: k).reverse) (by omega)
    have cH := cmp_pos (a := enc rh.reverse) (by omega)
    have n32 : jm_dec (¬ (32 : Int64) = 0) = true := jt_dt (by decide)
    have kd : lN (enc (c :: k).reverse) / 32 = lN (enc k.reverse) := by
      rw [show (32 : Int64) = lN 32 from rfl, pk_lDiv (by omega) (by decide) (by decide), enc_rev, show (32 * enc k.reverse + c) / 32 = enc k.reverse by omega]
    have km : lN (enc (c :: k).reverse) - lN (enc k.reverse) * 32 = lN c := by
      rw [← kd, show (32 : Int64) = lN 32 from rfl, pk_lRem (by omega) (by decide) (by decide), enc_rev, show (32 * enc k.reverse + c) % 32 = c by omega]
    rw [l_X12_areNear_9, jt_cd, if_neg (fun q => by have := cK.1.mp q; omega), kd, n32, cond_true, cond_true, cond_true, cond_true, nI_1, jt_cd]
    cases rh with
    | nil =>
      rw [if_pos (cH.1.mpr rfl), sm_near_loop d z0 z2 m k [] (w + 1) hk' hh (by omega) h8, gr_nil, gr_nil]
      simp only [List.length_cons, show w + (k.length + 1) = w + 1 + k.length by omega]
    | cons x t =>
      have hp := enc_pos hr (by simp)
      have hx := hh x List.mem_cons_self
      have hh' : okL t := fun y hy => hh y (List.mem_cons_of_mem _ hy)
      have hd : lN (enc (x :: t).reverse) / 32 = lN (enc t.reverse) := by
        rw [show (32 : Int64) = lN 32 from rfl, pk_lDiv (by omega) (by decide) (by decide), enc_rev, show (32 * enc t.reverse + x) / 32 = enc t.reverse by omega]
      have hm : lN (enc (x :: t).reverse) - lN (enc t.reverse) * 32 = lN x := by
        rw [← hd, show (32 : Int64) = lN 32 from rfl, pk_lRem (by omega) (by decide) (by decide), enc_rev, show (32 * enc t.reverse + x) % 32 = x by omega]
      rw [if_neg (fun q => by have := cH.1.mp q; omega), hd, km, hm, jt_cd]
      have ce := cmp_eq (a := c) (b := x) (by omega) (by omega)
      by_cases e : c = x
      · rw [if_neg (fun q => q (ce.mpr e)), sm_near_loop d z0 z2 m k t w hk' hh' (by omega) (by simp at h8; omega)]
        have : gr (c :: k) (x :: t) = gr k t := by simp [gr, e]
        rw [this]
        have : (w + k.length ≤ t.length + 2) ↔ (w + (c :: k).length ≤ (x :: t).length + 2) := by simp; omega
        simp only [this, cond_true]
      · rw [if_pos (fun q => e (ce.mp q)), sm_near_loop d z0 z2 m k (x :: t) (w + 1) hk' hh (by omega) h8]
        have : gr (c :: k) (x :: t) = gr k (x :: t) := by simp [gr, e]
        rw [this]
        simp only [List.length_cons, show w + (k.length + 1) = w + 1 + k.length by omega]
theorem sm_areNear {kn he : List Nat} (hk : okL kn) (hh : okL he) (k8 : kn.length ≤ 8) (h8 : he.length ≤ 8) (d : Nat) (m : jm_M) : jm_sem false (d + 1) jn_X12_areNear [.inr (.inl (lN (enc kn))), .inr (.inl (lN (enc he)))] m = some (.inl (nearB kn he), m) := by
  have := sm_near_loop d (.inr (.inl (lN (enc kn)))) (.inr (.inl (lN (enc he)))) m kn.reverse he.reverse 0 (okL_sub (fun c hc => List.mem_reverse.mp hc) hk) (okL_sub (fun c hc => List.mem_reverse.mp hc) hh) (by simp; omega) (by simp; exact h8)
  rw [List.reverse_reverse, List.reverse_reverse] at this
  rw [e_X12_areNear, show (.inl 0 : jm_V) = .inl (nI 0) from rfl, this]
  unfold nearB
  simp only [gr_rev, List.length_reverse, Nat.zero_add]
