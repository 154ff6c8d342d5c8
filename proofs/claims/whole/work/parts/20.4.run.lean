/-! ===== the machine does what the small machine does: whole runs ===== -/
theorem jx_code_uniq {y : MethodName} {b b' : ByteArray} {n n' : Nat} {r r' : Option FieldType} {args : Array Value} {s : State} {mid : MethodId} (hn : s.methodNamed? y = some mid) (h : (Cond.code y b n r).before args s = true) (h' : (Cond.code y b' n' r').before args s = true) : b = b' := by
  obtain ⟨m1, c1, a1, a2, a3, -⟩ := Cond.code_spec hn h
  obtain ⟨m2, c2, b1, b2, b3, -⟩ := Cond.code_spec hn h'
  rw [a1] at b1
  cases b1
  rw [a2] at b2
  cases b2
  rw [← a3, ← b3]
theorem jx_en_len {G : jx_G} (hs : jx_sv G) : ∀ as : List jm_V, (lg_sl (as.map (jx_v G))).length = (jm_en as).length
  | [] => rfl
  | .inl x :: as => by
    show (lg_sl (as.map (jx_v G))).length + 1 = (jm_en as).length + 1
    rw [jx_en_len hs as]
  | .inr (.inl x) :: as => by
    show (lg_sl (as.map (jx_v G))).length + 1 + 1 = (jm_en as).length + 1 + 1
    rw [jx_en_len hs as]
  | .inr (.inr (.inl r)) :: as => by
    show ((if (jx_ad G r).category = 2 then [Slot.val (jx_ad G r), .second] else [.val (jx_ad G r)]) ++ lg_sl (as.map (jx_v G))).length = (jm_en as).length + 1
    rw [if_neg (by rw [jx_ad_cat hs]; decide), List.length_append, jx_en_len hs as]
    simp
    omega
  | .inr (.inr (.inr u)) :: as => by
    show (lg_sl (as.map (jx_v G))).length + 1 = (jm_en as).length + 1
    rw [jx_en_len hs as]
def jx_ev (G : jx_G) (l : List (Nat × Value)) (i : Nat) : jm_V → Prop
  | .inl x => (i, .int x) ∈ l
  | .inr (.inl y) => (i, .long y) ∈ l
  | .inr (.inr (.inl r)) => (i, jx_ad G r) ∈ l
  | .inr (.inr (.inr _)) => True
theorem jx_ev_cons {G : jx_G} {l : List (Nat × Value)} {q : Nat × Value} {i : Nat} {v : jm_V} (h : jx_ev G l i v) : jx_ev G (q :: l) i v := by
  rcases v with a | a | a | a
  · exact List.mem_cons_of_mem _ h
  · exact List.mem_cons_of_mem _ h
  · exact List.mem_cons_of_mem _ h
  · trivial
theorem jx_en_get {G : jx_G} (hs : jx_sv G) : ∀ (as : List jm_V) (b i : Nat) (v : jm_V), (jm_en as)[i]? = some v → jx_ev G (lv_args b (as.map (jx_v G))) (b + i) v
  | [], b, i, v, h => by simp [jm_en] at h
  | .inl x :: as, b, i, v, h => by
    cases i with
    | zero => cases h; exact List.mem_cons_self
    | succ i =>
      have h1 := jx_en_get hs as (b + 1) i v h
      rw [show b + 1 + i = b + (i + 1) by omega] at h1
      exact jx_ev_cons h1
  | .inr (.inl x) :: as, b, i, v, h => by
    match i, h with
    | 0, h => cases h; exact List.mem_cons_self
    | 1, h => cases h; trivial
    | i + 2, h =>
      have h1 := jx_en_get hs as (b + 2) i v h
      rw [show b + 2 + i = b + (i + 2) by omega] at h1
      exact jx_ev_cons h1
  | .inr (.inr (.inl r)) :: as, b, i, v, h => by
    show jx_ev G ((b, jx_ad G r) :: lv_args (if (jx_ad G r).category = 2 then b + 2 else b + 1) (as.map (jx_v G))) (b + i) v
    rw [if_neg (by rw [jx_ad_cat hs]; decide)]
    cases i with
    | zero => cases h; exact List.mem_cons_self
    | succ i =>
      have h1 := jx_en_get hs as (b + 1) i v h
      rw [show b + 1 + i = b + (i + 1) by omega] at h1
      exact jx_ev_cons h1
  | .inr (.inr (.inr u)) :: as, b, i, v, h => by
    cases i with
    | zero => cases h; trivial
    | succ i =>
      have h1 := jx_en_get hs as (b + 1) i v h
      rw [show b + 1 + i = b + (i + 1) by omega] at h1
      exact jx_ev_cons h1
/-- the locals at a method's entry -/
theorem jx_entry {G : jx_G} (hs : jx_sv G) {as : List jm_V} {mx : Nat} (hm : (jm_en as).length ≤ mx) : jx_ls G mx (jm_pad mx (jm_en as)) ((lg_sl (as.map (jx_v G)) ++ List.replicate (mx - (lg_sl (as.map (jx_v G))).length) Slot.unset).toArray) := by
  have h := lv_entry (as.map (jx_v G)) (n := mx) (by rw [jx_en_len hs]; exact hm)
  refine ⟨?_, h.1, h.2.1, fun i v hv => ?_⟩
  · unfold jm_pad
    rw [List.length_append, List.length_replicate]
    omega
  · unfold jm_pad at hv
    by_cases hi : i < (jm_en as).length
    · rw [List.getElem?_append_left hi] at hv
      have h1 := jx_en_get hs as 0 i v hv
      rw [Nat.zero_add] at h1
      rcases v with a | a | a | a
      · exact h.2.2 _ h1
      · exact fun _ => h.2.2 _ h1
      · exact h.2.2 _ h1
      · trivial
    · rw [List.getElem?_append_right (by omega)] at hv
      have h1 := List.mem_of_getElem? hv
      rw [(List.mem_replicate.mp h1).2]
      trivial
theorem jx_en_mem {as : List jm_V} {v : jm_V} (h : v ∈ jm_en as) : v ∈ as ∨ v = jm_j := by
  induction as with
  | nil => cases h
  | cons a as ih =>
    rcases a with x | x | x | x
    · rcases List.mem_cons.mp h with q | q
      · exact Or.inl (by rw [q]; exact List.mem_cons_self)
      · exact (ih q).imp (List.mem_cons_of_mem _) id
    · rcases List.mem_cons.mp h with q | q
      · exact Or.inl (by rw [q]; exact List.mem_cons_self)
      · rcases List.mem_cons.mp q with q | q
        · exact Or.inr q
        · exact (ih q).imp (List.mem_cons_of_mem _) id
    · rcases List.mem_cons.mp h with q | q
      · exact Or.inl (by rw [q]; exact List.mem_cons_self)
      · exact (ih q).imp (List.mem_cons_of_mem _) id
    · rcases List.mem_cons.mp h with q | q
      · exact Or.inl (by rw [q]; exact List.mem_cons_self)
      · exact (ih q).imp (List.mem_cons_of_mem _) id
theorem jx_en_oks {md : Bool} {μ : jm_M} {as : List jm_V} {mx : Nat} (h : jx_oks md μ as) : jx_oks md μ (jm_pad mx (jm_en as)) := fun v hv => by
  unfold jm_pad at hv
  have hj : jx_okv md μ jm_j := trivial
  rcases List.mem_append.mp hv with q | q
  · rcases jx_en_mem q with q | q
    · exact h v q
    · rw [q]; exact hj
  · rw [(List.mem_replicate.mp q).2]; exact hj
theorem jx_nop1 {cls pc : Nat} {cd : jm_Cd} {ins : Instr} (h : jx_nop cls cd = true) (hm : (pc, ins) ∈ cd) : jx_nop cls [(0, ins)] = true := by
  have h1 := List.all_eq_true.mp h _ hm
  exact List.all_eq_true.mpr (fun q hq => by rw [List.mem_singleton.mp hq]; exact h1)
theorem jx_kck1 {cls pc : Nat} {cd : jm_Cd} {ins : Instr} (h : jx_kck cls cd = true) (hm : (pc, ins) ∈ cd) : jx_ik cls ins = true := by
  have h1 := List.all_eq_true.mp h _ hm
  exact List.all_eq_true.mpr (fun q hq => by rw [List.mem_singleton.mp hq]; exact h1)
theorem jx_runJ (l : Launch) : ∀ (n : Nat) {md : Bool} {d cls rt : Nat} {cd : jm_Cd} {pc : Nat} {ls st : List jm_V} {μ : jm_M} {v : jm_V} {μ' : jm_M}, jm_run n md d cls rt cd pc ls st μ = some (v, μ') →
    ∀ {p : Program} {e : Env} {R : Room} {s : State} {m : MethodId} {args : Array Value} {below : List Frame} {meth : Method} {c : Code} {Q : State → Prop} {G : jx_G} {L : Nat} {xs : Nat → Int32} {n0 nL : Nat} {cc : ByteArray} {own : String},
    jx_C p s m args c G L xs cc nL own n0 → jm_cn[cls]? = some own → jx_ck cc cd = true → jx_kck cls cd = true → (meth.name = "<init>" ∨ jx_nop cls cd = true) → n0 ≤ jm_cnt md μ → d + 1 ≤ R.frames → 80 * (d + 1) ≤ R.locals → jm_cnt md μ' - n0 ≤ R.cells → 8600 * (jm_cnt md μ' - n0) ≤ R.slots →
    (∀ (pc' : Nat) (H : Heap) (locs : List Loc) (LS : Array Slot), jx_rd cc pc' rt v → va_S (jx_A G) s.heap H locs → jx_H2 G md μ' H → W p l e R s m args below meth c H locs (jm_cnt md μ' - n0) (8600 * (jm_cnt md μ' - n0)) Q (F0 m pc' LS (jx_ro v).toList)) →
    jx_J p l e R s m args below meth c Q G L xs md n0 nL pc ls st μ
  | 0, _, _, _, _, _, _, _, _, _, _, _, h => by cases h
  | n + 1, md, d, cls, rt, cd, pc, ls, st, μ, v, μ', h => by
    intro C hcn hck hkk hini hn0 hfr hlo hrc hrs hQ
    rw [jm_run_succ] at h
    unfold jm_st1 at h
    cases hl : jm_look cd pc with
    | none => rw [hl] at h; cases h
    | some q =>
      obtain ⟨p', ins⟩ := q
      rw [hl] at h
      dsimp only at h
      have hmem := (jx_look_in hl).2
      obtain ⟨rfl, len, hd, hlen⟩ := jx_dec hck hl
      refine jx_stepJ C (K := jm_run n md d cls rt cd) (CC := jm_cr n md d) (d := d) hcn (hini.imp id (fun z => jx_nop1 z hmem)) (jx_kck1 hkk hmem) hd hlen hn0 hfr hlo hrc hrs h (fun _ _ _ _ h => (jx_run_le n h).1) (fun _ _ _ _ hn h => jx_runJ l n h C hcn hck hkk hini hn hfr hlo hrc hrs hQ) (fun k as μ1 w μ2 hc => ?_) hQ
      cases d with
      | zero => cases hc
      | succ d =>
        cases hmt : jm_mt[k]? with
        | none => simp [jm_cr, hmt] at hc
        | some t =>
          obtain ⟨c', r', mx, cd'⟩ := t
          simp only [jm_cr, hmt] at hc
          cases hb : Nat.ble (jm_en as).length mx with
          | false => rw [hb] at hc; cases hc
          | true =>
            rw [hb] at hc
            have hc : jm_run n md d c' r' cd' 0 (jm_pad mx (jm_en as)) [] μ1 = some (w, μ2) := hc
            have hle := jx_run_le n hc
            refine ⟨hle.1, ?_, fun t ht h0 => ?_⟩
            · intro G2 L2 xs2 q t b hq ht hbw hscr hoks
              have ht' := ht
              rw [hmt] at ht'
              cases ht'
              obtain ⟨⟨b2, hb2, hck2⟩, hini2, -, -, -, -, hpl, hcn2, -, -, -, hnp2, hkk2⟩ := jx_meth hq ht
              refine Met.ofW (cc := b) (maxL := mx) (ret := jx_rt r') hpl rfl ?_
              intro p2 e2 s2 m2 args2 below2 meth2 c2 s₁ B hml hv
              obtain ⟨rfl, hT, hH, hsz⟩ := hv
              have hts := atoms_spec (ws := Cond.code q.1 b mx (jx_rt r') :: jx_gw) B.pre
              have hbb : b = b2 := jx_code_uniq B.named (hts _ List.mem_cons_self) (hts _ (List.mem_cons_of_mem _ hb2))
              subst hbb
              have C2 : jx_C p2 s2 m2 (as.map (jx_v G2)).toArray c2 G2 L2 xs2 b mx q.1.cls (jm_cnt md μ1) := ⟨B.exec, B.bytes, hml, findClass_of_methodNamed B.named, fun w hw => hts w (List.mem_cons_of_mem _ hw), hT, hsz⟩
              have hnm : meth2.name = "<init>" ∨ jx_nop c' cd' = true := hnp2.imp (fun z => (name_of_methodNamed B.named B.method).1.trans z) id
              have hr := B.returns
              have hlocks := B.notSynchronized
              have key := jx_runJ l n hc (e := e2) (R := (headSpec (Cond.code q.1 b mx (jx_rt r') :: jx_gw) (jx_rm (d + 1) (jm_cnt md μ2 - jm_cnt md μ1))).room) (below := below2) (meth := meth2) (Q := MQ below2 (jx_Qc G2 md w μ2) (as.map (jx_v G2)).toArray s2 (jm_cnt md μ2 - jm_cnt md μ1) (8600 * (jm_cnt md μ2 - jm_cnt md μ1)) (jx_A G2)) C2 hcn2 hck2 hkk2 hnm (Nat.le_refl _) (Nat.le_refl _) (Nat.le_refl _) (Nat.le_refl _) (Nat.le_refl _) (fun pc' H locs LS hrd hS hH2 => ?_)
              · rw [lg_entry_eq]
                have h9 := key s2.heap [] _ ⟨⟨hH, hscr⟩, va_S.rf, jx_entry hT.2.2.2.2.2.2.2.2 (Nat.le_of_ble_eq_true hb), jx_en_oks hoks, jx_oks_nil⟩
                rw [Nat.sub_self, Nat.mul_zero] at h9
                exact h9
              · have hq2 : ∀ (u : Option Value), u = jx_ro w → ∀ t : State, t.heap = H → s2.WarmedH t.vm → jx_Qc G2 md w μ2 (as.map (jx_v G2)).toArray s2 (.returned u) t := fun u hu t ht _ => ⟨by rw [hu], by rw [ht]; exact hH2, hS.F ht⟩
                rcases hrd with ⟨h1, h2, h3⟩ | ⟨h1, ⟨y, h2⟩, h3⟩ | ⟨h1, ⟨x, h2, h4⟩, h3⟩
                · subst h1; subst h2
                  exact W.vret B.exec B.bytes hr (hq2 _ rfl) hS.2.2 h3
                · subst h1; subst h2
                  exact W.lret B.exec B.bytes hr (hq2 _ rfl) hS.2.2 h3
                · subst h2
                  have h14 : r' = 1 ∨ r' = 2 ∨ r' = 3 ∨ r' = 4 := by omega
                  rcases h14 with z | z | z | z <;> rw [z] at hr h4
                  · exact W.iret B.exec B.bytes hr (hq2 _ rfl) hS.2.2 h3
                  · exact W.zret B.exec B.bytes hr (by show Value.int (x &&& 1) = _; rw [show x &&& 1 = x from h4]) (hq2 _ rfl) hS.2.2 h3
                  · exact W.zret B.exec B.bytes hr (by show Value.int (x.toInt8.toInt32) = _; rw [show x.toInt8.toInt32 = x from h4]) (hq2 _ rfl) hS.2.2 h3
                  · exact W.zret B.exec B.bytes hr (by show Value.int (x.toUInt32.toUInt16.toUInt32.toInt32) = _; rw [show x.toUInt32.toUInt16.toUInt32.toInt32 = x from h4]) (hq2 _ rfl) hS.2.2 h3
            · cases ht
              exact hle.2 h0
