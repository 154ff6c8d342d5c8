/-! ===== one step of the machine ===== -/
def jx_oks (md : Bool) (μ : jm_M) (st : List jm_V) : Prop := ∀ v ∈ st, jx_okv md μ v
theorem jx_oks_nil {md : Bool} {μ : jm_M} : jx_oks md μ [] := fun v h => by cases h
theorem jx_oks_cons {md : Bool} {μ : jm_M} {v : jm_V} {st : List jm_V} (h1 : jx_okv md μ v) (h2 : jx_oks md μ st) : jx_oks md μ (v :: st) := fun u hu => by
  rcases List.mem_cons.mp hu with rfl | hu
  · exact h1
  · exact h2 u hu
theorem jx_oks.h {md : Bool} {μ : jm_M} {v : jm_V} {st : List jm_V} (h : jx_oks md μ (v :: st)) : jx_okv md μ v := h v List.mem_cons_self
theorem jx_oks.t {md : Bool} {μ : jm_M} {v : jm_V} {st : List jm_V} (h : jx_oks md μ (v :: st)) : jx_oks md μ st := fun u hu => h u (List.mem_cons_of_mem _ hu)
theorem jx_oks.i {md : Bool} {μ : jm_M} {st : List jm_V} {x : Int32} (h : jx_oks md μ st) : jx_oks md μ (.inl x :: st) := jx_oks_cons trivial h
theorem jx_oks.l {md : Bool} {μ : jm_M} {st : List jm_V} {x : Int64} (h : jx_oks md μ st) : jx_oks md μ (.inr (.inl x) :: st) := jx_oks_cons trivial h
theorem jx_oks.set {md : Bool} {μ : jm_M} {st : List jm_V} (h : jx_oks md μ st) {i : Nat} {v : jm_V} (hv : jx_okv md μ v) : jx_oks md μ (st.set i v) := fun u hu => by
  rcases List.mem_or_eq_of_mem_set hu with h1 | rfl
  · exact h u h1
  · exact hv
/-- the script's ints, as the memory has them -/
def jx_scr (L : Nat) (xs : Nat → Int32) (μ : jm_M) : Prop := (∀ j, μ.1 70 0 0 j = xs j) ∧ μ.1 70 0 1 0 = Int32.ofNat L ∧ L < 2 ^ 31
def jx_St (G : jx_G) (L : Nat) (xs : Nat → Int32) (md : Bool) (μ : jm_M) (nL : Nat) (ls st : List jm_V) (s : State) (H : Heap) (locs : List Loc) (LS : Array Slot) : Prop :=
  (jx_H2 G md μ H ∧ jx_scr L xs μ) ∧ va_S (jx_A G) s.heap H locs ∧ jx_ls G nL ls LS ∧ jx_oks md μ ls ∧ jx_oks md μ st
theorem jx_St.st {G : jx_G} {L : Nat} {xs : Nat → Int32} {md : Bool} {μ : jm_M} {nL : Nat} {ls st st' : List jm_V} {s : State} {H : Heap} {locs : List Loc} {LS : Array Slot} (S : jx_St G L xs md μ nL ls st s H locs LS) (h : jx_oks md μ st') : jx_St G L xs md μ nL ls st' s H locs LS := ⟨S.1, S.2.1, S.2.2.1, S.2.2.2.1, h⟩
/-- the frame's fixed facts -/
def jx_C (p : Program) (s : State) (m : MethodId) (args : Array Value) (c : Code) (G : jx_G) (L : Nat) (xs : Nat → Int32) (cc : ByteArray) (nL : Nat) (own : String) (n0 : Nat) : Prop :=
  p.tables.exec = Jvm.exec ∧ c.code = cc ∧ c.maxLocals = nL ∧ s.vm.findClass own = some m.cls ∧ (∀ w ∈ jx_gw, w.before args s = true) ∧ jx_T G L xs s ∧ s.heap.size = jx_B G + n0
def jx_J (p : Program) (l : Launch) (e : Env) (R : Room) (s : State) (m : MethodId) (args : Array Value) (below : List Frame) (meth : Method) (c : Code) (Q : State → Prop) (G : jx_G) (L : Nat) (xs : Nat → Int32) (md : Bool) (n0 nL : Nat) (pc : Nat) (ls st : List jm_V) (μ : jm_M) : Prop :=
  ∀ (H : Heap) (locs : List Loc) (LS : Array Slot), jx_St G L xs md μ nL ls st s H locs LS → W p l e R s m args below meth c H locs (jm_cnt md μ - n0) (8600 * (jm_cnt md μ - n0)) Q (F0 m pc LS (st.map (jx_v G)))
theorem jx_il1 {i : Instr} {n k : Nat} (h : jm_il i = 0 ∨ n = jm_il i) (hk : jm_il i = k + 1) : n = k + 1 := by
  rcases h with h | h
  · rw [hk] at h; cases h
  · rw [h, hk]
section JX
variable {p : Program} {l : Launch} {e : Env} {R : Room} {s : State} {m : MethodId} {args : Array Value} {below : List Frame} {meth : Method} {c : Code} {Q : State → Prop} {G : jx_G} {L : Nat} {xs : Nat → Int32} {md : Bool} {n0 nL : Nat} {cc : ByteArray} {own : String}
variable {pc : Nat} {ls st : List jm_V} {μ : jm_M}
theorem jy_iconst (C : jx_C p s m args c G L xs cc nL own n0) {n : Int} (hd : decode cc pc = .ok (.iconst n, 1)) (K : jx_J p l e R s m args below meth c Q G L xs md n0 nL (pc + 1) ls (.inl (Int32.ofInt n) :: st) μ) : jx_J p l e R s m args below meth c Q G L xs md n0 nL (pc) ls st μ := by
  intro H locs LS S
  have hO := S.2.2.2.2
  exact lv_iconst C.1 C.2.1 hd rfl (K H locs LS (S.st hO.i))
theorem jy_bipush (C : jx_C p s m args c G L xs cc nL own n0) {n : Int} (hd : decode cc pc = .ok (.bipush n, 2)) (K : jx_J p l e R s m args below meth c Q G L xs md n0 nL (pc + 2) ls (.inl (Int8.ofInt n).toInt32 :: st) μ) : jx_J p l e R s m args below meth c Q G L xs md n0 nL (pc) ls st μ := by
  intro H locs LS S
  have hO := S.2.2.2.2
  exact lv_bipush C.1 C.2.1 hd rfl (K H locs LS (S.st hO.i))
theorem jy_sipush (C : jx_C p s m args c G L xs cc nL own n0) {n : Int} (hd : decode cc pc = .ok (.sipush n, 3)) (K : jx_J p l e R s m args below meth c Q G L xs md n0 nL (pc + 3) ls (.inl (Int16.ofInt n).toInt32 :: st) μ) : jx_J p l e R s m args below meth c Q G L xs md n0 nL (pc) ls st μ := by
  intro H locs LS S
  have hO := S.2.2.2.2
  exact lv_sipush C.1 C.2.1 hd rfl (K H locs LS (S.st hO.i))
theorem jy_lconst (C : jx_C p s m args c G L xs cc nL own n0) {n : Fin 2} (hd : decode cc pc = .ok (.lconst n, 1)) (K : jx_J p l e R s m args below meth c Q G L xs md n0 nL (pc + 1) ls (.inr (.inl (Int64.ofNat (n : Nat))) :: st) μ) : jx_J p l e R s m args below meth c Q G L xs md n0 nL (pc) ls st μ := by
  intro H locs LS S
  have hO := S.2.2.2.2
  exact lv_lconst C.1 C.2.1 hd rfl (K H locs LS (S.st hO.l))
theorem jy_iload_n (C : jx_C p s m args c G L xs cc nL own n0) {k : Fin 4} {x : Int32} (hg : jm_g ls k = .inl x) (hd : decode cc pc = .ok (.iload_n k, 1)) (K : jx_J p l e R s m args below meth c Q G L xs md n0 nL (pc + 1) ls (.inl x :: st) μ) : jx_J p l e R s m args below meth c Q G L xs md n0 nL (pc) ls st μ := by
  intro H locs LS S
  have hO := S.2.2.2.2
  exact lv_iload_n C.1 C.2.1 hd rfl (S.2.2.1.2.2.2 _ _ (jx_g_get hg (fun h => by cases h))) (K H locs LS (S.st hO.i))
theorem jy_iload (C : jx_C p s m args c G L xs cc nL own n0) {k : Nat} {x : Int32} (hg : jm_g ls k = .inl x) (hd : decode cc pc = .ok (.iload k, 2)) (K : jx_J p l e R s m args below meth c Q G L xs md n0 nL (pc + 2) ls (.inl x :: st) μ) : jx_J p l e R s m args below meth c Q G L xs md n0 nL (pc) ls st μ := by
  intro H locs LS S
  have hO := S.2.2.2.2
  exact lv_iload C.1 C.2.1 hd (S.2.2.1.2.2.2 _ _ (jx_g_get hg (fun h => by cases h))) (K H locs LS (S.st hO.i))
theorem jy_lload_n (C : jx_C p s m args c G L xs cc nL own n0) {k : Fin 4} {x : Int64} (hg : jm_g ls k = .inr (.inl x)) (hg2 : ls[(k : Nat) + 1]? = some jm_j) (hd : decode cc pc = .ok (.lload_n k, 1)) (K : jx_J p l e R s m args below meth c Q G L xs md n0 nL (pc + 1) ls (.inr (.inl x) :: st) μ) : jx_J p l e R s m args below meth c Q G L xs md n0 nL (pc) ls st μ := by
  intro H locs LS S
  have hO := S.2.2.2.2
  exact lv_lload_n C.1 C.2.1 hd rfl (S.2.2.1.2.2.2 _ _ (jx_g_get hg (fun h => by cases h)) hg2) (K H locs LS (S.st hO.l))
theorem jy_lload (C : jx_C p s m args c G L xs cc nL own n0) {k : Nat} {x : Int64} (hg : jm_g ls k = .inr (.inl x)) (hg2 : ls[(k : Nat) + 1]? = some jm_j) (hd : decode cc pc = .ok (.lload k, 2)) (K : jx_J p l e R s m args below meth c Q G L xs md n0 nL (pc + 2) ls (.inr (.inl x) :: st) μ) : jx_J p l e R s m args below meth c Q G L xs md n0 nL (pc) ls st μ := by
  intro H locs LS S
  have hO := S.2.2.2.2
  exact lv_lload C.1 C.2.1 hd (S.2.2.1.2.2.2 _ _ (jx_g_get hg (fun h => by cases h)) hg2) (K H locs LS (S.st hO.l))
theorem jy_aload_n (C : jx_C p s m args c G L xs cc nL own n0) {k : Fin 4} {x : jm_Rf} (hg : jm_g ls k = .inr (.inr (.inl x))) (hd : decode cc pc = .ok (.aload_n k, 1)) (K : jx_J p l e R s m args below meth c Q G L xs md n0 nL (pc + 1) ls (.inr (.inr (.inl x)) :: st) μ) : jx_J p l e R s m args below meth c Q G L xs md n0 nL (pc) ls st μ := by
  intro H locs LS S
  have hO := S.2.2.2.2
  have h1 := jx_g_get hg (fun h => by cases h)
  have h2 := S.2.2.1.2.2.2 _ _ h1
  have h3 := K H locs LS (S.st (jx_oks_cons (S.2.2.2.1 _ (List.mem_of_getElem? h1)) hO))
  have h3 : W p l e R s m args below meth c H locs (jm_cnt md μ - n0) (8600 * (jm_cnt md μ - n0)) Q (F0 m (pc + 1) LS (jx_ad G x :: st.map (jx_v G))) := h3
  have h2 : LS[(k : Nat)]? = some (.val (jx_ad G x)) := h2
  rcases jx_ad_cases C.2.2.2.2.2.1.2.2.2.2.2.2.2.2 x with h | ⟨a, h⟩ <;> rw [h] at h2 h3
  · exact lv_aload_nN C.1 C.2.1 hd rfl h2 h3
  · exact lv_aload_n C.1 C.2.1 hd rfl h2 h3
theorem jy_aload (C : jx_C p s m args c G L xs cc nL own n0) {k : Nat} {x : jm_Rf} (hg : jm_g ls k = .inr (.inr (.inl x))) (hd : decode cc pc = .ok (.aload k, 2)) (K : jx_J p l e R s m args below meth c Q G L xs md n0 nL (pc + 2) ls (.inr (.inr (.inl x)) :: st) μ) : jx_J p l e R s m args below meth c Q G L xs md n0 nL (pc) ls st μ := by
  intro H locs LS S
  have hO := S.2.2.2.2
  have h1 := jx_g_get hg (fun h => by cases h)
  have h2 := S.2.2.1.2.2.2 _ _ h1
  have h3 := K H locs LS (S.st (jx_oks_cons (S.2.2.2.1 _ (List.mem_of_getElem? h1)) hO))
  have h3 : W p l e R s m args below meth c H locs (jm_cnt md μ - n0) (8600 * (jm_cnt md μ - n0)) Q (F0 m (pc + 2) LS (jx_ad G x :: st.map (jx_v G))) := h3
  have h2 : LS[(k : Nat)]? = some (.val (jx_ad G x)) := h2
  rcases jx_ad_cases C.2.2.2.2.2.1.2.2.2.2.2.2.2.2 x with h | ⟨a, h⟩ <;> rw [h] at h2 h3
  · exact lv_aloadN C.1 C.2.1 hd h2 h3
  · exact lv_aload C.1 C.2.1 hd h2 h3
theorem jy_istore_n (C : jx_C p s m args c G L xs cc nL own n0) {k : Fin 4} {x : Int32} (hk : (k : Nat) < ls.length) (hd : decode cc pc = .ok (.istore_n k, 1)) (K : jx_J p l e R s m args below meth c Q G L xs md n0 nL (pc + 1) (jm_l1 ls k (.inl x)) st μ) : jx_J p l e R s m args below meth c Q G L xs md n0 nL (pc) ls (.inl x :: st) μ := by
  intro H locs LS S
  have hO := S.2.2.2.2
  have hk : (k : Nat) < nL := by rw [← S.2.2.1.1]; exact hk
  exact lv_istore_n C.1 C.2.1 hd rfl (jx_ls_has S.2.2.1) hk rfl (fun LS' h' => K H locs LS' ⟨S.1, S.2.1, jx_ls_1 C.2.2.2.2.2.1.2.2.2.2.2.2.2.2 S.2.2.1 hk (Or.inl ⟨x, rfl, rfl⟩) h', S.2.2.2.1.set trivial, hO.t⟩)
theorem jy_istore (C : jx_C p s m args c G L xs cc nL own n0) {k : Nat} {x : Int32} (hk : (k : Nat) < ls.length) (hd : decode cc pc = .ok (.istore k, 2)) (K : jx_J p l e R s m args below meth c Q G L xs md n0 nL (pc + 2) (jm_l1 ls k (.inl x)) st μ) : jx_J p l e R s m args below meth c Q G L xs md n0 nL (pc) ls (.inl x :: st) μ := by
  intro H locs LS S
  have hO := S.2.2.2.2
  have hk : (k : Nat) < nL := by rw [← S.2.2.1.1]; exact hk
  exact lv_istore C.1 C.2.1 hd (jx_ls_has S.2.2.1) hk rfl (fun LS' h' => K H locs LS' ⟨S.1, S.2.1, jx_ls_1 C.2.2.2.2.2.1.2.2.2.2.2.2.2.2 S.2.2.1 hk (Or.inl ⟨x, rfl, rfl⟩) h', S.2.2.2.1.set trivial, hO.t⟩)
theorem jy_lstore_n (C : jx_C p s m args c G L xs cc nL own n0) {k : Fin 4} {x : Int64} (hk : (k : Nat) + 1 < ls.length) (hd : decode cc pc = .ok (.lstore_n k, 1)) (K : jx_J p l e R s m args below meth c Q G L xs md n0 nL (pc + 1) (jm_l2 ls k (.inr (.inl x))) st μ) : jx_J p l e R s m args below meth c Q G L xs md n0 nL (pc) ls (.inr (.inl x) :: st) μ := by
  intro H locs LS S
  have hO := S.2.2.2.2
  have hk : (k : Nat) + 1 < nL := by rw [← S.2.2.1.1]; exact hk
  exact lv_lstore_n C.1 C.2.1 hd rfl (jx_ls_has S.2.2.1) hk rfl (fun LS' h' => K H locs LS' ⟨S.1, S.2.1, jx_ls_2 C.2.2.2.2.2.1.2.2.2.2.2.2.2.2 S.2.2.1 hk h', jx_oks.set (v := jm_j) (jx_oks.set (v := .inr (.inl x)) S.2.2.2.1 trivial) trivial, hO.t⟩)
theorem jy_lstore (C : jx_C p s m args c G L xs cc nL own n0) {k : Nat} {x : Int64} (hk : (k : Nat) + 1 < ls.length) (hd : decode cc pc = .ok (.lstore k, 2)) (K : jx_J p l e R s m args below meth c Q G L xs md n0 nL (pc + 2) (jm_l2 ls k (.inr (.inl x))) st μ) : jx_J p l e R s m args below meth c Q G L xs md n0 nL (pc) ls (.inr (.inl x) :: st) μ := by
  intro H locs LS S
  have hO := S.2.2.2.2
  have hk : (k : Nat) + 1 < nL := by rw [← S.2.2.1.1]; exact hk
  exact lv_lstore C.1 C.2.1 hd (jx_ls_has S.2.2.1) hk rfl (fun LS' h' => K H locs LS' ⟨S.1, S.2.1, jx_ls_2 C.2.2.2.2.2.1.2.2.2.2.2.2.2.2 S.2.2.1 hk h', jx_oks.set (v := jm_j) (jx_oks.set (v := .inr (.inl x)) S.2.2.2.1 trivial) trivial, hO.t⟩)
theorem jy_astore_n (C : jx_C p s m args c G L xs cc nL own n0) {k : Fin 4} {x : jm_Rf} (hk : (k : Nat) < ls.length) (hd : decode cc pc = .ok (.astore_n k, 1)) (K : jx_J p l e R s m args below meth c Q G L xs md n0 nL (pc + 1) (jm_l1 ls k (.inr (.inr (.inl x)))) st μ) : jx_J p l e R s m args below meth c Q G L xs md n0 nL (pc) ls (.inr (.inr (.inl x)) :: st) μ := by
  intro H locs LS S
  have hO := S.2.2.2.2
  have hk : (k : Nat) < nL := by rw [← S.2.2.1.1]; exact hk
  have hsv := C.2.2.2.2.2.1.2.2.2.2.2.2.2.2
  have K2 : ∀ (w : Value), w = jx_ad G x → ∀ LS', lv_has LS' nL (((k : Nat), w) :: (jx_kn G ls).filter (fun q => !(q.1 == (k : Nat)) && !(q.1 + 1 == (k : Nat) && q.2.category == 2))) → W p l e R s m args below meth c H locs (jm_cnt md μ - n0) (8600 * (jm_cnt md μ - n0)) Q (F0 m (pc + 1) LS' (st.map (jx_v G))) := fun w hw LS' h' => K H locs LS' ⟨S.1, S.2.1, jx_ls_1 hsv S.2.2.1 hk (Or.inr ⟨x, rfl, hw⟩) h', S.2.2.2.1.set hO.h, hO.t⟩
  show W p l e R s m args below meth c H locs _ _ Q (F0 m pc LS (jx_ad G x :: st.map (jx_v G)))
  rcases jx_ad_cases hsv x with h | ⟨a, h⟩ <;> rw [h] at K2 ⊢
  · exact lv_astore_nN C.1 C.2.1 hd rfl (jx_ls_has S.2.2.1) hk rfl (K2 _ rfl)
  · exact lv_astore_n C.1 C.2.1 hd rfl (jx_ls_has S.2.2.1) hk rfl (K2 _ rfl)
theorem jy_astore (C : jx_C p s m args c G L xs cc nL own n0) {k : Nat} {x : jm_Rf} (hk : (k : Nat) < ls.length) (hd : decode cc pc = .ok (.astore k, 2)) (K : jx_J p l e R s m args below meth c Q G L xs md n0 nL (pc + 2) (jm_l1 ls k (.inr (.inr (.inl x)))) st μ) : jx_J p l e R s m args below meth c Q G L xs md n0 nL (pc) ls (.inr (.inr (.inl x)) :: st) μ := by
  intro H locs LS S
  have hO := S.2.2.2.2
  have hk : (k : Nat) < nL := by rw [← S.2.2.1.1]; exact hk
  have hsv := C.2.2.2.2.2.1.2.2.2.2.2.2.2.2
  have K2 : ∀ (w : Value), w = jx_ad G x → ∀ LS', lv_has LS' nL (((k : Nat), w) :: (jx_kn G ls).filter (fun q => !(q.1 == (k : Nat)) && !(q.1 + 1 == (k : Nat) && q.2.category == 2))) → W p l e R s m args below meth c H locs (jm_cnt md μ - n0) (8600 * (jm_cnt md μ - n0)) Q (F0 m (pc + 2) LS' (st.map (jx_v G))) := fun w hw LS' h' => K H locs LS' ⟨S.1, S.2.1, jx_ls_1 hsv S.2.2.1 hk (Or.inr ⟨x, rfl, hw⟩) h', S.2.2.2.1.set hO.h, hO.t⟩
  show W p l e R s m args below meth c H locs _ _ Q (F0 m pc LS (jx_ad G x :: st.map (jx_v G)))
  rcases jx_ad_cases hsv x with h | ⟨a, h⟩ <;> rw [h] at K2 ⊢
  · exact lv_astoreN C.1 C.2.1 hd (jx_ls_has S.2.2.1) hk rfl (K2 _ rfl)
  · exact lv_astore C.1 C.2.1 hd (jx_ls_has S.2.2.1) hk rfl (K2 _ rfl)
theorem jy_iinc (C : jx_C p s m args c G L xs cc nL own n0) {k : Nat} {n : Int} {x : Int32} (hg : jm_g ls k = .inl x) (hk : k < ls.length) (hd : decode cc pc = .ok (.iinc k n, 3)) (K : jx_J p l e R s m args below meth c Q G L xs md n0 nL (pc + 3) (jm_l1 ls k (.inl (x + Int32.ofInt n))) st μ) : jx_J p l e R s m args below meth c Q G L xs md n0 nL (pc) ls st μ := by
  intro H locs LS S
  have hO := S.2.2.2.2
  have hk : k < nL := by rw [← S.2.2.1.1]; exact hk
  obtain ⟨j, hj⟩ := List.getElem?_of_mem (jx_kn_int (G := G) (jx_g_get hg (fun h => by cases h)))
  exact lv_iinc C.1 C.2.1 hd (jx_ls_has S.2.2.1) hj rfl hk rfl (fun LS' h' => K H locs LS' ⟨S.1, S.2.1, jx_ls_1 C.2.2.2.2.2.1.2.2.2.2.2.2.2.2 S.2.2.1 hk (Or.inl ⟨_, rfl, rfl⟩) h', S.2.2.2.1.set trivial, hO⟩)
theorem jy_iadd (C : jx_C p s m args c G L xs cc nL own n0) {y : Int32} {x : Int32} (hd : decode cc pc = .ok (.iadd, 1)) (K : jx_J p l e R s m args below meth c Q G L xs md n0 nL (pc + 1) ls (.inl (x + y) :: st) μ) : jx_J p l e R s m args below meth c Q G L xs md n0 nL (pc) ls (.inl y :: .inl x :: st) μ := by
  intro H locs LS S
  have hO := S.2.2.2.2
  exact lv_iadd C.1 C.2.1 hd (K H locs LS (S.st hO.t.t.i))
theorem jy_isub (C : jx_C p s m args c G L xs cc nL own n0) {y : Int32} {x : Int32} (hd : decode cc pc = .ok (.isub, 1)) (K : jx_J p l e R s m args below meth c Q G L xs md n0 nL (pc + 1) ls (.inl (x - y) :: st) μ) : jx_J p l e R s m args below meth c Q G L xs md n0 nL (pc) ls (.inl y :: .inl x :: st) μ := by
  intro H locs LS S
  have hO := S.2.2.2.2
  exact lv_isub C.1 C.2.1 hd (K H locs LS (S.st hO.t.t.i))
theorem jy_imul (C : jx_C p s m args c G L xs cc nL own n0) {y : Int32} {x : Int32} (hd : decode cc pc = .ok (.imul, 1)) (K : jx_J p l e R s m args below meth c Q G L xs md n0 nL (pc + 1) ls (.inl (x * y) :: st) μ) : jx_J p l e R s m args below meth c Q G L xs md n0 nL (pc) ls (.inl y :: .inl x :: st) μ := by
  intro H locs LS S
  have hO := S.2.2.2.2
  exact lv_imul C.1 C.2.1 hd (K H locs LS (S.st hO.t.t.i))
theorem jy_iand (C : jx_C p s m args c G L xs cc nL own n0) {y : Int32} {x : Int32} (hd : decode cc pc = .ok (.iand, 1)) (K : jx_J p l e R s m args below meth c Q G L xs md n0 nL (pc + 1) ls (.inl (x &&& y) :: st) μ) : jx_J p l e R s m args below meth c Q G L xs md n0 nL (pc) ls (.inl y :: .inl x :: st) μ := by
  intro H locs LS S
  have hO := S.2.2.2.2
  exact lv_iand C.1 C.2.1 hd (K H locs LS (S.st hO.t.t.i))
theorem jy_ior (C : jx_C p s m args c G L xs cc nL own n0) {y : Int32} {x : Int32} (hd : decode cc pc = .ok (.ior, 1)) (K : jx_J p l e R s m args below meth c Q G L xs md n0 nL (pc + 1) ls (.inl (x ||| y) :: st) μ) : jx_J p l e R s m args below meth c Q G L xs md n0 nL (pc) ls (.inl y :: .inl x :: st) μ := by
  intro H locs LS S
  have hO := S.2.2.2.2
  exact lv_ior C.1 C.2.1 hd (K H locs LS (S.st hO.t.t.i))
theorem jy_ixor (C : jx_C p s m args c G L xs cc nL own n0) {y : Int32} {x : Int32} (hd : decode cc pc = .ok (.ixor, 1)) (K : jx_J p l e R s m args below meth c Q G L xs md n0 nL (pc + 1) ls (.inl (x ^^^ y) :: st) μ) : jx_J p l e R s m args below meth c Q G L xs md n0 nL (pc) ls (.inl y :: .inl x :: st) μ := by
  intro H locs LS S
  have hO := S.2.2.2.2
  exact lv_ixor C.1 C.2.1 hd (K H locs LS (S.st hO.t.t.i))
theorem jy_idiv (C : jx_C p s m args c G L xs cc nL own n0) {y : Int32} {x : Int32} (hy : ¬ y = 0) (hd : decode cc pc = .ok (.idiv, 1)) (K : jx_J p l e R s m args below meth c Q G L xs md n0 nL (pc + 1) ls (.inl (x / y) :: st) μ) : jx_J p l e R s m args below meth c Q G L xs md n0 nL (pc) ls (.inl y :: .inl x :: st) μ := by
  intro H locs LS S
  have hO := S.2.2.2.2
  exact lv_idiv C.1 C.2.1 hd hy (K H locs LS (S.st hO.t.t.i))
theorem jy_irem (C : jx_C p s m args c G L xs cc nL own n0) {y : Int32} {x : Int32} (hy : ¬ y = 0) (hd : decode cc pc = .ok (.irem, 1)) (K : jx_J p l e R s m args below meth c Q G L xs md n0 nL (pc + 1) ls (.inl (x - x / y * y) :: st) μ) : jx_J p l e R s m args below meth c Q G L xs md n0 nL (pc) ls (.inl y :: .inl x :: st) μ := by
  intro H locs LS S
  have hO := S.2.2.2.2
  exact lv_irem C.1 C.2.1 hd hy (K H locs LS (S.st hO.t.t.i))
theorem jy_ishl (C : jx_C p s m args c G L xs cc nL own n0) {y : Int32} {x : Int32} (hd : decode cc pc = .ok (.ishl, 1)) (K : jx_J p l e R s m args below meth c Q G L xs md n0 nL (pc + 1) ls (.inl (x <<< (y &&& 31)) :: st) μ) : jx_J p l e R s m args below meth c Q G L xs md n0 nL (pc) ls (.inl y :: .inl x :: st) μ := by
  intro H locs LS S
  have hO := S.2.2.2.2
  exact lv_ishl C.1 C.2.1 hd (K H locs LS (S.st hO.t.t.i))
theorem jy_ishr (C : jx_C p s m args c G L xs cc nL own n0) {y : Int32} {x : Int32} (hd : decode cc pc = .ok (.ishr, 1)) (K : jx_J p l e R s m args below meth c Q G L xs md n0 nL (pc + 1) ls (.inl (x >>> (y &&& 31)) :: st) μ) : jx_J p l e R s m args below meth c Q G L xs md n0 nL (pc) ls (.inl y :: .inl x :: st) μ := by
  intro H locs LS S
  have hO := S.2.2.2.2
  exact lv_ishr C.1 C.2.1 hd (K H locs LS (S.st hO.t.t.i))
theorem jy_iushr (C : jx_C p s m args c G L xs cc nL own n0) {y : Int32} {x : Int32} (hd : decode cc pc = .ok (.iushr, 1)) (K : jx_J p l e R s m args below meth c Q G L xs md n0 nL (pc + 1) ls (.inl (x.toUInt32 >>> (y.toUInt32 &&& Int32.toUInt32 31)).toInt32 :: st) μ) : jx_J p l e R s m args below meth c Q G L xs md n0 nL (pc) ls (.inl y :: .inl x :: st) μ := by
  intro H locs LS S
  have hO := S.2.2.2.2
  exact lv_iushr C.1 C.2.1 hd rfl (K H locs LS (S.st hO.t.t.i))
theorem jy_ladd (C : jx_C p s m args c G L xs cc nL own n0) {y : Int64} {x : Int64} (hd : decode cc pc = .ok (.ladd, 1)) (K : jx_J p l e R s m args below meth c Q G L xs md n0 nL (pc + 1) ls (.inr (.inl (x + y)) :: st) μ) : jx_J p l e R s m args below meth c Q G L xs md n0 nL (pc) ls (.inr (.inl y) :: .inr (.inl x) :: st) μ := by
  intro H locs LS S
  have hO := S.2.2.2.2
  exact lv_ladd C.1 C.2.1 hd (K H locs LS (S.st hO.t.t.l))
theorem jy_lsub (C : jx_C p s m args c G L xs cc nL own n0) {y : Int64} {x : Int64} (hd : decode cc pc = .ok (.lsub, 1)) (K : jx_J p l e R s m args below meth c Q G L xs md n0 nL (pc + 1) ls (.inr (.inl (x - y)) :: st) μ) : jx_J p l e R s m args below meth c Q G L xs md n0 nL (pc) ls (.inr (.inl y) :: .inr (.inl x) :: st) μ := by
  intro H locs LS S
  have hO := S.2.2.2.2
  exact lv_lsub C.1 C.2.1 hd (K H locs LS (S.st hO.t.t.l))
theorem jy_lmul (C : jx_C p s m args c G L xs cc nL own n0) {y : Int64} {x : Int64} (hd : decode cc pc = .ok (.lmul, 1)) (K : jx_J p l e R s m args below meth c Q G L xs md n0 nL (pc + 1) ls (.inr (.inl (x * y)) :: st) μ) : jx_J p l e R s m args below meth c Q G L xs md n0 nL (pc) ls (.inr (.inl y) :: .inr (.inl x) :: st) μ := by
  intro H locs LS S
  have hO := S.2.2.2.2
  exact lv_lmul C.1 C.2.1 hd (K H locs LS (S.st hO.t.t.l))
theorem jy_land (C : jx_C p s m args c G L xs cc nL own n0) {y : Int64} {x : Int64} (hd : decode cc pc = .ok (.land, 1)) (K : jx_J p l e R s m args below meth c Q G L xs md n0 nL (pc + 1) ls (.inr (.inl (x &&& y)) :: st) μ) : jx_J p l e R s m args below meth c Q G L xs md n0 nL (pc) ls (.inr (.inl y) :: .inr (.inl x) :: st) μ := by
  intro H locs LS S
  have hO := S.2.2.2.2
  exact lv_land C.1 C.2.1 hd (K H locs LS (S.st hO.t.t.l))
theorem jy_lor (C : jx_C p s m args c G L xs cc nL own n0) {y : Int64} {x : Int64} (hd : decode cc pc = .ok (.lor, 1)) (K : jx_J p l e R s m args below meth c Q G L xs md n0 nL (pc + 1) ls (.inr (.inl (x ||| y)) :: st) μ) : jx_J p l e R s m args below meth c Q G L xs md n0 nL (pc) ls (.inr (.inl y) :: .inr (.inl x) :: st) μ := by
  intro H locs LS S
  have hO := S.2.2.2.2
  exact lv_lor C.1 C.2.1 hd (K H locs LS (S.st hO.t.t.l))
theorem jy_ldiv (C : jx_C p s m args c G L xs cc nL own n0) {y : Int64} {x : Int64} (hy : ¬ y = 0) (hd : decode cc pc = .ok (.ldiv, 1)) (K : jx_J p l e R s m args below meth c Q G L xs md n0 nL (pc + 1) ls (.inr (.inl (x / y)) :: st) μ) : jx_J p l e R s m args below meth c Q G L xs md n0 nL (pc) ls (.inr (.inl y) :: .inr (.inl x) :: st) μ := by
  intro H locs LS S
  have hO := S.2.2.2.2
  exact lv_ldiv C.1 C.2.1 hd hy (K H locs LS (S.st hO.t.t.l))
theorem jy_lrem (C : jx_C p s m args c G L xs cc nL own n0) {y : Int64} {x : Int64} (hy : ¬ y = 0) (hd : decode cc pc = .ok (.lrem, 1)) (K : jx_J p l e R s m args below meth c Q G L xs md n0 nL (pc + 1) ls (.inr (.inl (x - x / y * y)) :: st) μ) : jx_J p l e R s m args below meth c Q G L xs md n0 nL (pc) ls (.inr (.inl y) :: .inr (.inl x) :: st) μ := by
  intro H locs LS S
  have hO := S.2.2.2.2
  exact lv_lrem C.1 C.2.1 hd hy (K H locs LS (S.st hO.t.t.l))
theorem jy_lshl (C : jx_C p s m args c G L xs cc nL own n0) {y : Int32} {x : Int64} (hd : decode cc pc = .ok (.lshl, 1)) (K : jx_J p l e R s m args below meth c Q G L xs md n0 nL (pc + 1) ls (.inr (.inl (x <<< (y.toInt64 &&& 63))) :: st) μ) : jx_J p l e R s m args below meth c Q G L xs md n0 nL (pc) ls (.inl y :: .inr (.inl x) :: st) μ := by
  intro H locs LS S
  have hO := S.2.2.2.2
  exact lv_lshl C.1 C.2.1 hd rfl (K H locs LS (S.st hO.t.t.l))
theorem jy_lshr (C : jx_C p s m args c G L xs cc nL own n0) {y : Int32} {x : Int64} (hd : decode cc pc = .ok (.lshr, 1)) (K : jx_J p l e R s m args below meth c Q G L xs md n0 nL (pc + 1) ls (.inr (.inl (x >>> (y.toInt64 &&& 63))) :: st) μ) : jx_J p l e R s m args below meth c Q G L xs md n0 nL (pc) ls (.inl y :: .inr (.inl x) :: st) μ := by
  intro H locs LS S
  have hO := S.2.2.2.2
  exact lv_lshr C.1 C.2.1 hd rfl (K H locs LS (S.st hO.t.t.l))
theorem jy_lushr (C : jx_C p s m args c G L xs cc nL own n0) {y : Int32} {x : Int64} (hd : decode cc pc = .ok (.lushr, 1)) (K : jx_J p l e R s m args below meth c Q G L xs md n0 nL (pc + 1) ls (.inr (.inl (x.toUInt64 >>> (y.toInt64.toUInt64 &&& Int64.toUInt64 63)).toInt64) :: st) μ) : jx_J p l e R s m args below meth c Q G L xs md n0 nL (pc) ls (.inl y :: .inr (.inl x) :: st) μ := by
  intro H locs LS S
  have hO := S.2.2.2.2
  exact lv_lushr C.1 C.2.1 hd rfl (K H locs LS (S.st hO.t.t.l))
theorem jy_lcmp (C : jx_C p s m args c G L xs cc nL own n0) {y : Int64} {x : Int64} (hd : decode cc pc = .ok (.lcmp, 1)) (K : jx_J p l e R s m args below meth c Q G L xs md n0 nL (pc + 1) ls (.inl (lg_cmp x y) :: st) μ) : jx_J p l e R s m args below meth c Q G L xs md n0 nL (pc) ls (.inr (.inl y) :: .inr (.inl x) :: st) μ := by
  intro H locs LS S
  have hO := S.2.2.2.2
  exact W.lcmp C.1 C.2.1 hd (K H locs LS (S.st hO.t.t.i))
theorem jy_i2l (C : jx_C p s m args c G L xs cc nL own n0) {x : Int32} (hd : decode cc pc = .ok (.i2l, 1)) (K : jx_J p l e R s m args below meth c Q G L xs md n0 nL (pc + 1) ls (.inr (.inl x.toInt64) :: st) μ) : jx_J p l e R s m args below meth c Q G L xs md n0 nL (pc) ls (.inl x :: st) μ := by
  intro H locs LS S
  have hO := S.2.2.2.2
  exact lv_i2l C.1 C.2.1 hd rfl (K H locs LS (S.st hO.t.l))
theorem jy_l2i (C : jx_C p s m args c G L xs cc nL own n0) {x : Int64} (hd : decode cc pc = .ok (.l2i, 1)) (K : jx_J p l e R s m args below meth c Q G L xs md n0 nL (pc + 1) ls (.inl x.toInt32 :: st) μ) : jx_J p l e R s m args below meth c Q G L xs md n0 nL (pc) ls (.inr (.inl x) :: st) μ := by
  intro H locs LS S
  have hO := S.2.2.2.2
  exact lv_l2i C.1 C.2.1 hd rfl (K H locs LS (S.st hO.t.i))
theorem jy_i2b (C : jx_C p s m args c G L xs cc nL own n0) {x : Int32} (hd : decode cc pc = .ok (.i2b, 1)) (K : jx_J p l e R s m args below meth c Q G L xs md n0 nL (pc + 1) ls (.inl x.toInt8.toInt32 :: st) μ) : jx_J p l e R s m args below meth c Q G L xs md n0 nL (pc) ls (.inl x :: st) μ := by
  intro H locs LS S
  have hO := S.2.2.2.2
  exact lv_i2b C.1 C.2.1 hd rfl (K H locs LS (S.st hO.t.i))
theorem jy_i2s (C : jx_C p s m args c G L xs cc nL own n0) {x : Int32} (hd : decode cc pc = .ok (.i2s, 1)) (K : jx_J p l e R s m args below meth c Q G L xs md n0 nL (pc + 1) ls (.inl x.toInt16.toInt32 :: st) μ) : jx_J p l e R s m args below meth c Q G L xs md n0 nL (pc) ls (.inl x :: st) μ := by
  intro H locs LS S
  have hO := S.2.2.2.2
  exact lv_i2s C.1 C.2.1 hd rfl (K H locs LS (S.st hO.t.i))
theorem jy_i2c (C : jx_C p s m args c G L xs cc nL own n0) {x : Int32} (hd : decode cc pc = .ok (.i2c, 1)) (K : jx_J p l e R s m args below meth c Q G L xs md n0 nL (pc + 1) ls (.inl (x.toUInt32 % 65536).toInt32 :: st) μ) : jx_J p l e R s m args below meth c Q G L xs md n0 nL (pc) ls (.inl x :: st) μ := by
  intro H locs LS S
  have hO := S.2.2.2.2
  exact lv_i2c C.1 C.2.1 hd rfl (K H locs LS (S.st hO.t.i))
theorem jy_dup (C : jx_C p s m args c G L xs cc nL own n0) {v : jm_V} (hv : (jx_v G v).category = 1) (hd : decode cc pc = .ok (.dup, 1)) (K : jx_J p l e R s m args below meth c Q G L xs md n0 nL (pc + 1) ls (v :: v :: st) μ) : jx_J p l e R s m args below meth c Q G L xs md n0 nL (pc) ls (v :: st) μ := by
  intro H locs LS S
  have hO := S.2.2.2.2
  exact lv_dup C.1 C.2.1 hd hv (K H locs LS (S.st (jx_oks_cons hO.h hO)))
theorem jy_pop (C : jx_C p s m args c G L xs cc nL own n0) {v : jm_V} (hv : (jx_v G v).category = 1) (hd : decode cc pc = .ok (.pop, 1)) (K : jx_J p l e R s m args below meth c Q G L xs md n0 nL (pc + 1) ls st μ) : jx_J p l e R s m args below meth c Q G L xs md n0 nL (pc) ls (v :: st) μ := by
  intro H locs LS S
  have hO := S.2.2.2.2
  exact lv_pop C.1 C.2.1 hd hv (K H locs LS (S.st hO.t))
theorem jy_dup2l (C : jx_C p s m args c G L xs cc nL own n0) {x : Int64} (hd : decode cc pc = .ok (.dup2, 1)) (K : jx_J p l e R s m args below meth c Q G L xs md n0 nL (pc + 1) ls (.inr (.inl x) :: .inr (.inl x) :: st) μ) : jx_J p l e R s m args below meth c Q G L xs md n0 nL (pc) ls (.inr (.inl x) :: st) μ := by
  intro H locs LS S
  have hO := S.2.2.2.2
  exact lv_dup2_2 C.1 C.2.1 hd rfl (K H locs LS (S.st hO.l))
theorem jy_dup2 (C : jx_C p s m args c G L xs cc nL own n0) {v w : jm_V} (hv : (jx_v G v).category = 1) (hw : (jx_v G w).category = 1) (hd : decode cc pc = .ok (.dup2, 1)) (K : jx_J p l e R s m args below meth c Q G L xs md n0 nL (pc + 1) ls (v :: w :: v :: w :: st) μ) : jx_J p l e R s m args below meth c Q G L xs md n0 nL (pc) ls (v :: w :: st) μ := by
  intro H locs LS S
  have hO := S.2.2.2.2
  exact lv_dup2_11 C.1 C.2.1 hd hv hw (K H locs LS (S.st (jx_oks_cons hO.h (jx_oks_cons hO.t.h hO))))
theorem jx_tgt {pc : Nat} {off : Int} (h : 0 ≤ (pc : Int) + off) : (pc : Int) + off = ((jm_tg pc off : Nat) : Int) := by
  unfold jm_tg
  omega
theorem jy_ifCond (C : jx_C p s m args c G L xs cc nL own n0) {cn : ClassFile.Cond} {off : Int} {x : Int32} (hd : decode cc pc = .ok (.ifCond cn off, 3)) (ht : 0 ≤ (pc : Int) + off) (K1 : jm_c1 cn x = true → jx_J p l e R s m args below meth c Q G L xs md n0 nL (jm_tg pc off) ls st μ) (K2 : jm_c1 cn x = false → jx_J p l e R s m args below meth c Q G L xs md n0 nL (pc + 3) ls st μ) : jx_J p l e R s m args below meth c Q G L xs md n0 nL (pc) ls (.inl x :: st) μ := by
  intro H locs LS S
  have hO := S.2.2.2.2
  cases cn with
  | eq => exact lv_if_eq C.1 C.2.1 hd (jx_tgt ht) (fun h => K1 (by simpa [jm_c1] using h) H locs LS (S.st hO.t)) (fun h => K2 (by simpa [jm_c1] using h) H locs LS (S.st hO.t))
  | ne => exact lv_if_ne C.1 C.2.1 hd (jx_tgt ht) (fun h => K1 (by simpa [jm_c1] using h) H locs LS (S.st hO.t)) (fun h => K2 (by simpa [jm_c1] using h) H locs LS (S.st hO.t))
  | lt => exact lv_if_lt C.1 C.2.1 hd (jx_tgt ht) (fun h => K1 (by simpa [jm_c1] using h) H locs LS (S.st hO.t)) (fun h => K2 (by simpa [jm_c1] using h) H locs LS (S.st hO.t))
  | ge => exact lv_if_ge C.1 C.2.1 hd (jx_tgt ht) (fun h => K1 (by simpa [jm_c1] using h) H locs LS (S.st hO.t)) (fun h => K2 (by simpa [jm_c1] using h) H locs LS (S.st hO.t))
  | gt => exact lv_if_gt C.1 C.2.1 hd (jx_tgt ht) (fun h => K1 (by simpa [jm_c1] using h) H locs LS (S.st hO.t)) (fun h => K2 (by simpa [jm_c1] using h) H locs LS (S.st hO.t))
  | le => exact lv_if_le C.1 C.2.1 hd (jx_tgt ht) (fun h => K1 (by simpa [jm_c1] using h) H locs LS (S.st hO.t)) (fun h => K2 (by simpa [jm_c1] using h) H locs LS (S.st hO.t))
theorem jx_dec_iff {p : Prop} : jm_dec p = true ↔ p := by
  unfold jm_dec
  exact @decide_eq_true_iff p (Classical.propDecidable p)
theorem jx_dc {md : Bool} {p : Prop} [Decidable p] : jm_dc md p = decide p := by
  cases md with
  | true => rfl
  | false =>
    show jm_dec p = decide p
    by_cases h : p
    · rw [jx_dec_iff.mpr h]; simp [h]
    · have : jm_dec p ≠ true := fun q => h (jx_dec_iff.mp q)
      rw [decide_eq_false h]
      simpa using this
theorem jy_if_icmp (C : jx_C p s m args c G L xs cc nL own n0) {cn : ClassFile.Cond} {off : Int} {x y : Int32} (hd : decode cc pc = .ok (.if_icmp cn off, 3)) (ht : 0 ≤ (pc : Int) + off) (K1 : jm_c2 md cn x y = true → jx_J p l e R s m args below meth c Q G L xs md n0 nL (jm_tg pc off) ls st μ) (K2 : jm_c2 md cn x y = false → jx_J p l e R s m args below meth c Q G L xs md n0 nL (pc + 3) ls st μ) : jx_J p l e R s m args below meth c Q G L xs md n0 nL (pc) ls (.inl y :: .inl x :: st) μ := by
  intro H locs LS S
  have hO := S.2.2.2.2
  cases cn with
  | eq => exact lv_icmp_eq C.1 C.2.1 hd (jx_tgt ht) (fun h => K1 (by simpa [jm_c2, jx_dc] using h) H locs LS (S.st hO.t.t)) (fun h => K2 (by simpa [jm_c2, jx_dc] using h) H locs LS (S.st hO.t.t))
  | ne => exact lv_icmp_ne C.1 C.2.1 hd (jx_tgt ht) (fun h => K1 (by simpa [jm_c2, jx_dc] using h) H locs LS (S.st hO.t.t)) (fun h => K2 (by simpa [jm_c2, jx_dc] using h) H locs LS (S.st hO.t.t))
  | lt => exact lv_icmp_lt C.1 C.2.1 hd (jx_tgt ht) (fun h => K1 (by simpa [jm_c2, jx_dc] using h) H locs LS (S.st hO.t.t)) (fun h => K2 (by simpa [jm_c2, jx_dc] using h) H locs LS (S.st hO.t.t))
  | ge => exact lv_icmp_ge C.1 C.2.1 hd (jx_tgt ht) (fun h => K1 (by simpa [jm_c2, jx_dc] using h) H locs LS (S.st hO.t.t)) (fun h => K2 (by simpa [jm_c2, jx_dc] using h) H locs LS (S.st hO.t.t))
  | gt => exact lv_icmp_gt C.1 C.2.1 hd (jx_tgt ht) (fun h => K1 (by simpa [jm_c2, jx_dc] using h) H locs LS (S.st hO.t.t)) (fun h => K2 (by simpa [jm_c2, jx_dc] using h) H locs LS (S.st hO.t.t))
  | le => exact lv_icmp_le C.1 C.2.1 hd (jx_tgt ht) (fun h => K1 (by simpa [jm_c2, jx_dc] using h) H locs LS (S.st hO.t.t)) (fun h => K2 (by simpa [jm_c2, jx_dc] using h) H locs LS (S.st hO.t.t))
theorem jy_goto (C : jx_C p s m args c G L xs cc nL own n0) {off : Int} (ht : 0 ≤ (pc : Int) + off) (hd : decode cc pc = .ok (.goto off, 3)) (K : jx_J p l e R s m args below meth c Q G L xs md n0 nL (jm_tg pc off) ls st μ) : jx_J p l e R s m args below meth c Q G L xs md n0 nL (pc) ls st μ := by
  intro H locs LS S
  have hO := S.2.2.2.2
  exact lv_goto C.1 C.2.1 hd (jx_tgt ht) (K H locs LS S)
end JX
theorem jx_ofInt {n : Int} (h1 : -2147483648 ≤ n) (h2 : n ≤ 2147483647) : (Int32.ofInt n).toInt = n := Int32.toInt_ofInt_of_le (by omega) (by omega)
theorem jx_sw_prs {α : Type} (pc d : Nat) (x : Int32) (f : Nat → α) : ∀ (offs : List Int) (lo : Int), -2147483648 ≤ lo → lo + offs.length ≤ 2147483648 → (x.toInt < lo ∨ lo + offs.length ≤ x.toInt → jm_sw x (jm_prs pc lo offs) d f = f d) ∧ ∀ o, lo ≤ x.toInt → offs[(x.toInt - lo).toNat]? = some o → jm_sw x (jm_prs pc lo offs) d f = f (jm_tg pc o)
  | [], lo, _, _ => ⟨fun _ => rfl, fun o _ h => by simp at h⟩
  | a :: offs, lo, h1, h2 => by
    have h2' : lo + ((offs.length : Int) + 1) ≤ 2147483648 := by simpa using h2
    have ih := jx_sw_prs pc d x f offs (lo + 1) (by omega) (by omega)
    have hx : x = Int32.ofInt lo ↔ x.toInt = lo := by
      constructor
      · intro h; rw [h, jx_ofInt h1 (by omega)]
      · intro h; apply Int32.toInt_inj.mp; rw [jx_ofInt h1 (by omega)]; exact h
    have e : jm_sw x (jm_prs pc lo (a :: offs)) d f = cond (decide (x = Int32.ofInt lo)) (f (jm_tg pc a)) (jm_sw x (jm_prs pc (lo + 1) offs) d f) := rfl
    refine ⟨fun h => ?_, fun o h3 h4 => ?_⟩
    · have h : x.toInt < lo ∨ lo + ((offs.length : Int) + 1) ≤ x.toInt := by simpa using h
      rw [e, decide_eq_false (fun q => by rw [hx] at q; omega)]
      exact ih.1 (by omega)
    · by_cases hq : x.toInt = lo
      · rw [e, decide_eq_true (hx.mpr hq)]
        rw [show (x.toInt - lo).toNat = 0 by omega] at h4
        cases h4
        rfl
      · rw [e, decide_eq_false (fun q => hq (hx.mp q))]
        refine ih.2 o (by omega) ?_
        rw [show (x.toInt - lo).toNat = (x.toInt - (lo + 1)).toNat + 1 by omega] at h4
        simpa using h4
section JX2
variable {p : Program} {l : Launch} {e : Env} {R : Room} {s : State} {m : MethodId} {args : Array Value} {below : List Frame} {meth : Method} {c : Code} {Q : State → Prop} {G : jx_G} {L : Nat} {xs : Nat → Int32} {md : Bool} {n0 nL : Nat} {cc : ByteArray} {own : String}
variable {pc : Nat} {ls st : List jm_V} {μ : jm_M}
theorem jy_tableswitch (C : jx_C p s m args c G L xs cc nL own n0) {dflt lo hi : Int} {offs : Array Int} {len : Nat} {x : Int32} (hd : decode cc pc = .ok (.tableswitch dflt lo hi offs, len)) (g1 : 0 ≤ (pc : Int) + dflt) (g2 : ∀ o ∈ offs.toList, 0 ≤ (pc : Int) + o) (g3 : hi + 1 - lo = offs.toList.length) (g4 : -2147483648 ≤ lo) (g5 : hi ≤ 2147483647) {r : jm_V × jm_M} {K : jm_KT}
    (h : jm_sw x (jm_prs pc lo offs.toList) (jm_tg pc dflt) (fun pc => K pc ls st μ) = some r) (KK : ∀ pc', K pc' ls st μ = some r → jx_J p l e R s m args below meth c Q G L xs md n0 nL pc' ls st μ) : jx_J p l e R s m args below meth c Q G L xs md n0 nL pc ls (.inl x :: st) μ := by
  intro H locs LS S
  have hO := S.2.2.2.2
  have key := jx_sw_prs pc (jm_tg pc dflt) x (fun pc => K pc ls st μ) offs.toList lo g4 (by omega)
  by_cases ho : x.toInt < lo ∨ hi < x.toInt
  · rw [key.1 (by omega)] at h
    exact lv_tableOut C.1 C.2.1 hd ho (jx_tgt g1) (KK _ h H locs LS (S.st hO.t))
  · have hlt : (x.toInt - lo).toNat < offs.toList.length := by omega
    have hget : offs.toList[(x.toInt - lo).toNat]? = some (offs.toList[(x.toInt - lo).toNat]'hlt) := List.getElem?_eq_getElem hlt
    rw [key.2 _ (by omega) hget] at h
    exact lv_tableIn C.1 C.2.1 hd (by omega) (by omega) (by rw [← Array.getElem?_toList]; exact hget) (jx_tgt (g2 _ (List.getElem_mem hlt))) (KK _ h H locs LS (S.st hO.t))
end JX2
