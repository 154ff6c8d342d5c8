/-! ===== what an instruction that goes on found ===== -/
theorem ji_iload_n {K : jm_KT} {CC : jm_CT} {md : Bool} {cls rt pc : Nat} {ls st : List jm_V} {μ : jm_M} {res : jm_V × jm_M} {k : Fin 4} (h : jm_act K CC (jm_step md cls rt (.iload_n k) pc ls st μ) = some res) : ∃ x, jm_g ls k = .inl x ∧ K (pc + 1) ls (.inl x :: st) μ = some res := by
  delta jm_step at h
  dsimp only at h
  split at h
  · rename_i x hg
    exact ⟨x, hg, h⟩
  · cases h
theorem ji_iload {K : jm_KT} {CC : jm_CT} {md : Bool} {cls rt pc : Nat} {ls st : List jm_V} {μ : jm_M} {res : jm_V × jm_M} {k : Nat} (h : jm_act K CC (jm_step md cls rt (.iload k) pc ls st μ) = some res) : ∃ x, jm_g ls k = .inl x ∧ K (pc + 2) ls (.inl x :: st) μ = some res := by
  delta jm_step at h
  dsimp only at h
  split at h
  · rename_i x hg
    exact ⟨x, hg, h⟩
  · cases h
theorem ji_aload_n {K : jm_KT} {CC : jm_CT} {md : Bool} {cls rt pc : Nat} {ls st : List jm_V} {μ : jm_M} {res : jm_V × jm_M} {k : Fin 4} (h : jm_act K CC (jm_step md cls rt (.aload_n k) pc ls st μ) = some res) : ∃ x, jm_g ls k = .inr (.inr (.inl x)) ∧ K (pc + 1) ls (.inr (.inr (.inl x)) :: st) μ = some res := by
  delta jm_step at h
  dsimp only at h
  split at h
  · rename_i x hg
    exact ⟨x, hg, h⟩
  · cases h
theorem ji_aload {K : jm_KT} {CC : jm_CT} {md : Bool} {cls rt pc : Nat} {ls st : List jm_V} {μ : jm_M} {res : jm_V × jm_M} {k : Nat} (h : jm_act K CC (jm_step md cls rt (.aload k) pc ls st μ) = some res) : ∃ x, jm_g ls k = .inr (.inr (.inl x)) ∧ K (pc + 2) ls (.inr (.inr (.inl x)) :: st) μ = some res := by
  delta jm_step at h
  dsimp only at h
  split at h
  · rename_i x hg
    exact ⟨x, hg, h⟩
  · cases h
theorem ji_lload_n {K : jm_KT} {CC : jm_CT} {md : Bool} {cls rt pc : Nat} {ls st : List jm_V} {μ : jm_M} {res : jm_V × jm_M} {k : Fin 4} (h : jm_act K CC (jm_step md cls rt (.lload_n k) pc ls st μ) = some res) : ∃ x, jm_g ls k = .inr (.inl x) ∧ ls[(k : Nat) + 1]? = some jm_j ∧ K (pc + 1) ls (.inr (.inl x) :: st) μ = some res := by
  delta jm_step at h
  dsimp only at h
  split at h
  · rename_i x u hg hg2
    obtain ⟨hb, h⟩ := jx_bif h
    have hb := Nat.blt_eq.mp hb
    refine ⟨x, hg, ?_, h⟩
    rw [List.getElem?_eq_getElem hb]
    simp only [jm_g, List.getD, List.getElem?_eq_getElem hb, Option.getD_some] at hg2
    rw [hg2]
  · cases h
theorem ji_lload {K : jm_KT} {CC : jm_CT} {md : Bool} {cls rt pc : Nat} {ls st : List jm_V} {μ : jm_M} {res : jm_V × jm_M} {k : Nat} (h : jm_act K CC (jm_step md cls rt (.lload k) pc ls st μ) = some res) : ∃ x, jm_g ls k = .inr (.inl x) ∧ ls[(k : Nat) + 1]? = some jm_j ∧ K (pc + 2) ls (.inr (.inl x) :: st) μ = some res := by
  delta jm_step at h
  dsimp only at h
  split at h
  · rename_i x u hg hg2
    obtain ⟨hb, h⟩ := jx_bif h
    have hb := Nat.blt_eq.mp hb
    refine ⟨x, hg, ?_, h⟩
    rw [List.getElem?_eq_getElem hb]
    simp only [jm_g, List.getD, List.getElem?_eq_getElem hb, Option.getD_some] at hg2
    rw [hg2]
  · cases h
theorem ji_istore_n {K : jm_KT} {CC : jm_CT} {md : Bool} {cls rt pc : Nat} {ls st : List jm_V} {μ : jm_M} {res : jm_V × jm_M} {k : Fin 4} (h : jm_act K CC (jm_step md cls rt (.istore_n k) pc ls st μ) = some res) : ∃ x st', st = .inl x :: st' ∧ (k : Nat) < ls.length ∧ K (pc + 1) (jm_l1 ls k (.inl x)) st' μ = some res := by
  delta jm_step at h
  dsimp only at h
  split at h
  · obtain ⟨hb, h⟩ := jx_bif h
    exact ⟨_, _, rfl, Nat.blt_eq.mp hb, h⟩
  · cases h
theorem ji_istore {K : jm_KT} {CC : jm_CT} {md : Bool} {cls rt pc : Nat} {ls st : List jm_V} {μ : jm_M} {res : jm_V × jm_M} {k : Nat} (h : jm_act K CC (jm_step md cls rt (.istore k) pc ls st μ) = some res) : ∃ x st', st = .inl x :: st' ∧ (k : Nat) < ls.length ∧ K (pc + 2) (jm_l1 ls k (.inl x)) st' μ = some res := by
  delta jm_step at h
  dsimp only at h
  split at h
  · obtain ⟨hb, h⟩ := jx_bif h
    exact ⟨_, _, rfl, Nat.blt_eq.mp hb, h⟩
  · cases h
theorem ji_lstore_n {K : jm_KT} {CC : jm_CT} {md : Bool} {cls rt pc : Nat} {ls st : List jm_V} {μ : jm_M} {res : jm_V × jm_M} {k : Fin 4} (h : jm_act K CC (jm_step md cls rt (.lstore_n k) pc ls st μ) = some res) : ∃ x st', st = .inr (.inl x) :: st' ∧ (k : Nat) + 1 < ls.length ∧ K (pc + 1) (jm_l2 ls k (.inr (.inl x))) st' μ = some res := by
  delta jm_step at h
  dsimp only at h
  split at h
  · obtain ⟨hb, h⟩ := jx_bif h
    exact ⟨_, _, rfl, Nat.blt_eq.mp hb, h⟩
  · cases h
theorem ji_lstore {K : jm_KT} {CC : jm_CT} {md : Bool} {cls rt pc : Nat} {ls st : List jm_V} {μ : jm_M} {res : jm_V × jm_M} {k : Nat} (h : jm_act K CC (jm_step md cls rt (.lstore k) pc ls st μ) = some res) : ∃ x st', st = .inr (.inl x) :: st' ∧ (k : Nat) + 1 < ls.length ∧ K (pc + 2) (jm_l2 ls k (.inr (.inl x))) st' μ = some res := by
  delta jm_step at h
  dsimp only at h
  split at h
  · obtain ⟨hb, h⟩ := jx_bif h
    exact ⟨_, _, rfl, Nat.blt_eq.mp hb, h⟩
  · cases h
theorem ji_astore_n {K : jm_KT} {CC : jm_CT} {md : Bool} {cls rt pc : Nat} {ls st : List jm_V} {μ : jm_M} {res : jm_V × jm_M} {k : Fin 4} (h : jm_act K CC (jm_step md cls rt (.astore_n k) pc ls st μ) = some res) : ∃ x st', st = .inr (.inr (.inl x)) :: st' ∧ (k : Nat) < ls.length ∧ K (pc + 1) (jm_l1 ls k (.inr (.inr (.inl x)))) st' μ = some res := by
  delta jm_step at h
  dsimp only at h
  split at h
  · obtain ⟨hb, h⟩ := jx_bif h
    exact ⟨_, _, rfl, Nat.blt_eq.mp hb, h⟩
  · cases h
theorem ji_astore {K : jm_KT} {CC : jm_CT} {md : Bool} {cls rt pc : Nat} {ls st : List jm_V} {μ : jm_M} {res : jm_V × jm_M} {k : Nat} (h : jm_act K CC (jm_step md cls rt (.astore k) pc ls st μ) = some res) : ∃ x st', st = .inr (.inr (.inl x)) :: st' ∧ (k : Nat) < ls.length ∧ K (pc + 2) (jm_l1 ls k (.inr (.inr (.inl x)))) st' μ = some res := by
  delta jm_step at h
  dsimp only at h
  split at h
  · obtain ⟨hb, h⟩ := jx_bif h
    exact ⟨_, _, rfl, Nat.blt_eq.mp hb, h⟩
  · cases h
theorem ji_iinc {K : jm_KT} {CC : jm_CT} {md : Bool} {cls rt pc : Nat} {ls st : List jm_V} {μ : jm_M} {res : jm_V × jm_M} {k : Nat} {n : Int} (h : jm_act K CC (jm_step md cls rt (.iinc k n) pc ls st μ) = some res) : ∃ x, jm_g ls k = .inl x ∧ k < ls.length ∧ K (pc + 3) (jm_l1 ls k (.inl (x + Int32.ofInt n))) st μ = some res := by
  delta jm_step at h
  dsimp only at h
  split at h
  · rename_i x hg
    obtain ⟨hb, h⟩ := jx_bif h
    exact ⟨x, hg, Nat.blt_eq.mp hb, h⟩
  · cases h
theorem ji_iadd {K : jm_KT} {CC : jm_CT} {md : Bool} {cls rt pc : Nat} {ls st : List jm_V} {μ : jm_M} {res : jm_V × jm_M}  (h : jm_act K CC (jm_step md cls rt (.iadd) pc ls st μ) = some res) : ∃ y x st', st = .inl y :: .inl x :: st' ∧ K (pc + 1) ls (.inl (x + y) :: st') μ = some res := by
  delta jm_step at h
  dsimp only at h
  split at h
  · exact ⟨_, _, _, rfl, h⟩
  · cases h
theorem ji_isub {K : jm_KT} {CC : jm_CT} {md : Bool} {cls rt pc : Nat} {ls st : List jm_V} {μ : jm_M} {res : jm_V × jm_M}  (h : jm_act K CC (jm_step md cls rt (.isub) pc ls st μ) = some res) : ∃ y x st', st = .inl y :: .inl x :: st' ∧ K (pc + 1) ls (.inl (x - y) :: st') μ = some res := by
  delta jm_step at h
  dsimp only at h
  split at h
  · exact ⟨_, _, _, rfl, h⟩
  · cases h
theorem ji_imul {K : jm_KT} {CC : jm_CT} {md : Bool} {cls rt pc : Nat} {ls st : List jm_V} {μ : jm_M} {res : jm_V × jm_M}  (h : jm_act K CC (jm_step md cls rt (.imul) pc ls st μ) = some res) : ∃ y x st', st = .inl y :: .inl x :: st' ∧ K (pc + 1) ls (.inl (x * y) :: st') μ = some res := by
  delta jm_step at h
  dsimp only at h
  split at h
  · exact ⟨_, _, _, rfl, h⟩
  · cases h
theorem ji_iand {K : jm_KT} {CC : jm_CT} {md : Bool} {cls rt pc : Nat} {ls st : List jm_V} {μ : jm_M} {res : jm_V × jm_M}  (h : jm_act K CC (jm_step md cls rt (.iand) pc ls st μ) = some res) : ∃ y x st', st = .inl y :: .inl x :: st' ∧ K (pc + 1) ls (.inl (x &&& y) :: st') μ = some res := by
  delta jm_step at h
  dsimp only at h
  split at h
  · exact ⟨_, _, _, rfl, h⟩
  · cases h
theorem ji_ior {K : jm_KT} {CC : jm_CT} {md : Bool} {cls rt pc : Nat} {ls st : List jm_V} {μ : jm_M} {res : jm_V × jm_M}  (h : jm_act K CC (jm_step md cls rt (.ior) pc ls st μ) = some res) : ∃ y x st', st = .inl y :: .inl x :: st' ∧ K (pc + 1) ls (.inl (x ||| y) :: st') μ = some res := by
  delta jm_step at h
  dsimp only at h
  split at h
  · exact ⟨_, _, _, rfl, h⟩
  · cases h
theorem ji_ixor {K : jm_KT} {CC : jm_CT} {md : Bool} {cls rt pc : Nat} {ls st : List jm_V} {μ : jm_M} {res : jm_V × jm_M}  (h : jm_act K CC (jm_step md cls rt (.ixor) pc ls st μ) = some res) : ∃ y x st', st = .inl y :: .inl x :: st' ∧ K (pc + 1) ls (.inl (x ^^^ y) :: st') μ = some res := by
  delta jm_step at h
  dsimp only at h
  split at h
  · exact ⟨_, _, _, rfl, h⟩
  · cases h
theorem ji_ishl {K : jm_KT} {CC : jm_CT} {md : Bool} {cls rt pc : Nat} {ls st : List jm_V} {μ : jm_M} {res : jm_V × jm_M}  (h : jm_act K CC (jm_step md cls rt (.ishl) pc ls st μ) = some res) : ∃ y x st', st = .inl y :: .inl x :: st' ∧ K (pc + 1) ls (.inl (x <<< (y &&& 31)) :: st') μ = some res := by
  delta jm_step at h
  dsimp only at h
  split at h
  · exact ⟨_, _, _, rfl, h⟩
  · cases h
theorem ji_ishr {K : jm_KT} {CC : jm_CT} {md : Bool} {cls rt pc : Nat} {ls st : List jm_V} {μ : jm_M} {res : jm_V × jm_M}  (h : jm_act K CC (jm_step md cls rt (.ishr) pc ls st μ) = some res) : ∃ y x st', st = .inl y :: .inl x :: st' ∧ K (pc + 1) ls (.inl (x >>> (y &&& 31)) :: st') μ = some res := by
  delta jm_step at h
  dsimp only at h
  split at h
  · exact ⟨_, _, _, rfl, h⟩
  · cases h
theorem ji_iushr {K : jm_KT} {CC : jm_CT} {md : Bool} {cls rt pc : Nat} {ls st : List jm_V} {μ : jm_M} {res : jm_V × jm_M}  (h : jm_act K CC (jm_step md cls rt (.iushr) pc ls st μ) = some res) : ∃ y x st', st = .inl y :: .inl x :: st' ∧ K (pc + 1) ls (.inl (x.toUInt32 >>> (y.toUInt32 &&& Int32.toUInt32 31)).toInt32 :: st') μ = some res := by
  delta jm_step at h
  dsimp only at h
  split at h
  · exact ⟨_, _, _, rfl, h⟩
  · cases h
theorem ji_ladd {K : jm_KT} {CC : jm_CT} {md : Bool} {cls rt pc : Nat} {ls st : List jm_V} {μ : jm_M} {res : jm_V × jm_M}  (h : jm_act K CC (jm_step md cls rt (.ladd) pc ls st μ) = some res) : ∃ y x st', st = .inr (.inl y) :: .inr (.inl x) :: st' ∧ K (pc + 1) ls (.inr (.inl (x + y)) :: st') μ = some res := by
  delta jm_step at h
  dsimp only at h
  split at h
  · exact ⟨_, _, _, rfl, h⟩
  · cases h
theorem ji_lsub {K : jm_KT} {CC : jm_CT} {md : Bool} {cls rt pc : Nat} {ls st : List jm_V} {μ : jm_M} {res : jm_V × jm_M}  (h : jm_act K CC (jm_step md cls rt (.lsub) pc ls st μ) = some res) : ∃ y x st', st = .inr (.inl y) :: .inr (.inl x) :: st' ∧ K (pc + 1) ls (.inr (.inl (x - y)) :: st') μ = some res := by
  delta jm_step at h
  dsimp only at h
  split at h
  · exact ⟨_, _, _, rfl, h⟩
  · cases h
theorem ji_lmul {K : jm_KT} {CC : jm_CT} {md : Bool} {cls rt pc : Nat} {ls st : List jm_V} {μ : jm_M} {res : jm_V × jm_M}  (h : jm_act K CC (jm_step md cls rt (.lmul) pc ls st μ) = some res) : ∃ y x st', st = .inr (.inl y) :: .inr (.inl x) :: st' ∧ K (pc + 1) ls (.inr (.inl (x * y)) :: st') μ = some res := by
  delta jm_step at h
  dsimp only at h
  split at h
  · exact ⟨_, _, _, rfl, h⟩
  · cases h
theorem ji_land {K : jm_KT} {CC : jm_CT} {md : Bool} {cls rt pc : Nat} {ls st : List jm_V} {μ : jm_M} {res : jm_V × jm_M}  (h : jm_act K CC (jm_step md cls rt (.land) pc ls st μ) = some res) : ∃ y x st', st = .inr (.inl y) :: .inr (.inl x) :: st' ∧ K (pc + 1) ls (.inr (.inl (x &&& y)) :: st') μ = some res := by
  delta jm_step at h
  dsimp only at h
  split at h
  · exact ⟨_, _, _, rfl, h⟩
  · cases h
theorem ji_lor {K : jm_KT} {CC : jm_CT} {md : Bool} {cls rt pc : Nat} {ls st : List jm_V} {μ : jm_M} {res : jm_V × jm_M}  (h : jm_act K CC (jm_step md cls rt (.lor) pc ls st μ) = some res) : ∃ y x st', st = .inr (.inl y) :: .inr (.inl x) :: st' ∧ K (pc + 1) ls (.inr (.inl (x ||| y)) :: st') μ = some res := by
  delta jm_step at h
  dsimp only at h
  split at h
  · exact ⟨_, _, _, rfl, h⟩
  · cases h
theorem ji_lshl {K : jm_KT} {CC : jm_CT} {md : Bool} {cls rt pc : Nat} {ls st : List jm_V} {μ : jm_M} {res : jm_V × jm_M}  (h : jm_act K CC (jm_step md cls rt (.lshl) pc ls st μ) = some res) : ∃ y x st', st = .inl y :: .inr (.inl x) :: st' ∧ K (pc + 1) ls (.inr (.inl (x <<< (y.toInt64 &&& 63))) :: st') μ = some res := by
  delta jm_step at h
  dsimp only at h
  split at h
  · exact ⟨_, _, _, rfl, h⟩
  · cases h
theorem ji_lshr {K : jm_KT} {CC : jm_CT} {md : Bool} {cls rt pc : Nat} {ls st : List jm_V} {μ : jm_M} {res : jm_V × jm_M}  (h : jm_act K CC (jm_step md cls rt (.lshr) pc ls st μ) = some res) : ∃ y x st', st = .inl y :: .inr (.inl x) :: st' ∧ K (pc + 1) ls (.inr (.inl (x >>> (y.toInt64 &&& 63))) :: st') μ = some res := by
  delta jm_step at h
  dsimp only at h
  split at h
  · exact ⟨_, _, _, rfl, h⟩
  · cases h
theorem ji_lushr {K : jm_KT} {CC : jm_CT} {md : Bool} {cls rt pc : Nat} {ls st : List jm_V} {μ : jm_M} {res : jm_V × jm_M}  (h : jm_act K CC (jm_step md cls rt (.lushr) pc ls st μ) = some res) : ∃ y x st', st = .inl y :: .inr (.inl x) :: st' ∧ K (pc + 1) ls (.inr (.inl (x.toUInt64 >>> (y.toInt64.toUInt64 &&& Int64.toUInt64 63)).toInt64) :: st') μ = some res := by
  delta jm_step at h
  dsimp only at h
  split at h
  · exact ⟨_, _, _, rfl, h⟩
  · cases h
theorem ji_lcmp {K : jm_KT} {CC : jm_CT} {md : Bool} {cls rt pc : Nat} {ls st : List jm_V} {μ : jm_M} {res : jm_V × jm_M}  (h : jm_act K CC (jm_step md cls rt (.lcmp) pc ls st μ) = some res) : ∃ y x st', st = .inr (.inl y) :: .inr (.inl x) :: st' ∧ K (pc + 1) ls (.inl (lg_cmp x y) :: st') μ = some res := by
  delta jm_step at h
  dsimp only at h
  split at h
  · exact ⟨_, _, _, rfl, h⟩
  · cases h
theorem ji_idiv {K : jm_KT} {CC : jm_CT} {md : Bool} {cls rt pc : Nat} {ls st : List jm_V} {μ : jm_M} {res : jm_V × jm_M} (h : jm_act K CC (jm_step md cls rt (.idiv) pc ls st μ) = some res) : ∃ y x st', st = .inl y :: .inl x :: st' ∧ ¬ y = 0 ∧ K (pc + 1) ls (.inl (x / y) :: st') μ = some res := by
  delta jm_step at h
  dsimp only at h
  split at h
  · obtain ⟨hb, h⟩ := jx_gd h
    exact ⟨_, _, _, rfl, jx_dcd hb, h⟩
  · cases h
theorem ji_irem {K : jm_KT} {CC : jm_CT} {md : Bool} {cls rt pc : Nat} {ls st : List jm_V} {μ : jm_M} {res : jm_V × jm_M} (h : jm_act K CC (jm_step md cls rt (.irem) pc ls st μ) = some res) : ∃ y x st', st = .inl y :: .inl x :: st' ∧ ¬ y = 0 ∧ K (pc + 1) ls (.inl (x - x / y * y) :: st') μ = some res := by
  delta jm_step at h
  dsimp only at h
  split at h
  · obtain ⟨hb, h⟩ := jx_gd h
    exact ⟨_, _, _, rfl, jx_dcd hb, h⟩
  · cases h
theorem ji_ldiv {K : jm_KT} {CC : jm_CT} {md : Bool} {cls rt pc : Nat} {ls st : List jm_V} {μ : jm_M} {res : jm_V × jm_M} (h : jm_act K CC (jm_step md cls rt (.ldiv) pc ls st μ) = some res) : ∃ y x st', st = .inr (.inl y) :: .inr (.inl x) :: st' ∧ ¬ y = 0 ∧ K (pc + 1) ls (.inr (.inl (x / y)) :: st') μ = some res := by
  delta jm_step at h
  dsimp only at h
  split at h
  · obtain ⟨hb, h⟩ := jx_gd h
    exact ⟨_, _, _, rfl, jx_dcd hb, h⟩
  · cases h
theorem ji_lrem {K : jm_KT} {CC : jm_CT} {md : Bool} {cls rt pc : Nat} {ls st : List jm_V} {μ : jm_M} {res : jm_V × jm_M} (h : jm_act K CC (jm_step md cls rt (.lrem) pc ls st μ) = some res) : ∃ y x st', st = .inr (.inl y) :: .inr (.inl x) :: st' ∧ ¬ y = 0 ∧ K (pc + 1) ls (.inr (.inl (x - x / y * y)) :: st') μ = some res := by
  delta jm_step at h
  dsimp only at h
  split at h
  · obtain ⟨hb, h⟩ := jx_gd h
    exact ⟨_, _, _, rfl, jx_dcd hb, h⟩
  · cases h
theorem ji_i2l {K : jm_KT} {CC : jm_CT} {md : Bool} {cls rt pc : Nat} {ls st : List jm_V} {μ : jm_M} {res : jm_V × jm_M}  (h : jm_act K CC (jm_step md cls rt (.i2l) pc ls st μ) = some res) : ∃ x st', st = .inl x :: st' ∧ K (pc + 1) ls (.inr (.inl x.toInt64) :: st') μ = some res := by
  delta jm_step at h
  dsimp only at h
  split at h
  · exact ⟨_, _, rfl, h⟩
  · cases h
theorem ji_l2i {K : jm_KT} {CC : jm_CT} {md : Bool} {cls rt pc : Nat} {ls st : List jm_V} {μ : jm_M} {res : jm_V × jm_M}  (h : jm_act K CC (jm_step md cls rt (.l2i) pc ls st μ) = some res) : ∃ x st', st = .inr (.inl x) :: st' ∧ K (pc + 1) ls (.inl x.toInt32 :: st') μ = some res := by
  delta jm_step at h
  dsimp only at h
  split at h
  · exact ⟨_, _, rfl, h⟩
  · cases h
theorem ji_i2b {K : jm_KT} {CC : jm_CT} {md : Bool} {cls rt pc : Nat} {ls st : List jm_V} {μ : jm_M} {res : jm_V × jm_M}  (h : jm_act K CC (jm_step md cls rt (.i2b) pc ls st μ) = some res) : ∃ x st', st = .inl x :: st' ∧ K (pc + 1) ls (.inl x.toInt8.toInt32 :: st') μ = some res := by
  delta jm_step at h
  dsimp only at h
  split at h
  · exact ⟨_, _, rfl, h⟩
  · cases h
theorem ji_i2s {K : jm_KT} {CC : jm_CT} {md : Bool} {cls rt pc : Nat} {ls st : List jm_V} {μ : jm_M} {res : jm_V × jm_M}  (h : jm_act K CC (jm_step md cls rt (.i2s) pc ls st μ) = some res) : ∃ x st', st = .inl x :: st' ∧ K (pc + 1) ls (.inl x.toInt16.toInt32 :: st') μ = some res := by
  delta jm_step at h
  dsimp only at h
  split at h
  · exact ⟨_, _, rfl, h⟩
  · cases h
theorem ji_i2c {K : jm_KT} {CC : jm_CT} {md : Bool} {cls rt pc : Nat} {ls st : List jm_V} {μ : jm_M} {res : jm_V × jm_M}  (h : jm_act K CC (jm_step md cls rt (.i2c) pc ls st μ) = some res) : ∃ x st', st = .inl x :: st' ∧ K (pc + 1) ls (.inl (x.toUInt32 % 65536).toInt32 :: st') μ = some res := by
  delta jm_step at h
  dsimp only at h
  split at h
  · exact ⟨_, _, rfl, h⟩
  · cases h
theorem ji_dup {K : jm_KT} {CC : jm_CT} {md : Bool} {cls rt pc : Nat} {ls st : List jm_V} {μ : jm_M} {res : jm_V × jm_M} (h : jm_act K CC (jm_step md cls rt (.dup) pc ls st μ) = some res) : (∃ x st', st = .inl x :: st' ∧ K (pc + 1) ls (.inl x :: .inl x :: st') μ = some res) ∨ (∃ x st', st = .inr (.inr (.inl x)) :: st' ∧ K (pc + 1) ls (.inr (.inr (.inl x)) :: .inr (.inr (.inl x)) :: st') μ = some res) := by
  delta jm_step at h
  dsimp only at h
  split at h
  · exact Or.inl ⟨_, _, rfl, h⟩
  · exact Or.inr ⟨_, _, rfl, h⟩
  · cases h
theorem ji_pop {K : jm_KT} {CC : jm_CT} {md : Bool} {cls rt pc : Nat} {ls st : List jm_V} {μ : jm_M} {res : jm_V × jm_M} (h : jm_act K CC (jm_step md cls rt (.pop) pc ls st μ) = some res) : (∃ x st', st = .inl x :: st' ∧ K (pc + 1) ls st' μ = some res) ∨ (∃ x st', st = .inr (.inr (.inl x)) :: st' ∧ K (pc + 1) ls st' μ = some res) := by
  delta jm_step at h
  dsimp only at h
  split at h
  · exact Or.inl ⟨_, _, rfl, h⟩
  · exact Or.inr ⟨_, _, rfl, h⟩
  · cases h
theorem ji_dup2 {K : jm_KT} {CC : jm_CT} {md : Bool} {cls rt pc : Nat} {ls st : List jm_V} {μ : jm_M} {res : jm_V × jm_M} (h : jm_act K CC (jm_step md cls rt (.dup2) pc ls st μ) = some res) : (∃ x st', st = .inr (.inl x) :: st' ∧ K (pc + 1) ls (.inr (.inl x) :: .inr (.inl x) :: st') μ = some res) ∨ (∃ x y st', st = .inl x :: .inr (.inr (.inl y)) :: st' ∧ K (pc + 1) ls (.inl x :: .inr (.inr (.inl y)) :: .inl x :: .inr (.inr (.inl y)) :: st') μ = some res) := by
  delta jm_step at h
  dsimp only at h
  split at h
  · exact Or.inl ⟨_, _, rfl, h⟩
  · exact Or.inr ⟨_, _, _, rfl, h⟩
  · cases h
theorem ji_ifCond {K : jm_KT} {CC : jm_CT} {md : Bool} {cls rt pc : Nat} {ls st : List jm_V} {μ : jm_M} {res : jm_V × jm_M} {cn : ClassFile.Cond} {off : Int} (h : jm_act K CC (jm_step md cls rt (.ifCond cn off) pc ls st μ) = some res) : ∃ x st', st = .inl x :: st' ∧ 0 ≤ (pc : Int) + off ∧ jm_act K CC (jm_bc (jm_c1 cn x) (jm_tg pc off) (pc + 3) ls st' μ) = some res := by
  delta jm_step at h
  dsimp only at h
  split at h
  · obtain ⟨hb, h⟩ := jx_bif h
    exact ⟨_, _, rfl, of_decide_eq_true hb, h⟩
  · cases h
theorem ji_if_icmp {K : jm_KT} {CC : jm_CT} {md : Bool} {cls rt pc : Nat} {ls st : List jm_V} {μ : jm_M} {res : jm_V × jm_M} {cn : ClassFile.Cond} {off : Int} (h : jm_act K CC (jm_step md cls rt (.if_icmp cn off) pc ls st μ) = some res) : ∃ y x st', st = .inl y :: .inl x :: st' ∧ 0 ≤ (pc : Int) + off ∧ jm_act K CC (jm_bc (jm_c2 md cn x y) (jm_tg pc off) (pc + 3) ls st' μ) = some res := by
  delta jm_step at h
  dsimp only at h
  split at h
  · obtain ⟨hb, h⟩ := jx_bif h
    exact ⟨_, _, _, rfl, of_decide_eq_true hb, h⟩
  · cases h
theorem ji_tableswitch {K : jm_KT} {CC : jm_CT} {md : Bool} {cls rt pc : Nat} {ls st : List jm_V} {μ : jm_M} {res : jm_V × jm_M} {dflt lo hi : Int} {offs : Array Int} (h : jm_act K CC (jm_step md cls rt (.tableswitch dflt lo hi offs) pc ls st μ) = some res) : ∃ x st', st = .inl x :: st' ∧ 0 ≤ (pc : Int) + dflt ∧ (∀ o ∈ offs.toList, 0 ≤ (pc : Int) + o) ∧ hi + 1 - lo = offs.toList.length ∧ -2147483648 ≤ lo ∧ hi ≤ 2147483647 ∧ jm_sw x (jm_prs pc lo offs.toList) (jm_tg pc dflt) (fun pc => K pc ls st' μ) = some res := by
  delta jm_step at h
  dsimp only at h
  split at h
  · obtain ⟨hb, h⟩ := jx_bif h
    simp only [Bool.and_eq_true, decide_eq_true_eq, List.all_eq_true] at hb
    exact ⟨_, _, rfl, hb.1.1.1.1, hb.1.1.1.2, hb.1.1.2, hb.1.2, hb.2, h⟩
  · cases h
theorem ji_getfield {K : jm_KT} {CC : jm_CT} {md : Bool} {cls rt pc : Nat} {ls st : List jm_V} {μ : jm_M} {res : jm_V × jm_M} {idx : Nat} (h : jm_act K CC (jm_step md cls rt (.getfield idx) pc ls st μ) = some res) : ∃ r st' c' k ty, st = .inr (.inr (.inl r)) :: st' ∧ jm_find (jm_fl.getD cls []) idx = some (c', k, ty) ∧ jm_kcl r.1 = c' ∧ jm_act K CC (jm_getf md ty r k (pc + 3) ls st' μ) = some res := by
  delta jm_step at h
  dsimp only at h
  split at h
  · split at h
    · rename_i hf
      obtain ⟨hb, h⟩ := jx_bif h
      exact ⟨_, _, _, _, _, rfl, hf, Nat.eq_of_beq_eq_true hb, h⟩
    · cases h
  · cases h
theorem ji_putfield {K : jm_KT} {CC : jm_CT} {md : Bool} {cls rt pc : Nat} {ls st : List jm_V} {μ : jm_M} {res : jm_V × jm_M} {idx : Nat} (h : jm_act K CC (jm_step md cls rt (.putfield idx) pc ls st μ) = some res) : ∃ w r st' c' k ty, st = w :: .inr (.inr (.inl r)) :: st' ∧ jm_find (jm_fl.getD cls []) idx = some (c', k, ty) ∧ jm_kcl r.1 = c' ∧ r.1 < 60 ∧ (Nat.blt ty 3 || Nat.beq c' cls) = true ∧ jm_act K CC (jm_putf md ty r k w (pc + 3) ls st' μ) = some res := by
  delta jm_step at h
  dsimp only at h
  split at h
  · split at h
    · rename_i hf
      obtain ⟨hb, h⟩ := jx_bif h
      simp only [Bool.and_eq_true] at hb
      exact ⟨_, _, _, _, _, _, rfl, hf, Nat.eq_of_beq_eq_true hb.1.1, Nat.blt_eq.mp hb.1.2, hb.2, h⟩
    · cases h
  · cases h
theorem ji_iaload {K : jm_KT} {CC : jm_CT} {md : Bool} {cls rt pc : Nat} {ls st : List jm_V} {μ : jm_M} {res : jm_V × jm_M} (h : jm_act K CC (jm_step md cls rt (.iaload) pc ls st μ) = some res) : ∃ i r st', st = .inl i :: .inr (.inr (.inl r)) :: st' := by
  delta jm_step at h
  dsimp only at h
  split at h
  · exact ⟨_, _, _, rfl⟩
  · cases h
theorem ji_baload {K : jm_KT} {CC : jm_CT} {md : Bool} {cls rt pc : Nat} {ls st : List jm_V} {μ : jm_M} {res : jm_V × jm_M} (h : jm_act K CC (jm_step md cls rt (.baload) pc ls st μ) = some res) : ∃ i r st', st = .inl i :: .inr (.inr (.inl r)) :: st' := by
  delta jm_step at h
  dsimp only at h
  split at h
  · exact ⟨_, _, _, rfl⟩
  · cases h
theorem ji_laload {K : jm_KT} {CC : jm_CT} {md : Bool} {cls rt pc : Nat} {ls st : List jm_V} {μ : jm_M} {res : jm_V × jm_M} (h : jm_act K CC (jm_step md cls rt (.laload) pc ls st μ) = some res) : ∃ i r st', st = .inl i :: .inr (.inr (.inl r)) :: st' := by
  delta jm_step at h
  dsimp only at h
  split at h
  · exact ⟨_, _, _, rfl⟩
  · cases h
theorem ji_aaload {K : jm_KT} {CC : jm_CT} {md : Bool} {cls rt pc : Nat} {ls st : List jm_V} {μ : jm_M} {res : jm_V × jm_M} (h : jm_act K CC (jm_step md cls rt (.aaload) pc ls st μ) = some res) : ∃ i r st', st = .inl i :: .inr (.inr (.inl r)) :: st' := by
  delta jm_step at h
  dsimp only at h
  split at h
  · exact ⟨_, _, _, rfl⟩
  · cases h
theorem ji_iastore {K : jm_KT} {CC : jm_CT} {md : Bool} {cls rt pc : Nat} {ls st : List jm_V} {μ : jm_M} {res : jm_V × jm_M} (h : jm_act K CC (jm_step md cls rt (.iastore) pc ls st μ) = some res) : ∃ x i r st', st = .inl x :: .inl i :: .inr (.inr (.inl r)) :: st' := by
  delta jm_step at h
  dsimp only at h
  split at h
  · exact ⟨_, _, _, _, rfl⟩
  · cases h
theorem ji_bastore {K : jm_KT} {CC : jm_CT} {md : Bool} {cls rt pc : Nat} {ls st : List jm_V} {μ : jm_M} {res : jm_V × jm_M} (h : jm_act K CC (jm_step md cls rt (.bastore) pc ls st μ) = some res) : ∃ x i r st', st = .inl x :: .inl i :: .inr (.inr (.inl r)) :: st' := by
  delta jm_step at h
  dsimp only at h
  split at h
  · exact ⟨_, _, _, _, rfl⟩
  · cases h
theorem ji_lastore {K : jm_KT} {CC : jm_CT} {md : Bool} {cls rt pc : Nat} {ls st : List jm_V} {μ : jm_M} {res : jm_V × jm_M} (h : jm_act K CC (jm_step md cls rt (.lastore) pc ls st μ) = some res) : ∃ x i r st', st = .inr (.inl x) :: .inl i :: .inr (.inr (.inl r)) :: st' := by
  delta jm_step at h
  dsimp only at h
  split at h
  · exact ⟨_, _, _, _, rfl⟩
  · cases h
theorem ji_aastore {K : jm_KT} {CC : jm_CT} {md : Bool} {cls rt pc : Nat} {ls st : List jm_V} {μ : jm_M} {res : jm_V × jm_M} (h : jm_act K CC (jm_step md cls rt (.aastore) pc ls st μ) = some res) : ∃ q i r st', st = .inr (.inr (.inl q)) :: .inl i :: .inr (.inr (.inl r)) :: st' := by
  delta jm_step at h
  dsimp only at h
  split at h
  · exact ⟨_, _, _, _, rfl⟩
  · cases h
theorem ji_arraylength {K : jm_KT} {CC : jm_CT} {md : Bool} {cls rt pc : Nat} {ls st : List jm_V} {μ : jm_M} {res : jm_V × jm_M} (h : jm_act K CC (jm_step md cls rt (.arraylength) pc ls st μ) = some res) : ∃ r st', st = .inr (.inr (.inl r)) :: st' := by
  delta jm_step at h
  dsimp only at h
  split at h
  · exact ⟨_, _, rfl⟩
  · cases h
theorem ji_newarray {K : jm_KT} {CC : jm_CT} {md : Bool} {cls rt pc : Nat} {ls st : List jm_V} {μ : jm_M} {res : jm_V × jm_M} {t : ArrayType} (h : jm_act K CC (jm_step md cls rt (.newarray t) pc ls st μ) = some res) : ∃ n st', st = .inl n :: st' := by
  delta jm_step at h
  dsimp only at h
  split at h
  · exact ⟨_, _, rfl⟩
  · cases h
theorem ji_anewarray {K : jm_KT} {CC : jm_CT} {md : Bool} {cls rt pc : Nat} {ls st : List jm_V} {μ : jm_M} {res : jm_V × jm_M} {idx : Nat} (h : jm_act K CC (jm_step md cls rt (.anewarray idx) pc ls st μ) = some res) : ∃ n st', st = .inl n :: st' := by
  delta jm_step at h
  dsimp only at h
  split at h
  · exact ⟨_, _, rfl⟩
  · cases h
theorem ji_ireturn {K : jm_KT} {CC : jm_CT} {md : Bool} {cls rt pc : Nat} {ls st : List jm_V} {μ : jm_M} {res : jm_V × jm_M} (h : jm_act K CC (jm_step md cls rt (.ireturn) pc ls st μ) = some res) : ∃ x, st = [.inl x] ∧ (1 ≤ rt ∧ rt ≤ 4) ∧ jm_nr rt x = x ∧ (.inl x, μ) = res := by
  delta jm_step at h
  dsimp only at h
  split at h
  · rename_i x
    have cinv : ∀ (b : Bool), jm_act K CC (some (.inr (.inr (.inr (b, .inl x, μ))))) = some res → b = true ∧ (.inl x, μ) = res := by
      intro b hb
      cases b with
      | true => exact ⟨rfl, Option.some.inj hb⟩
      | false => cases hb
    split at h
    · exact ⟨x, rfl, by omega, rfl, (cinv _ h).2⟩
    · exact ⟨x, rfl, by omega, of_decide_eq_true (cinv _ h).1, (cinv _ h).2⟩
    · exact ⟨x, rfl, by omega, of_decide_eq_true (cinv _ h).1, (cinv _ h).2⟩
    · exact ⟨x, rfl, by omega, of_decide_eq_true (cinv _ h).1, (cinv _ h).2⟩
    · cases h
  · cases h
theorem ji_lreturn {K : jm_KT} {CC : jm_CT} {md : Bool} {cls rt pc : Nat} {ls st : List jm_V} {μ : jm_M} {res : jm_V × jm_M} (h : jm_act K CC (jm_step md cls rt (.lreturn) pc ls st μ) = some res) : ∃ x, st = [.inr (.inl x)] ∧ rt = 5 ∧ (.inr (.inl x), μ) = res := by
  delta jm_step at h
  dsimp only at h
  split at h
  · split at h
    · exact ⟨_, rfl, rfl, Option.some.inj h⟩
    · cases h
  · cases h
theorem ji_return {K : jm_KT} {CC : jm_CT} {md : Bool} {cls rt pc : Nat} {ls st : List jm_V} {μ : jm_M} {res : jm_V × jm_M} (h : jm_act K CC (jm_step md cls rt (.return_) pc ls st μ) = some res) : st = [] ∧ rt = 0 ∧ (jm_j, μ) = res := by
  delta jm_step at h
  dsimp only at h
  split at h
  · split at h
    · exact ⟨rfl, rfl, Option.some.inj h⟩
    · cases h
  · cases h
