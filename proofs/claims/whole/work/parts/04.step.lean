def jm_find {α : Type} : List (Nat × α) → Nat → Option α
  | [], _ => none
  | (p, i) :: l, k => bif Nat.beq p k then some i else jm_find l k
def jm_kcl (K : Nat) : Nat := (jm_kd.getD K (99, 9, 0)).1
def jm_kat (K : Nat) : Nat := (jm_kd.getD K (99, 9, 0)).2.1
def jm_kln (K : Nat) : Nat := (jm_kd.getD K (99, 9, 0)).2.2
def jm_R (K i j k : Nat) : jm_Rf := (jm_Rt.getD K (fun _ _ _ => (99, 0, 0))) i j k
def jm_len (μ : jm_M) (r : jm_Rf) : Nat := bif Nat.beq r.1 61 then (jm_st.getD r.2.1 []).length else bif Nat.beq r.1 70 then (μ.1 70 0 1 0).toNatClampNeg else jm_kln r.1
def jm_rI (μ : jm_M) (r : jm_Rf) (k : Nat) : Int32 := bif Nat.beq r.1 60 then 0 else bif Nat.beq r.1 61 then (jm_st.getD r.2.1 []).getD k 0 else μ.1 r.1 r.2.1 r.2.2 k
def jm_ra (md : Bool) (r : jm_Rf) (k : Nat) (pc : Nat) (ls st : List jm_V) (μ : jm_M) : Option jm_A :=
  jm_gd (bif md then decide (μ.1 (r.1 + 600) r.2.1 r.2.2 k = 1) else true) pc ls (.inr (.inr (.inl (jm_R r.1 r.2.1 r.2.2 k))) :: st) μ
def jm_getf (md : Bool) (ty : Nat) (r : jm_Rf) (k : Nat) (pc : Nat) (ls st : List jm_V) (μ : jm_M) : Option jm_A := match ty with
  | 0 => jm_go pc ls (.inl (jm_rI μ r k) :: st) μ
  | 1 => jm_go pc ls (.inl (jm_rI μ r k &&& 1) :: st) μ
  | 2 => jm_go pc ls (.inr (.inl (μ.2 r.1 r.2.1 r.2.2 k)) :: st) μ
  | _ => jm_ra md r k pc ls st μ
def jm_putf (md : Bool) (ty : Nat) (r : jm_Rf) (k : Nat) (v : jm_V) (pc : Nat) (ls st : List jm_V) (μ : jm_M) : Option jm_A := match ty, v with
  | 0, .inl x => jm_go pc ls st (jm_uI μ.1 r.1 r.2.1 r.2.2 k x, μ.2)
  | 1, .inl x => jm_gd (decide (x &&& 1 = x)) pc ls st (jm_uI μ.1 r.1 r.2.1 r.2.2 k x, μ.2)
  | 2, .inr (.inl x) => jm_go pc ls st (μ.1, jm_uL μ.2 r.1 r.2.1 r.2.2 k x)
  | 3, .inr (.inr (.inl q)) => jm_gd (md && Nat.blt q.1 60 && decide (q = jm_R r.1 r.2.1 r.2.2 k)) pc ls st (jm_uI μ.1 (r.1 + 600) r.2.1 r.2.2 k 1, μ.2)
  | _, _ => none
/-- the next cell that is made, in the order of jm_nm -/
def jm_mk (md : Bool) (ok : jm_Rf → Bool) (pc : Nat) (ls st : List jm_V) (μ : jm_M) : Option jm_A :=
  match jm_nm[(μ.1 500 0 0 0).toNatClampNeg]? with
  | some r => jm_gd (md && ok r && decide (0 ≤ μ.1 500 0 0 0)) pc ls (.inr (.inr (.inl r)) :: st) (jm_uI μ.1 500 0 0 0 (μ.1 500 0 0 0 + 1), μ.2)
  | none => none
def jm_atc (t : ArrayType) : Nat := match t with
  | .int => 0
  | .long => 1
  | .byte => 2
  | .boolean => 3
  | _ => 8
def jm_call (k np rk : Nat) (pc : Nat) (ls st : List jm_V) (μ : jm_M) : Option jm_A :=
  some (.inr (.inr (.inl (k, (st.take np).reverse, rk, pc, ls, st.drop np, μ))))
def jm_isr (c : Nat) : List jm_V → Bool
  | .inr (.inr (.inl r)) :: _ => Nat.beq (jm_kcl r.1) c
  | _ => false
noncomputable def jm_step (md : Bool) (cls rt : Nat) (ins : Instr) (pc : Nat) (ls st : List jm_V) (μ : jm_M) : Option jm_A :=
  match ins with
  | .iconst n => jm_go (pc + 1) ls (.inl (Int32.ofInt n) :: st) μ
  | .bipush n => jm_go (pc + 2) ls (.inl (Int8.ofInt n).toInt32 :: st) μ
  | .sipush n => jm_go (pc + 3) ls (.inl (Int16.ofInt n).toInt32 :: st) μ
  | .lconst n => jm_go (pc + 1) ls (.inr (.inl (Int64.ofNat (n : Nat))) :: st) μ
  | .iload_n k => (match jm_g ls k with | .inl x => jm_go (pc + 1) ls (.inl x :: st) μ | _ => none)
  | .iload k => (match jm_g ls k with | .inl x => jm_go (pc + 2) ls (.inl x :: st) μ | _ => none)
  | .lload_n k => (match jm_g ls k, jm_g ls ((k : Nat) + 1) with | .inr (.inl x), .inr (.inr (.inr _)) => (bif Nat.blt ((k : Nat) + 1) ls.length then jm_go (pc + 1) ls (.inr (.inl x) :: st) μ else none) | _, _ => none)
  | .lload k => (match jm_g ls k, jm_g ls (k + 1) with | .inr (.inl x), .inr (.inr (.inr _)) => (bif Nat.blt (k + 1) ls.length then jm_go (pc + 2) ls (.inr (.inl x) :: st) μ else none) | _, _ => none)
  | .aload_n k => (match jm_g ls k with | .inr (.inr (.inl x)) => jm_go (pc + 1) ls (.inr (.inr (.inl x)) :: st) μ | _ => none)
  | .aload k => (match jm_g ls k with | .inr (.inr (.inl x)) => jm_go (pc + 2) ls (.inr (.inr (.inl x)) :: st) μ | _ => none)
  | .istore_n k => (match st with
    | .inl x :: st => bif Nat.blt k ls.length then jm_go (pc + 1) (jm_l1 ls k (.inl x)) st μ else none
    | _ => none)
  | .istore k => (match st with
    | .inl x :: st => bif Nat.blt k ls.length then jm_go (pc + 2) (jm_l1 ls k (.inl x)) st μ else none
    | _ => none)
  | .lstore_n k => (match st with
    | .inr (.inl x) :: st => bif Nat.blt ((k : Nat) + 1) ls.length then jm_go (pc + 1) (jm_l2 ls k (.inr (.inl x))) st μ else none
    | _ => none)
  | .lstore k => (match st with
    | .inr (.inl x) :: st => bif Nat.blt (k + 1) ls.length then jm_go (pc + 2) (jm_l2 ls k (.inr (.inl x))) st μ else none
    | _ => none)
  | .astore_n k => (match st with
    | .inr (.inr (.inl x)) :: st => bif Nat.blt k ls.length then jm_go (pc + 1) (jm_l1 ls k (.inr (.inr (.inl x)))) st μ else none
    | _ => none)
  | .astore k => (match st with
    | .inr (.inr (.inl x)) :: st => bif Nat.blt k ls.length then jm_go (pc + 2) (jm_l1 ls k (.inr (.inr (.inl x)))) st μ else none
    | _ => none)
  | .iinc k n => (match jm_g ls k with | .inl x => (bif Nat.blt k ls.length then jm_go (pc + 3) (jm_l1 ls k (.inl (x + Int32.ofInt n))) st μ else none) | _ => none)
  | .iadd => (match st with
    | .inl y :: .inl x :: st => jm_go (pc + 1) ls (.inl (x + y) :: st) μ
    | _ => none)
  | .isub => (match st with
    | .inl y :: .inl x :: st => jm_go (pc + 1) ls (.inl (x - y) :: st) μ
    | _ => none)
  | .imul => (match st with
    | .inl y :: .inl x :: st => jm_go (pc + 1) ls (.inl (x * y) :: st) μ
    | _ => none)
  | .iand => (match st with
    | .inl y :: .inl x :: st => jm_go (pc + 1) ls (.inl (x &&& y) :: st) μ
    | _ => none)
  | .ior => (match st with
    | .inl y :: .inl x :: st => jm_go (pc + 1) ls (.inl (x ||| y) :: st) μ
    | _ => none)
  | .ixor => (match st with
    | .inl y :: .inl x :: st => jm_go (pc + 1) ls (.inl (x ^^^ y) :: st) μ
    | _ => none)
  | .idiv => (match st with
    | .inl y :: .inl x :: st => jm_gd (jm_dc md (¬ y = 0)) (pc + 1) ls (.inl (x / y) :: st) μ
    | _ => none)
  | .irem => (match st with
    | .inl y :: .inl x :: st => jm_gd (jm_dc md (¬ y = 0)) (pc + 1) ls (.inl (x - x / y * y) :: st) μ
    | _ => none)
  | .ishl => (match st with
    | .inl y :: .inl x :: st => jm_go (pc + 1) ls (.inl (x <<< (y &&& 31)) :: st) μ
    | _ => none)
  | .ishr => (match st with
    | .inl y :: .inl x :: st => jm_go (pc + 1) ls (.inl (x >>> (y &&& 31)) :: st) μ
    | _ => none)
  | .iushr => (match st with
    | .inl y :: .inl x :: st => jm_go (pc + 1) ls (.inl (x.toUInt32 >>> (y.toUInt32 &&& Int32.toUInt32 31)).toInt32 :: st) μ
    | _ => none)
  | .ladd => (match st with
    | .inr (.inl y) :: .inr (.inl x) :: st => jm_go (pc + 1) ls (.inr (.inl (x + y)) :: st) μ
    | _ => none)
  | .lsub => (match st with
    | .inr (.inl y) :: .inr (.inl x) :: st => jm_go (pc + 1) ls (.inr (.inl (x - y)) :: st) μ
    | _ => none)
  | .lmul => (match st with
    | .inr (.inl y) :: .inr (.inl x) :: st => jm_go (pc + 1) ls (.inr (.inl (x * y)) :: st) μ
    | _ => none)
  | .land => (match st with
    | .inr (.inl y) :: .inr (.inl x) :: st => jm_go (pc + 1) ls (.inr (.inl (x &&& y)) :: st) μ
    | _ => none)
  | .lor => (match st with
    | .inr (.inl y) :: .inr (.inl x) :: st => jm_go (pc + 1) ls (.inr (.inl (x ||| y)) :: st) μ
    | _ => none)
  | .ldiv => (match st with
    | .inr (.inl y) :: .inr (.inl x) :: st => jm_gd (jm_dc md (¬ y = 0)) (pc + 1) ls (.inr (.inl (x / y)) :: st) μ
    | _ => none)
  | .lrem => (match st with
    | .inr (.inl y) :: .inr (.inl x) :: st => jm_gd (jm_dc md (¬ y = 0)) (pc + 1) ls (.inr (.inl (x - x / y * y)) :: st) μ
    | _ => none)
  | .lshl => (match st with
    | .inl y :: .inr (.inl x) :: st => jm_go (pc + 1) ls (.inr (.inl (x <<< (y.toInt64 &&& 63))) :: st) μ
    | _ => none)
  | .lshr => (match st with
    | .inl y :: .inr (.inl x) :: st => jm_go (pc + 1) ls (.inr (.inl (x >>> (y.toInt64 &&& 63))) :: st) μ
    | _ => none)
  | .lushr => (match st with
    | .inl y :: .inr (.inl x) :: st => jm_go (pc + 1) ls (.inr (.inl (x.toUInt64 >>> (y.toInt64.toUInt64 &&& Int64.toUInt64 63)).toInt64) :: st) μ
    | _ => none)
  | .lcmp => (match st with
    | .inr (.inl y) :: .inr (.inl x) :: st => jm_go (pc + 1) ls (.inl (lg_cmp x y) :: st) μ
    | _ => none)
  | .i2l => (match st with
    | .inl x :: st => jm_go (pc + 1) ls (.inr (.inl x.toInt64) :: st) μ
    | _ => none)
  | .l2i => (match st with
    | .inr (.inl x) :: st => jm_go (pc + 1) ls (.inl x.toInt32 :: st) μ
    | _ => none)
  | .i2b => (match st with
    | .inl x :: st => jm_go (pc + 1) ls (.inl x.toInt8.toInt32 :: st) μ
    | _ => none)
  | .i2s => (match st with
    | .inl x :: st => jm_go (pc + 1) ls (.inl x.toInt16.toInt32 :: st) μ
    | _ => none)
  | .i2c => (match st with
    | .inl x :: st => jm_go (pc + 1) ls (.inl (x.toUInt32 % 65536).toInt32 :: st) μ
    | _ => none)
  | .dup => (match st with
    | .inl x :: st => jm_go (pc + 1) ls (.inl x :: .inl x :: st) μ
    | .inr (.inr (.inl x)) :: st => jm_go (pc + 1) ls (.inr (.inr (.inl x)) :: .inr (.inr (.inl x)) :: st) μ
    | _ => none)
  | .pop => (match st with
    | .inl _ :: st => jm_go (pc + 1) ls st μ
    | .inr (.inr (.inl _)) :: st => jm_go (pc + 1) ls st μ
    | _ => none)
  | .dup2 => (match st with
    | .inr (.inl x) :: st => jm_go (pc + 1) ls (.inr (.inl x) :: .inr (.inl x) :: st) μ
    | .inl x :: .inr (.inr (.inl y)) :: st => jm_go (pc + 1) ls (.inl x :: .inr (.inr (.inl y)) :: .inl x :: .inr (.inr (.inl y)) :: st) μ
    | _ => none)
  | .ifCond c off => (match st with
    | .inl x :: st => bif decide (0 ≤ (pc : Int) + off) then jm_bc (jm_c1 c x) (jm_tg pc off) (pc + 3) ls st μ else none
    | _ => none)
  | .if_icmp c off => (match st with
    | .inl y :: .inl x :: st => bif decide (0 ≤ (pc : Int) + off) then jm_bc (jm_c2 md c x y) (jm_tg pc off) (pc + 3) ls st μ else none
    | _ => none)
  | .goto off => bif decide (0 ≤ (pc : Int) + off) then jm_go (jm_tg pc off) ls st μ else none
  | .tableswitch dflt lo hi offs => (match st with
    | .inl x :: st => bif decide (0 ≤ (pc : Int) + dflt) && offs.toList.all (fun o => decide (0 ≤ (pc : Int) + o)) && decide (hi + 1 - lo = offs.toList.length) && decide (-2147483648 ≤ lo) && decide (hi ≤ 2147483647) then
      some (.inr (.inl (x, jm_prs pc lo offs.toList, jm_tg pc dflt, ls, st, μ)))
    else none
    | _ => none)
  | .getfield idx => (match st with
    | .inr (.inr (.inl r)) :: st => (match jm_find (jm_fl.getD cls []) idx with
    | some (c, k, ty) => bif Nat.beq (jm_kcl r.1) c then jm_getf md ty r k (pc + 3) ls st μ else none
    | none => none)
    | _ => none)
  | .putfield idx => (match st with
    | v :: .inr (.inr (.inl r)) :: st => (match jm_find (jm_fl.getD cls []) idx with
    | some (c, k, ty) => bif Nat.beq (jm_kcl r.1) c && Nat.blt r.1 60 && (Nat.blt ty 3 || Nat.beq c cls) then jm_putf md ty r k v (pc + 3) ls st μ else none
    | none => none)
    | _ => none)
  | .getstatic idx => (match jm_find (jm_gs.getD cls []) idx with
    | some 0 => jm_go (pc + 3) ls (.inl 1 :: st) μ
    | some _ => jm_go (pc + 3) ls (.inr (.inr (.inl (62, 0, 0))) :: st) μ
    | none => none)
  | .iaload => (match st with
    | .inl i :: .inr (.inr (.inl r)) :: st => bif Nat.beq (jm_kat r.1) 0 || Nat.beq r.1 70 then jm_gd (jm_in md i (jm_len μ r)) (pc + 1) ls (.inl (jm_rI μ r (jm_ix i)) :: st) μ else none
    | _ => none)
  | .baload => (match st with
    | .inl i :: .inr (.inr (.inl r)) :: st => bif Nat.beq (jm_kat r.1) 2 || Nat.beq (jm_kat r.1) 3 then jm_gd (jm_in md i (jm_len μ r)) (pc + 1) ls (.inl (jm_rI μ r (jm_ix i)) :: st) μ else none
    | _ => none)
  | .laload => (match st with
    | .inl i :: .inr (.inr (.inl r)) :: st => bif Nat.beq (jm_kat r.1) 1 then jm_gd (jm_in md i (jm_kln r.1)) (pc + 1) ls (.inr (.inl (μ.2 r.1 r.2.1 r.2.2 (jm_ix i))) :: st) μ else none
    | _ => none)
  | .aaload => (match st with
    | .inl i :: .inr (.inr (.inl r)) :: st => bif Nat.beq (jm_kat r.1) 4 then jm_gd (jm_in md i (jm_kln r.1) && (bif md then decide (μ.1 (r.1 + 600) r.2.1 r.2.2 (jm_ix i) = 1) else true)) (pc + 1) ls (.inr (.inr (.inl (jm_R r.1 r.2.1 r.2.2 (jm_ix i)))) :: st) μ else none
    | _ => none)
  | .iastore => (match st with
    | .inl x :: .inl i :: .inr (.inr (.inl r)) :: st => bif Nat.beq (jm_kat r.1) 0 then jm_gd (jm_in md i (jm_kln r.1)) (pc + 1) ls st (jm_uI μ.1 r.1 r.2.1 r.2.2 (jm_ix i) x, μ.2) else none
    | _ => none)
  | .bastore => (match st with
    | .inl x :: .inl i :: .inr (.inr (.inl r)) :: st => bif Nat.blt r.1 60 then (match jm_kat r.1 with
    | 2 => jm_gd (jm_in md i (jm_kln r.1)) (pc + 1) ls st (jm_uI μ.1 r.1 r.2.1 r.2.2 (jm_ix i) x.toInt8.toInt32, μ.2)
    | 3 => jm_gd (jm_in md i (jm_kln r.1)) (pc + 1) ls st (jm_uI μ.1 r.1 r.2.1 r.2.2 (jm_ix i) (x &&& 1), μ.2)
    | _ => none) else none
    | _ => none)
  | .lastore => (match st with
    | .inr (.inl x) :: .inl i :: .inr (.inr (.inl r)) :: st => bif Nat.beq (jm_kat r.1) 1 then jm_gd (jm_in md i (jm_kln r.1)) (pc + 1) ls st (μ.1, jm_uL μ.2 r.1 r.2.1 r.2.2 (jm_ix i) x) else none
    | _ => none)
  | .aastore => (match st with
    | .inr (.inr (.inl q)) :: .inl i :: .inr (.inr (.inl r)) :: st => bif Nat.beq (jm_kat r.1) 4 then jm_gd (md && jm_in md i (jm_kln r.1) && Nat.blt q.1 60 && Nat.beq (jm_kcl q.1) (jm_kel r.1) && decide (q = jm_R r.1 r.2.1 r.2.2 (jm_ix i))) (pc + 1) ls st (jm_uI μ.1 (r.1 + 600) r.2.1 r.2.2 (jm_ix i) 1, μ.2) else none
    | _ => none)
  | .arraylength => (match st with
    | .inr (.inr (.inl r)) :: st => bif Nat.blt (jm_kat r.1) 5 || Nat.beq r.1 70 then jm_go (pc + 1) ls (.inl (Int32.ofNat (jm_len μ r)) :: st) μ else none
    | _ => none)
  | .ldc idx => (match jm_find (jm_kI.getD cls []) idx with
    | some v => jm_go (pc + 2) ls (.inl v :: st) μ
    | none => (match jm_find (jm_kS.getD cls []) idx with | some i => jm_go (pc + 2) ls (.inr (.inr (.inl (60, i, 0))) :: st) μ | none => none))
  | .ldc_w idx => (match jm_find (jm_kI.getD cls []) idx with | some v => jm_go (pc + 3) ls (.inl v :: st) μ | none => none)
  | .ldc2_w idx => (match jm_find (jm_kL.getD cls []) idx with | some v => jm_go (pc + 3) ls (.inr (.inl v) :: st) μ | none => none)
  | .new idx => (match jm_find (jm_xl.getD cls []) idx with | some c => jm_mk md (fun r => Nat.beq (jm_kcl r.1) c) (pc + 3) ls st μ | none => none)
  | .newarray t => (match st with
    | .inl n :: st => jm_mk md (fun r => Nat.beq (jm_kat r.1) (jm_atc t) && Nat.blt (jm_kat r.1) 4 && decide (0 ≤ n) && Nat.beq n.toNatClampNeg (jm_kln r.1)) (pc + 2) ls st μ
    | _ => none)
  | .anewarray idx => (match st with
    | .inl n :: st => (match jm_find (jm_xl.getD cls []) idx with | some c => jm_mk md (fun r => Nat.beq (jm_kat r.1) 4 && Nat.beq (jm_kel r.1) c && decide (0 ≤ n) && Nat.beq n.toNatClampNeg (jm_kln r.1)) (pc + 3) ls st μ | none => none)
    | _ => none)
  | .invokestatic idx => (match jm_find (jm_ml.getD cls []) idx with
    | some (1000, _, _) => (match st with
      | .inl n :: .inl dp :: .inr (.inr (.inl b)) :: .inl sp :: .inr (.inr (.inl a)) :: st =>
        bif Nat.beq (jm_kat a.1) 0 && Nat.beq (jm_kat b.1) 0 && Nat.ble (jm_cs st) 8 then jm_gd (jm_dc md (0 ≤ sp ∧ 0 ≤ dp ∧ 0 ≤ n ∧ jm_ix sp + jm_ix n ≤ jm_kln a.1 ∧ jm_ix dp + jm_ix n ≤ jm_kln b.1)) (pc + 3) ls st (jm_cI μ.1 a b (jm_ix sp) (jm_ix dp) (jm_ix n), μ.2)
        else bif Nat.beq (jm_kat a.1) 1 && Nat.beq (jm_kat b.1) 1 && Nat.ble (jm_cs st) 8 then jm_gd (jm_dc md (0 ≤ sp ∧ 0 ≤ dp ∧ 0 ≤ n ∧ jm_ix sp + jm_ix n ≤ jm_kln a.1 ∧ jm_ix dp + jm_ix n ≤ jm_kln b.1)) (pc + 3) ls st (μ.1, jm_cL μ.2 a b (jm_ix sp) (jm_ix dp) (jm_ix n))
        else none
      | _ => none)
    | some (1002, _, _) => (match st with
      | .inl y :: .inl x :: st => bif Nat.ble (jm_cs st) 8 then jm_go (pc + 3) ls (.inl (if x < y then y else x) :: st) μ else none
      | _ => none)
    | some (1003, _, _) => (match st with
      | .inl y :: .inl x :: st => bif Nat.ble (jm_cs st) 8 then jm_go (pc + 3) ls (.inl (if y < x then y else x) :: st) μ else none
      | _ => none)
    | some (k, np, rk) => bif Nat.ble np st.length && Nat.ble (jm_cs (st.drop np)) 8 then jm_call k np rk (pc + 3) ls st μ else none
    | none => none)
  | .invokevirtual idx => (match jm_find (jm_ml.getD cls []) idx with
    | some (k, np, rk) => bif Nat.ble np st.length && Nat.ble (jm_cs (st.drop np)) 8 && jm_isr (jm_mc k) (st.take np).reverse then jm_call k np rk (pc + 3) ls st μ else none
    | none => none)
  | .invokespecial idx => (match jm_find (jm_ml.getD cls []) idx with
    | some (1001, _, _) => (match st with | .inr (.inr (.inl r)) :: st => bif Nat.ble (jm_cs st) 8 && Nat.blt r.1 60 then jm_go (pc + 3) ls st μ else none | _ => none)
    | some (k, np, rk) => bif md && Nat.ble np st.length && Nat.ble (jm_cs (st.drop np)) 8 && jm_isr (jm_mc k) (st.take np).reverse then jm_call k np rk (pc + 3) ls st μ else none
    | none => none)
  | .ireturn => (match st with
    | [.inl x] => (match rt with
      | 1 => some (.inr (.inr (.inr (true, .inl x, μ))))
      | 2 => some (.inr (.inr (.inr (decide (jm_nr 2 x = x), .inl x, μ))))
      | 3 => some (.inr (.inr (.inr (decide (jm_nr 3 x = x), .inl x, μ))))
      | 4 => some (.inr (.inr (.inr (decide (jm_nr 4 x = x), .inl x, μ))))
      | _ => none)
    | _ => none)
  | .lreturn => (match st with
    | [.inr (.inl x)] => (match rt with
      | 5 => some (.inr (.inr (.inr (true, .inr (.inl x), μ))))
      | _ => none)
    | _ => none)
  | .return_ => (match st with
    | [] => (match rt with
      | 0 => some (.inr (.inr (.inr (true, jm_j, μ))))
      | _ => none)
    | _ => none)
  | _ => none
/-- what an action comes to, with what is behind it (K) and what calls answer (C) -/
def jm_k (K : Nat → List jm_V → List jm_V → jm_M → Option (jm_V × jm_M)) (s : Option jm_S) : Option (jm_V × jm_M) := match s with
  | some (pc, ls, st, μ) => K pc ls st μ
  | none => none
def jm_act (K : Nat → List jm_V → List jm_V → jm_M → Option (jm_V × jm_M)) (C : Nat → List jm_V → jm_M → Option (jm_V × jm_M)) (a : Option jm_A) : Option (jm_V × jm_M) := match a with
  | none => none
  | some (.inl (b, s1, s2)) => cond b (jm_k K s1) (jm_k K s2)
  | some (.inr (.inl (x, ps, d, ls, st, μ))) => jm_sw x ps d (fun pc => K pc ls st μ)
  | some (.inr (.inr (.inl (k, as, rk, pc, ls, st, μ)))) => (match rk with
    | 0 => jm_bv (C k as μ) (fun μ' => K pc ls st μ')
    | 1 => jm_bi (C k as μ) (fun x μ' => K pc ls (.inl x :: st) μ')
    | 2 => jm_bl (C k as μ) (fun x μ' => K pc ls (.inr (.inl x) :: st) μ')
    | _ => jm_br (C k as μ) (fun x μ' => K pc ls (.inr (.inr (.inl x)) :: st) μ'))
  | some (.inr (.inr (.inr (b, r, μ)))) => cond b (some (r, μ)) none
noncomputable def jm_st1 (md : Bool) (cls rt : Nat) (cd : jm_Cd) (pc : Nat) (ls st : List jm_V) (μ : jm_M) : Option jm_A := match jm_look cd pc with
  | some (p, ins) => jm_step md cls rt ins p ls st μ
  | none => none
/-- at most n steps, at most d frames above this one -/
noncomputable def jm_run : Nat → Bool → Nat → Nat → Nat → jm_Cd → Nat → List jm_V → List jm_V → jm_M → Option (jm_V × jm_M)
  | 0, _, _, _, _, _, _, _, _, _ => none
  | n + 1, md, d, cls, rt, cd, pc, ls, st, μ =>
    jm_act (jm_run n md d cls rt cd)
      (fun k as μ => match d with
        | 0 => none
        | d + 1 => (match jm_mt[k]? with
          | some (c, r, mx, cd') => cond (Nat.ble (jm_en as).length mx) (jm_run n md d c r cd' 0 (jm_pad mx (jm_en as)) [] μ) none
          | none => none))
      (jm_st1 md cls rt cd pc ls st μ)
