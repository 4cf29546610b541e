/-! Does the resolved code say what the bytes say? Asked of every instruction of every method, by the kernel. -/
def strTab : List (Nat × Nat × Nat) := [(3, 49, 0), (3, 58, 3), (3, 63, 4), (3, 68, 5), (3, 75, 6), (3, 110, 1), (3, 112, 2), (9, 145, 1), (9, 151, 2), (9, 156, 0), (9, 161, 3), (9, 166, 4), (9, 168, 5), (9, 170, 6)]
def wordTab : List String := ["gap", "leaves", "lands", "craft", "closed", "shift", "freeze"]
def tagOf : FieldType → Nat
  | .int => 0
  | .long => 1
  | .array _ => 2
  | .object _ => 2
  | .boolean => 3
  | _ => 4
def inT (t : List ((Nat × Nat) × Nat)) (o k : Nat) : Bool := t.any (fun z => Nat.beq z.1.1 o && Nat.beq z.1.2 k)
def inT3 (t : List ((Nat × Nat × Nat) × Nat)) (o k j : Nat) : Bool := t.any (fun z => Nat.beq z.1.1 o && (Nat.beq z.1.2.1 k && Nat.beq z.1.2.2 j))
def inT4 (t : List ((Nat × Nat × Nat × Nat) × Nat)) (o k i j : Nat) : Bool := t.any (fun z => Nat.beq z.1.1 o && (Nat.beq z.1.2.1 k && (Nat.beq z.1.2.2.1 i && Nat.beq z.1.2.2.2 j)))
def inTI (t : List ((Nat × Nat × Int) × Nat)) (o k : Nat) (v : Int) : Bool := t.any (fun z => Nat.beq z.1.1 o && (Nat.beq z.1.2.1 k && decide (z.1.2.2 = v)))
def inN (t : List (Nat × Nat)) (j : Nat) : Bool := t.any (fun z => Nat.beq z.1 j)
def inL (t : List Nat) (j : Nat) : Bool := t.any (fun z => Nat.beq z j)
def npar (j : Nat) : Option Nat := (parseMethodDescriptor (yOf j).desc).map (fun d => d.parameters.length)
def okSt (o pc k c : Nat) : Bool := inT3 tabM o k (c / 256) && Nat.beq (clOf (c / 256)) (c % 16)
def okIns (o : Nat) (ini : Bool) (rt : Option FieldType) (cc : ByteArray) (pc : Nat) (i : Instr) (n : Nat) (r : Instr) : Bool := match r with
  | .iconst v => match i with
    | .iconst m => Nat.beq n 1 && decide (Int32.ofInt m = icn v)
    | .bipush m => Nat.beq n 2 && decide ((Int8.ofInt m).toInt32 = icn v)
    | .sipush m => Nat.beq n 3 && decide ((Int16.ofInt m).toInt32 = icn v)
    | .ldc k => Nat.beq n 2 && (inTI tabI o k v && decide (Int32.ofInt v = icn v))
    | .ldc_w k => Nat.beq n 3 && (inTI tabI o k v && decide (Int32.ofInt v = icn v))
    | _ => false
  | .ldc2_w v => match i with
    | .lconst m => Nat.beq n 1 && Nat.beq m.val v
    | .ldc2_w k => Nat.beq n 3 && inT3 tabJ o k v
    | _ => false
  | .iload k => match i with
    | .iload m => Nat.beq n 2 && Nat.beq m k
    | .iload_n m => Nat.beq n 1 && Nat.beq m.val k
    | _ => false
  | .lload k => match i with
    | .lload m => Nat.beq n 2 && Nat.beq m k
    | .lload_n m => Nat.beq n 1 && Nat.beq m.val k
    | _ => false
  | .aload k => match i with
    | .aload m => Nat.beq n 2 && Nat.beq m k
    | .aload_n m => Nat.beq n 1 && Nat.beq m.val k
    | _ => false
  | .istore k => match i with
    | .istore m => Nat.beq n 2 && Nat.beq m k
    | .istore_n m => Nat.beq n 1 && Nat.beq m.val k
    | _ => false
  | .lstore k => match i with
    | .lstore m => Nat.beq n 2 && Nat.beq m k
    | .lstore_n m => Nat.beq n 1 && Nat.beq m.val k
    | _ => false
  | .astore k => match i with
    | .astore m => Nat.beq n 2 && Nat.beq m k
    | .astore_n m => Nat.beq n 1 && Nat.beq m.val k
    | _ => false
  | .iinc k v => match i with
    | .iinc a b => Nat.beq n 3 && (Nat.beq a k && decide (Int32.ofInt b = icn v))
    | _ => false
  | .goto t => match i with
    | .goto m => Nat.beq n 3 && (decide ((pc : Int) + m = t) && decide (0 ≤ t))
    | _ => false
  | .ifCond c t => match i with
    | .ifCond b m => Nat.beq n 3 && (decide (b = c) && (decide ((pc : Int) + m = t) && decide (0 ≤ t)))
    | _ => false
  | .if_icmp c t => match i with
    | .if_icmp b m => Nat.beq n 3 && (decide (b = c) && (decide ((pc : Int) + m = t) && decide (0 ≤ t)))
    | _ => false
  | .lookupswitch d ps => decide (0 ≤ d) && (ps.toList.all (fun q => decide (0 ≤ q.2) && decide ((icn q.1).toInt = q.1)) && match i with
    | .lookupswitch e qs => decide ((pc : Int) + e = d) && (decide (ps.toList = qs.toList.map (fun q => (q.1, (pc : Int) + q.2))) && (qs.toList.zip (qs.toList.drop 1)).all (fun (a, next) => a.1 < next.1))
    | .tableswitch e lo hi os => decide ((pc : Int) + e = d) && (decide (ps.toList = os.toList.zipIdx.map (fun q => (lo + (q.2 : Int), (pc : Int) + q.1))) && decide (hi - lo + 1 = (os.size : Int)))
    | _ => false)
  | .getfield c => match i with
    | .getfield k => Nat.beq n 3 && (inT4 tabF o k (c / 256) (c / 4 % 64) && (Nat.beq (tagOf (tyT (c / 256) (c / 4 % 64))) (c % 4) && (Nat.blt (c / 256) 10 && Nat.blt (c / 4 % 64) (nf (c / 256)))))
    | _ => false
  | .putfield c => match i with
    | .putfield k => Nat.beq n 3 && (inT4 tabF o k (c / 256) (c / 4 % 64) && (Nat.beq (tagOf (tyT (c / 256) (c / 4 % 64))) (c % 4) && (Nat.blt (c / 256) 10 && (Nat.blt (c / 4 % 64) (nf (c / 256)) && (match (TT (c / 256) (c / 4 % 64)).2.2.2 with
      | true => ini && Nat.beq (c / 256) o
      | false => true)))))
    | _ => false
  | .new c => match i with
    | .new k => Nat.beq n 3 && (inT3 tabC o k (c / 64) && (Nat.beq (nf (c / 64)) (c % 64) && Nat.blt (c / 64) 10))
    | _ => false
  | .newarray t => match i with
    | .newarray s => Nat.beq n 2 && decide (s = t)
    | _ => false
  | .anewarray c => match i with
    | .anewarray k => Nat.beq n 3 && (inT3 tabC o k 1 && Nat.beq c 1)
    | _ => false
  | .invokestatic c => match i with
    | .invokestatic k => Nat.beq n 3 && (Nat.beq (clOf (c / 256)) (c % 16) && (inT3 tabM o k (c / 256) && (inN tabYs (c / 256) && (decide (npar (c / 256) = some (c / 16 % 16)) && inL tabY (c / 256)))))
    | _ => false
  | .invokeinterface c _ => match i with
    | .invokestatic k => Nat.beq n 3 && (Nat.beq (clOf (c / 256)) (c % 16) && ((inT3 tabM o k (c / 256) || inT3 tabN o k (c / 256)) && (inN tabYs (c / 256) && (decide (npar (c / 256) = some (c / 16 % 16)) && (inL tabY (c / 256) || (inT3 tabM o k (c / 256) && inL tabYw (c / 256)))))))
    | _ => false
  | .invokevirtual c => match i with
    | .invokevirtual k => Nat.beq n 3 && (Nat.beq (clOf (c / 256)) (c % 16) && (inT3 tabM o k (c / 256) && (inN tabYi (c / 256) && (inN tabYv (c / 256) && (decide ((npar (c / 256)).map (· + 1) = some (c / 16 % 16)) && (inL tabY (c / 256) && Nat.blt (c % 16) 10))))))
    | _ => false
  | .invokespecial c => match i with
    | .invokespecial k => Nat.beq n 3 && (Nat.beq (clOf (c / 256)) (c % 16) && ((inT3 tabM o k (c / 256) || inT3 tabN o k (c / 256)) && (inN tabYi (c / 256) && (decide ((yOf (c / 256)).name = "<init>") && (decide (retOf (c / 256) = none) && (decide ((npar (c / 256)).map (· + 1) = some (c / 16 % 16)) && (inL tabY (c / 256) && Nat.blt (c % 16) 10)))))))
    | _ => false
  | .monitorenter => match i with
    | .invokespecial k => Nat.beq n 3 && inT tabO o k
    | _ => false
  | .dadd => match i with
    | .invokestatic k => Nat.beq n 3 && inT tabP_max o k
    | _ => false
  | .dsub => match i with
    | .invokestatic k => Nat.beq n 3 && inT tabP_min o k
    | _ => false
  | .dneg => match i with
    | .invokestatic k => Nat.beq n 3 && inT tabP_abs o k
    | _ => false
  | .dmul => match i with
    | .invokestatic k => Nat.beq n 3 && inT tabP_arraycopy o k
    | _ => false
  | .d2i => match i with
    | .invokevirtual k => Nat.beq n 3 && inT tabP_length o k
    | _ => false
  | .d2l => match i with
    | .invokevirtual k => Nat.beq n 3 && inT tabP_charAt o k
    | _ => false
  | .ldc s => match i with
    | .ldc k => Nat.beq n 2 && strTab.any (fun z => Nat.beq z.1 o && (Nat.beq z.2.1 k && Nat.beq z.2.2 s))
    | _ => false
  | .checkcast e => match i with
    | .new k => Nat.beq n 3 && (inT3 tabE o k e && (Nat.beq o 8 && (Nat.blt e 2 && (decide (decode cc (pc + 3) = .ok (.dup, 1)) && (decide (decode cc (pc + 4) = .ok (.invokespecial (if e = 0 then 297 else 350), 3)) && decide (decode cc (pc + 7) = .ok (.athrow, 1)))))))
    | _ => false
  | .dreturn => match i with
    | .ireturn => Nat.beq n 1 && decide (rt = some .boolean)
    | _ => false
  | .ireturn => match i with
    | .ireturn => Nat.beq n 1 && decide (rt = some .int)
    | _ => false
  | .lreturn => match i with
    | .lreturn => Nat.beq n 1 && decide (rt = some .long)
    | _ => false
  | .areturn => match i with
    | .areturn => Nat.beq n 1 && (decide (rt = some (.object "SlotKeeper$Timetable")) || decide (rt = some (.object "SlotKeeper$Runway")))
    | _ => false
  | .return_ => match i with
    | .return_ => Nat.beq n 1 && decide (rt = none)
    | _ => false
  | .saload => match i with
    | .iaload => Nat.beq n 1
    | _ => false
  | r => Nat.beq n 1 && decide (i = r)
def okAt (o : Nat) (ini : Bool) (rt : Option FieldType) (cc : ByteArray) (q : Nat × Instr × Nat) : Bool := match decode cc q.1 with
  | .ok (i, m) => Nat.beq m q.2.2 && okIns o ini rt cc q.1 i q.2.2 q.2.1
  | .error _ => false
noncomputable def okM (j : Nat) : Bool := (codeOf j).all (okAt (clOf j) (decide ((yOf j).name = "<init>")) (retOf j) (ccOf j))
