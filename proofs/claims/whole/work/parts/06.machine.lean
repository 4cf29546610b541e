/-! A SMALLER MACHINE: heaps of numbers, code with its pool's entries resolved, and what a run of it comes to (weakest preconditions, least fixed points); part 06 ff. show that the JVM's runs are its runs. -/
abbrev hL : Type := (Nat → Nat) × (Nat → Nat) × (Nat → Nat → Option Nat) × (Nat → Nat)
abbrev hp : Type := hL × (Nat → Nat → Int32) × (Nat → Nat → Int64) × Nat × Nat × Bool
abbrev lvs : Type := List (Option Value)
abbrev cfg : Type := Nat × lvs × List Value × hp
abbrev oc : Type := Option Value ⊕ Nat
abbrev kcode : Type := List (Nat × Instr × Nat)
abbrev hndl : Type := List (Nat × Nat × Nat × Nat × Nat)
abbrev calls : Type := Nat → List Value → hp → (oc → hp → Prop) → Prop
/-- the kind of a cell: 0 none of ours, c + 1 an object of class c, 20 int[], 21 byte[], 22 long[], 23 Board[], 30 the script, 40 a String constant -/
abbrev hkd (h : hp) : Nat → Nat := h.1.1
/-- an array's length -/
abbrev hln (h : hp) : Nat → Nat := h.1.2.1
/-- fields and elements that are references -/
abbrev hrm (h : hp) : Nat → Nat → Option Nat := h.1.2.2.1
/-- where the String constants lie -/
abbrev hsa (h : hp) : Nat → Nat := h.1.2.2.2
abbrev hI (h : hp) : Nat → Nat → Int32 := h.2.1
abbrev hJ (h : hp) : Nat → Nat → Int64 := h.2.2.1
abbrev hsz (h : hp) : Nat := h.2.2.2.1
abbrev hsl (h : hp) : Nat := h.2.2.2.2.1
/-- is the heap's end known -/
abbrev hex (h : hp) : Bool := h.2.2.2.2.2
def wr {α : Type} (f : Nat → Nat → α) (a i : Nat) (v : α) : Nat → Nat → α := fun b j => if b = a ∧ j = i then v else f b j
def wrow {α : Type} (f : Nat → Nat → α) (a : Nat) (r : Nat → α) : Nat → Nat → α := fun b => if b = a then r else f b
abbrev setI (h : hp) (I : Nat → Nat → Int32) : hp := (h.1, I, h.2.2)
abbrev setJ (h : hp) (J : Nat → Nat → Int64) : hp := (h.1, h.2.1, J, h.2.2.2)
abbrev setR (h : hp) (r : Nat → Nat → Option Nat) : hp := ((h.1.1, h.1.2.1, r, h.1.2.2.2), h.2)
/-- a new object of kind k with n fields -/
abbrev hnew (h : hp) (k n : Nat) : hp := ((va_up h.1.1 (hsz h) k, h.1.2.1, wrow h.1.2.2.1 (hsz h) (fun _ => none), h.1.2.2.2), wrow h.2.1 (hsz h) (fun _ => 0), wrow h.2.2.1 (hsz h) (fun _ => 0), hsz h + 1, hsl h + n, hex h)
/-- a new array of kind k and length n -/
abbrev hnewa (h : hp) (k n : Nat) : hp := ((va_up h.1.1 (hsz h) k, va_up h.1.2.1 (hsz h) n, wrow h.1.2.2.1 (hsz h) (fun _ => none), h.1.2.2.2), wrow h.2.1 (hsz h) (fun _ => 0), wrow h.2.2.1 (hsz h) (fun _ => 0), hsz h + 1, hsl h + n, hex h)
/-- behind a throw -/
abbrev hexc (h : hp) : hp := (h.1, h.2.1, h.2.2.1, hsz h + 1, hsl h + 6, false)
def fetch : kcode → Nat → Option (Instr × Nat)
  | [], _ => none
  | (q, r) :: l, pc => match Nat.beq q pc with
    | true => some r
    | false => fetch l pc
def lget : lvs → Nat → Option Value
  | [], _ => none
  | x :: _, 0 => x
  | _ :: l, k + 1 => lget l k
def sto : lvs → Nat → Value → Option lvs
  | [], _, _ => none
  | _ :: l, 0, v => some (some v :: l)
  | x :: l, i + 1, v => match i with
    | 0 => match x with
      | some (.long _) => none
      | some (.double _) => none
      | _ => match sto l 0 v with
        | some l' => some (x :: l')
        | none => none
    | j + 1 => match sto l (j + 1) v with
      | some l' => some (x :: l')
      | none => none
def sto2 (l : lvs) (i : Nat) (v : Value) : Option lvs := match sto l i v with
  | some l' => if i + 1 < l.length then some (l'.set (i + 1) none) else none
  | none => none
def cnd : ClassFile.Cond → Int32 → Int32 → Prop
  | .eq, x, y => x = y
  | .ne, x, y => ¬ x = y
  | .lt, x, y => x < y
  | .ge, x, y => y ≤ x
  | .gt, x, y => y < x
  | .le, x, y => x ≤ y
def ncnd : ClassFile.Cond → Int32 → Int32 → Prop
  | .eq, x, y => ¬ x = y
  | .ne, x, y => x = y
  | .lt, x, y => ¬ x < y
  | .ge, x, y => ¬ y ≤ x
  | .gt, x, y => ¬ y < x
  | .le, x, y => ¬ x ≤ y
/-- so many words at most on a stack -/
def room8 : List Value → Nat → Bool
  | [], _ => true
  | v :: s, k => match v with
    | .long _ => match k with
      | j + 2 => room8 s j
      | _ => false
    | .double _ => match k with
      | j + 2 => room8 s j
      | _ => false
    | _ => match k with
      | j + 1 => room8 s j
      | 0 => false
def icn : Int → Int32
  | .ofNat k => Int32.ofNat k
  | .negSucc k => -Int32.ofNat (k + 1)
/-- what neither looks at the heap nor may fail nor jumps -/
def pur (i : Instr) (l : lvs) (s : List Value) : Option (lvs × List Value) := match i with
  | .iconst n => some (l, .int (icn n) :: s)
  | .ldc2_w n => some (l, .long (Int64.ofNat n) :: s)
  | .iload k => match lget l k with
    | some (.int x) => some (l, .int x :: s)
    | _ => none
  | .lload k => match lget l k with
    | some (.long x) => some (l, .long x :: s)
    | _ => none
  | .aload k => match lget l k with
    | some (.ref x) => some (l, .ref x :: s)
    | _ => none
  | .istore k => match s with
    | .int x :: r => match sto l k (.int x) with
      | some l' => some (l', r)
      | none => none
    | _ => none
  | .astore k => match s with
    | .ref x :: r => match sto l k (.ref x) with
      | some l' => some (l', r)
      | none => none
    | _ => none
  | .lstore k => match s with
    | .long x :: r => match sto2 l k (.long x) with
      | some l' => some (l', r)
      | none => none
    | _ => none
  | .iinc k n => match lget l k with
    | some (.int x) => match sto l k (.int (x + icn n)) with
      | some l' => some (l', s)
      | none => none
    | _ => none
  | .iadd => match s with
    | .int y :: .int x :: r => some (l, .int (x + y) :: r)
    | _ => none
  | .isub => match s with
    | .int y :: .int x :: r => some (l, .int (x - y) :: r)
    | _ => none
  | .imul => match s with
    | .int y :: .int x :: r => some (l, .int (x * y) :: r)
    | _ => none
  | .iand => match s with
    | .int y :: .int x :: r => some (l, .int (x &&& y) :: r)
    | _ => none
  | .ior => match s with
    | .int y :: .int x :: r => some (l, .int (x ||| y) :: r)
    | _ => none
  | .ixor => match s with
    | .int y :: .int x :: r => some (l, .int (x ^^^ y) :: r)
    | _ => none
  | .ishl => match s with
    | .int y :: .int x :: r => some (l, .int (x <<< (y &&& 31)) :: r)
    | _ => none
  | .ishr => match s with
    | .int y :: .int x :: r => some (l, .int (x >>> (y &&& 31)) :: r)
    | _ => none
  | .iushr => match s with
    | .int y :: .int x :: r => some (l, .int (x.toUInt32 >>> (y.toUInt32 &&& Int32.toUInt32 31)).toInt32 :: r)
    | _ => none
  | .ineg => match s with
    | .int x :: r => some (l, .int (-x) :: r)
    | _ => none
  | .ladd => match s with
    | .long y :: .long x :: r => some (l, .long (x + y) :: r)
    | _ => none
  | .lsub => match s with
    | .long y :: .long x :: r => some (l, .long (x - y) :: r)
    | _ => none
  | .lmul => match s with
    | .long y :: .long x :: r => some (l, .long (x * y) :: r)
    | _ => none
  | .land => match s with
    | .long y :: .long x :: r => some (l, .long (x &&& y) :: r)
    | _ => none
  | .lor => match s with
    | .long y :: .long x :: r => some (l, .long (x ||| y) :: r)
    | _ => none
  | .lshl => match s with
    | .int y :: .long x :: r => some (l, .long (x <<< (y.toInt64 &&& 63)) :: r)
    | _ => none
  | .lcmp => match s with
    | .long y :: .long x :: r => some (l, .int (lg_cmp x y) :: r)
    | _ => none
  | .i2l => match s with
    | .int x :: r => some (l, .long x.toInt64 :: r)
    | _ => none
  | .l2i => match s with
    | .long x :: r => some (l, .int x.toInt32 :: r)
    | _ => none
  | .i2b => match s with
    | .int x :: r => some (l, .int x.toInt8.toInt32 :: r)
    | _ => none
  | .i2c => match s with
    | .int x :: r => some (l, .int (x.toUInt32 % 65536).toInt32 :: r)
    | _ => none
  | .dup => match s with
    | .int x :: r => some (l, .int x :: .int x :: r)
    | .ref x :: r => some (l, .ref x :: .ref x :: r)
    | _ => none
  | .dup2 => match s with
    | .int x :: .ref y :: r => some (l, .int x :: .ref y :: .int x :: .ref y :: r)
    | _ => none
  | .pop => match s with
    | .int _ :: r => some (l, r)
    | .ref _ :: r => some (l, r)
    | _ => none
  | .dadd => match s with
    | .int y :: .int x :: r => match room8 r 8 with
      | true => some (l, .int (if x < y then y else x) :: r)
      | false => none
    | _ => none
  | .dsub => match s with
    | .int y :: .int x :: r => match room8 r 8 with
      | true => some (l, .int (if y < x then y else x) :: r)
      | false => none
    | _ => none
  | .dneg => match s with
    | .int x :: r => match room8 r 8 with
      | true => some (l, .int (if 0 ≤ x then x else 0 - x) :: r)
      | false => none
    | _ => none
  | .monitorenter => match s with
    | .ref _ :: r => match room8 r 8 with
      | true => some (l, r)
      | false => none
    | _ => none
  | _ => none
def popN : Nat → List Value → List Value → Option (List Value × List Value)
  | 0, s, a => some (a, s)
  | _ + 1, [], _ => none
  | n + 1, v :: s, a => popN n s (v :: a)
def lsw (x : Int32) (K : Int → Prop) (d : Int) : List (Int × Int) → Prop
  | [] => K d
  | (m, t) :: r => (x = icn m → K t) ∧ (¬ x = icn m → lsw x K d r)
/-- the handler of an exception of kind E that comes at pc: where it goes on, behind the store of what was thrown, and which local that is -/
def hfd : hndl → Nat → Nat → Option (Nat × Nat)
  | [], _, _ => none
  | (a, b, t, e, k) :: r, pc, E => match Nat.ble a pc && (Nat.blt pc b && Nat.beq e E) with
    | true => some (t, k)
    | false => hfd r pc E
def aft (hh : hndl) (pc n : Nat) (l : lvs) (r : List Value) (K : cfg → Prop) (Q : oc → hp → Prop) : oc → hp → Prop := fun o h => match o with
  | .inl v => K (pc + n, l, v.toList ++ r, h)
  | .inr e => match hh with
    | [] => Q (.inr e) h
    | x :: y => match hfd (x :: y) pc e with
      | none => False
      | some (t, k) => match sto l k .null with
        | some l' => K (t, l'.set k none, [], h)
        | none => False
def aftR (pc n : Nat) (l : lvs) (r : List Value) (K : cfg → Prop) : oc → hp → Prop := fun o h => match o with
  | .inl v => K (pc + n, l, v.toList ++ r, h)
  | .inr _ => False
def exe (C : calls) (hh : hndl) (i : Instr) (pc n : Nat) (l : lvs) (s : List Value) (h : hp) (K : cfg → Prop) (Q : oc → hp → Prop) : Prop := match i with
  | .idiv => match s with
    | .int y :: .int x :: r => ¬ y = 0 ∧ K (pc + n, l, .int (x / y) :: r, h)
    | _ => False
  | .irem => match s with
    | .int y :: .int x :: r => ¬ y = 0 ∧ K (pc + n, l, .int (x - x / y * y) :: r, h)
    | _ => False
  | .ldiv => match s with
    | .long y :: .long x :: r => ¬ y = 0 ∧ K (pc + n, l, .long (x / y) :: r, h)
    | _ => False
  | .lrem => match s with
    | .long y :: .long x :: r => ¬ y = 0 ∧ K (pc + n, l, .long (x - x / y * y) :: r, h)
    | _ => False
  | .ifCond c t => match s with
    | .int x :: r => (cnd c x 0 → K (t.toNat, l, r, h)) ∧ (ncnd c x 0 → K (pc + n, l, r, h))
    | _ => False
  | .if_icmp c t => match s with
    | .int y :: .int x :: r => (cnd c x y → K (t.toNat, l, r, h)) ∧ (ncnd c x y → K (pc + n, l, r, h))
    | _ => False
  | .goto t => K (t.toNat, l, s, h)
  | .lookupswitch d ps => match s with
    | .int x :: r => lsw x (fun t => K (t.toNat, l, r, h)) d ps.toList
    | _ => False
  | .getfield c => match s with
    | .ref a :: r => hkd h a = c / 256 + 1 ∧ match c % 4 with
      | 0 => K (pc + n, l, .int (hI h a (c / 4 % 64)) :: r, h)
      | 1 => K (pc + n, l, .long (hJ h a (c / 4 % 64)) :: r, h)
      | 2 => ∃ b, hrm h a (c / 4 % 64) = some b ∧ K (pc + n, l, .ref b :: r, h)
      | _ => K (pc + n, l, .int (hI h a (c / 4 % 64)) :: r, h)
    | _ => False
  | .putfield c => match c % 4 with
    | 0 => match s with
      | .int v :: .ref a :: r => hkd h a = c / 256 + 1 ∧ K (pc + n, l, r, setI h (wr (hI h) a (c / 4 % 64) v))
      | _ => False
    | 1 => match s with
      | .long v :: .ref a :: r => hkd h a = c / 256 + 1 ∧ K (pc + n, l, r, setJ h (wr (hJ h) a (c / 4 % 64) v))
      | _ => False
    | 2 => match s with
      | .ref v :: .ref a :: r => hkd h a = c / 256 + 1 ∧ K (pc + n, l, r, setR h (wr (hrm h) a (c / 4 % 64) (some v)))
      | _ => False
    | _ => match s with
      | .int v :: .ref a :: r => hkd h a = c / 256 + 1 ∧ (v = 0 ∨ v = 1) ∧ K (pc + n, l, r, setI h (wr (hI h) a (c / 4 % 64) v))
      | _ => False
  | .iaload => match s with
    | .int i :: .ref a :: r => hkd h a = 20 ∧ vp_in i (hln h a) ∧ K (pc + n, l, .int (hI h a i.toNatClampNeg) :: r, h)
    | _ => False
  | .saload => match s with
    | .int i :: .ref a :: r => hkd h a = 30 ∧ vp_in i (hln h a) ∧ K (pc + n, l, .int (hI h a i.toNatClampNeg) :: r, h)
    | _ => False
  | .baload => match s with
    | .int i :: .ref a :: r => hkd h a = 21 ∧ vp_in i (hln h a) ∧ K (pc + n, l, .int (hI h a i.toNatClampNeg) :: r, h)
    | _ => False
  | .laload => match s with
    | .int i :: .ref a :: r => hkd h a = 22 ∧ vp_in i (hln h a) ∧ K (pc + n, l, .long (hJ h a i.toNatClampNeg) :: r, h)
    | _ => False
  | .aaload => match s with
    | .int i :: .ref a :: r => hkd h a = 23 ∧ vp_in i (hln h a) ∧ ∃ b, hrm h a i.toNatClampNeg = some b ∧ K (pc + n, l, .ref b :: r, h)
    | _ => False
  | .iastore => match s with
    | .int x :: .int i :: .ref a :: r => hkd h a = 20 ∧ vp_in i (hln h a) ∧ K (pc + n, l, r, setI h (wr (hI h) a i.toNatClampNeg x))
    | _ => False
  | .bastore => match s with
    | .int x :: .int i :: .ref a :: r => hkd h a = 21 ∧ vp_in i (hln h a) ∧ K (pc + n, l, r, setI h (wr (hI h) a i.toNatClampNeg x.toInt8.toInt32))
    | _ => False
  | .lastore => match s with
    | .long x :: .int i :: .ref a :: r => hkd h a = 22 ∧ vp_in i (hln h a) ∧ K (pc + n, l, r, setJ h (wr (hJ h) a i.toNatClampNeg x))
    | _ => False
  | .aastore => match s with
    | .ref x :: .int i :: .ref a :: r => hkd h a = 23 ∧ hkd h x = 2 ∧ vp_in i (hln h a) ∧ K (pc + n, l, r, setR h (wr (hrm h) a i.toNatClampNeg (some x)))
    | _ => False
  | .arraylength => match s with
    | .ref a :: r => (hkd h a = 20 ∨ hkd h a = 21 ∨ hkd h a = 30) ∧ K (pc + n, l, .int (Int32.ofNat (hln h a)) :: r, h)
    | _ => False
  | .new c => hex h = true ∧ K (pc + n, l, .ref (hsz h) :: s, hnew h (c / 64 + 1) (c % 64))
  | .newarray t => match s with
    | .int x :: r => (hex h = true ∧ ¬ x < 0 ∧ x.toNatClampNeg ≤ 4096) ∧ match t with
      | .int => K (pc + n, l, .ref (hsz h) :: r, hnewa h 20 x.toNatClampNeg)
      | .byte => K (pc + n, l, .ref (hsz h) :: r, hnewa h 21 x.toNatClampNeg)
      | .long => K (pc + n, l, .ref (hsz h) :: r, hnewa h 22 x.toNatClampNeg)
      | _ => False
    | _ => False
  | .anewarray _ => match s with
    | .int x :: r => (hex h = true ∧ ¬ x < 0 ∧ x.toNatClampNeg ≤ 4096) ∧ K (pc + n, l, .ref (hsz h) :: r, hnewa h 23 x.toNatClampNeg)
    | _ => False
  | .invokestatic c => match popN (c / 16 % 16) s [] with
    | some (as, r) => room8 r 8 = true ∧ C (c / 256) as h (aft hh pc n l r K Q)
    | none => False
  | .invokevirtual c => match popN (c / 16 % 16) s [] with
    | some (.ref a :: as, r) => hkd h a = c % 16 + 1 ∧ room8 r 8 = true ∧ C (c / 256) (.ref a :: as) h (aft hh pc n l r K Q)
    | _ => False
  | .invokespecial c => match popN (c / 16 % 16) s [] with
    | some (.ref a :: as, r) => hkd h a = c % 16 + 1 ∧ room8 r 8 = true ∧ C (c / 256) (.ref a :: as) h (aftR pc n l r K)
    | _ => False
  | .invokeinterface c _ => match popN (c / 16 % 16) s [] with
    | some (as, r) => room8 r 8 = true ∧ C (c / 256) as h (aftR pc n l r K)
    | none => False
  | .ldc k => K (pc + n, l, .ref (hsa h k) :: s, h)
  | .d2i => match s with
    | .ref a :: r => hkd h a = 40 ∧ room8 r 8 = true ∧ K (pc + n, l, .int (Int32.ofNat (hln h a)) :: r, h)
    | _ => False
  | .d2l => match s with
    | .int i :: .ref a :: r => hkd h a = 40 ∧ vp_in i (hln h a) ∧ room8 r 8 = true ∧ K (pc + n, l, .int (hI h a i.toNatClampNeg) :: r, h)
    | _ => False
  | .dmul => match s with
    | .int k :: .int dp :: .ref b :: .int sp :: .ref a :: r => hkd h a = 20 ∧ hkd h b = 20 ∧ ¬ sp < 0 ∧ ¬ dp < 0 ∧ ¬ k < 0 ∧ sp.toNatClampNeg + k.toNatClampNeg ≤ hln h a ∧ dp.toNatClampNeg + k.toNatClampNeg ≤ hln h b ∧ room8 r 8 = true ∧ K (pc + n, l, r, setI h (wrow (hI h) b (va_cpy (hI h a) (hI h b) sp.toNatClampNeg dp.toNatClampNeg k.toNatClampNeg)))
    | _ => False
  | .ireturn => match s with
    | [.int x] => Q (.inl (some (.int x))) h
    | _ => False
  | .dreturn => match s with
    | [.int x] => (x = 0 ∨ x = 1) ∧ Q (.inl (some (.int x))) h
    | _ => False
  | .lreturn => match s with
    | [.long x] => Q (.inl (some (.long x))) h
    | _ => False
  | .areturn => match s with
    | [.ref x] => Q (.inl (some (.ref x))) h
    | _ => False
  | .return_ => match s with
    | [] => Q (.inl none) h
    | _ => False
  | .checkcast e => match s with
    | [] => Q (.inr e) (hexc h)
    | _ => False
  | i => match pur i l s with
    | some (l', s') => K (pc + n, l', s', h)
    | none => False
def stp (C : calls) (co : kcode) (hh : hndl) (Q : oc → hp → Prop) (K : cfg → Prop) (g : cfg) : Prop := match fetch co g.1 with
  | some (i, n) => exe C hh i g.1 n g.2.1 g.2.2.1 g.2.2.2 K Q
  | none => False
/-- the run from g ends, and with Q -/
def Wp (C : calls) (co : kcode) (hh : hndl) (Q : oc → hp → Prop) (g : cfg) : Prop := ∀ P : cfg → Prop, (∀ g, stp C co hh Q P g → P g) → P g
def stpN (C : calls) (co : kcode) (hh : hndl) (Q : oc → hp → Prop) (K : cfg → Prop) : Nat → cfg → Prop
  | 0, g => K g
  | n + 1, g => stp C co hh Q (fun g' => stpN C co hh Q K n g') g
def initL : Nat → List Value → lvs
  | n, [] => List.replicate n none
  | n, .long x :: vs => some (.long x) :: none :: initL (n - 2) vs
  | n, .double x :: vs => some (.double x) :: none :: initL (n - 2) vs
  | n, v :: vs => some v :: initL (n - 1) vs
/-- a method's run, at most d calls deep -/
def cal : Nat → calls
  | 0 => fun _ _ _ _ => False
  | d + 1 => fun j as h Q => (initL (mxOf j) as).length = mxOf j ∧ Wp (cal d) (codeOf j) (hhOf j) Q (0, initL (mxOf j) as, [], h)
def cMono (C : calls) : Prop := ∀ (j : Nat) (as : List Value) (h : hp) (Q Q' : oc → hp → Prop), (∀ o h', Q o h' → Q' o h') → C j as h Q → C j as h Q'
theorem aft_mono {hh : hndl} {pc n : Nat} {l : lvs} {r : List Value} {K K' : cfg → Prop} {Q Q' : oc → hp → Prop} (hK : ∀ g, K g → K' g) (hQ : ∀ o h, Q o h → Q' o h) (o : oc) (h : hp) (x : aft hh pc n l r K Q o h) : aft hh pc n l r K' Q' o h := by
  cases o with
  | inl v => exact hK _ x
  | inr e =>
    cases hh with
    | nil => exact hQ _ _ x
    | cons a b =>
      unfold aft at x ⊢
      dsimp only at x ⊢
      cases hf : hfd (a :: b) pc e with
      | none => rw [hf] at x; exact x.elim
      | some t =>
        rw [hf] at x
        dsimp only at x ⊢
        cases hs : sto l t.2 .null with
        | none => rw [hs] at x; exact x.elim
        | some l' => rw [hs] at x; exact hK _ x
theorem aftR_mono {pc n : Nat} {l : lvs} {r : List Value} {K K' : cfg → Prop} (hK : ∀ g, K g → K' g) (o : oc) (h : hp) (x : aftR pc n l r K o h) : aftR pc n l r K' o h := by
  cases o with
  | inl v => exact hK _ x
  | inr e => exact x
theorem lsw_mono {x : Int32} {K K' : Int → Prop} {d : Int} (h : ∀ t, K t → K' t) : ∀ ps : List (Int × Int), lsw x K d ps → lsw x K' d ps
  | [], y => h _ y
  | (_, _) :: r, y => ⟨fun e => h _ (y.1 e), fun e => lsw_mono h r (y.2 e)⟩
set_option maxHeartbeats 2000000 in
theorem exe_mono {C : calls} (hC : cMono C) {hh : hndl} {i : Instr} {pc n : Nat} {l : lvs} {s : List Value} {h : hp} {K K' : cfg → Prop} {Q Q' : oc → hp → Prop} (hK : ∀ g, K g → K' g) (hQ : ∀ o h, Q o h → Q' o h) (x : exe C hh i pc n l s h K Q) : exe C hh i pc n l s h K' Q' := by
  unfold exe at x ⊢
  split at x
  all_goals (try dsimp only at x ⊢)
  all_goals first
    | exact hK _ x
    | exact ⟨x.1, hK _ x.2⟩
    | skip
  all_goals (split at x <;> first
    | exact x.elim
    | exact hQ _ _ x
    | exact hK _ x
    | exact ⟨x.1, hK _ x.2⟩
    | exact ⟨x.1, hQ _ _ x.2⟩
    | exact ⟨fun e => hK _ (x.1 e), fun e => hK _ (x.2 e)⟩
    | exact ⟨x.1, x.2.1, hK _ x.2.2⟩
    | exact ⟨x.1, x.2.1, x.2.2.1, hK _ x.2.2.2⟩
    | exact lsw_mono (fun t => hK _) _ x
    | exact hC _ _ _ _ _ (aft_mono hK hQ) x
    | exact ⟨x.1, hC _ _ _ _ _ (aft_mono hK hQ) x.2⟩
    | exact ⟨x.1, x.2.1, hC _ _ _ _ _ (aft_mono hK hQ) x.2.2⟩
    | exact ⟨x.1, hC _ _ _ _ _ (aftR_mono hK) x.2⟩
    | exact ⟨x.1, x.2.1, hC _ _ _ _ _ (aftR_mono hK) x.2.2⟩
    | exact ⟨x.1, x.2.1, x.2.2.choose, x.2.2.choose_spec.1, hK _ x.2.2.choose_spec.2⟩
    | exact ⟨x.1, x.2.1, x.2.2.1, x.2.2.2.1, x.2.2.2.2.1, x.2.2.2.2.2.1, x.2.2.2.2.2.2.1, x.2.2.2.2.2.2.2.1, hK _ x.2.2.2.2.2.2.2.2⟩
    | skip)
  all_goals first
    | (obtain ⟨x1, x2⟩ := x
       refine ⟨x1, ?_⟩
       revert x2
       split <;> intro x2 <;> first | exact hK _ x2 | exact ⟨x2.choose, x2.choose_spec.1, hK _ x2.choose_spec.2⟩)
    | (obtain ⟨x1, x3⟩ := x
       refine ⟨x1, ?_⟩
       rename ArrayType => t
       cases t <;> first | exact hK _ x3 | exact x3)
    | (split at x <;> first | exact x.elim | exact ⟨x.1, hK _ x.2⟩ | exact ⟨x.1, x.2.1, hK _ x.2.2⟩)
theorem stp_mono {C : calls} (hC : cMono C) {co : kcode} {hh : hndl} {K K' : cfg → Prop} {Q Q' : oc → hp → Prop} (hK : ∀ g, K g → K' g) (hQ : ∀ o h, Q o h → Q' o h) {g : cfg} (x : stp C co hh Q K g) : stp C co hh Q' K' g := by
  unfold stp at x ⊢
  cases hf : fetch co g.1 with
  | none => rw [hf] at x; exact x.elim
  | some r => rw [hf] at x; exact exe_mono hC hK hQ x
theorem Wp_in {C : calls} (hC : cMono C) {co : kcode} {hh : hndl} {Q : oc → hp → Prop} {g : cfg} (x : stp C co hh Q (Wp C co hh Q) g) : Wp C co hh Q g :=
  fun P hP => hP g (stp_mono hC (fun _ y => y P hP) (fun _ _ z => z) x)
theorem Wp_mono {C : calls} (hC : cMono C) {co : kcode} {hh : hndl} {Q Q' : oc → hp → Prop} (hQ : ∀ o h, Q o h → Q' o h) {g : cfg} (x : Wp C co hh Q g) : Wp C co hh Q' g :=
  fun P hP => x P (fun g y => hP g (stp_mono hC (fun _ z => z) hQ y))
theorem Wp_run {C : calls} (hC : cMono C) {co : kcode} {hh : hndl} {Q : oc → hp → Prop} : ∀ (n : Nat) {g : cfg}, stpN C co hh Q (Wp C co hh Q) n g → Wp C co hh Q g
  | 0, _, x => x
  | n + 1, _, x => Wp_in hC (stp_mono hC (fun _ y => Wp_run hC n y) (fun _ _ z => z) x)
theorem cal_mono : ∀ d : Nat, cMono (cal d)
  | 0 => fun _ _ _ _ _ _ x => x
  | d + 1 => fun _ _ _ _ _ hQ x => ⟨x.1, Wp_mono (cal_mono d) hQ x.2⟩
theorem run_ {d : Nat} {co : kcode} {hh : hndl} {Q : oc → hp → Prop} {g : cfg} (n : Nat) (x : stpN (cal d) co hh Q (Wp (cal d) co hh Q) n g) : Wp (cal d) co hh Q g := Wp_run (cal_mono d) n x
/-! what comes back of a call: an int (a boolean), a long, a reference, nothing; X: an exception -/
def kI (F : Int32 → hp → Prop) (X : Nat → hp → Prop) : oc → hp → Prop := fun o h => match o with
  | .inl (some (.int r)) => F r h
  | .inr e => X e h
  | _ => False
def kL (F : Int64 → hp → Prop) (X : Nat → hp → Prop) : oc → hp → Prop := fun o h => match o with
  | .inl (some (.long r)) => F r h
  | .inr e => X e h
  | _ => False
def kR (F : Nat → hp → Prop) (X : Nat → hp → Prop) : oc → hp → Prop := fun o h => match o with
  | .inl (some (.ref r)) => F r h
  | .inr e => X e h
  | _ => False
def kV (F : hp → Prop) (X : Nat → hp → Prop) : oc → hp → Prop := fun o h => match o with
  | .inl none => F h
  | .inr e => X e h
  | _ => False
section CALL
variable {d j pc n : Nat} {as : List Value} {h : hp} {hh : hndl} {l : lvs} {r : List Value} {K : cfg → Prop} {Q : oc → hp → Prop} {X : Nat → hp → Prop}
theorem c_intX (x : cal d j as h (kI (fun v h2 => K (pc + n, l, .int v :: r, h2)) X)) (hX : ∀ e h2, X e h2 → aft hh pc n l r K Q (.inr e) h2) : cal d j as h (aft hh pc n l r K Q) :=
  cal_mono d _ _ _ _ _ (fun o h2 y => match o, y with
    | .inl (some (.int _)), y => y
    | .inr e, y => hX e h2 y) x
theorem c_intR (x : cal d j as h (kI (fun v h2 => K (pc + n, l, .int v :: r, h2)) (fun _ _ => False))) : cal d j as h (aftR pc n l r K) :=
  cal_mono d _ _ _ _ _ (fun o h2 y => match o, y with
    | .inl (some (.int _)), y => y
    | .inr _, y => y) x
theorem c_int (x : cal d j as h (kI (fun v h2 => K (pc + n, l, .int v :: r, h2)) (fun e h2 => Q (.inr e) h2))) : cal d j as h (aft [] pc n l r K Q) := c_intX x (fun _ _ y => y)
theorem c_lngX (x : cal d j as h (kL (fun v h2 => K (pc + n, l, .long v :: r, h2)) X)) (hX : ∀ e h2, X e h2 → aft hh pc n l r K Q (.inr e) h2) : cal d j as h (aft hh pc n l r K Q) :=
  cal_mono d _ _ _ _ _ (fun o h2 y => match o, y with
    | .inl (some (.long _)), y => y
    | .inr e, y => hX e h2 y) x
theorem c_lngR (x : cal d j as h (kL (fun v h2 => K (pc + n, l, .long v :: r, h2)) (fun _ _ => False))) : cal d j as h (aftR pc n l r K) :=
  cal_mono d _ _ _ _ _ (fun o h2 y => match o, y with
    | .inl (some (.long _)), y => y
    | .inr _, y => y) x
theorem c_lng (x : cal d j as h (kL (fun v h2 => K (pc + n, l, .long v :: r, h2)) (fun e h2 => Q (.inr e) h2))) : cal d j as h (aft [] pc n l r K Q) := c_lngX x (fun _ _ y => y)
theorem c_refX (x : cal d j as h (kR (fun v h2 => K (pc + n, l, .ref v :: r, h2)) X)) (hX : ∀ e h2, X e h2 → aft hh pc n l r K Q (.inr e) h2) : cal d j as h (aft hh pc n l r K Q) :=
  cal_mono d _ _ _ _ _ (fun o h2 y => match o, y with
    | .inl (some (.ref _)), y => y
    | .inr e, y => hX e h2 y) x
theorem c_refR (x : cal d j as h (kR (fun v h2 => K (pc + n, l, .ref v :: r, h2)) (fun _ _ => False))) : cal d j as h (aftR pc n l r K) :=
  cal_mono d _ _ _ _ _ (fun o h2 y => match o, y with
    | .inl (some (.ref _)), y => y
    | .inr _, y => y) x
theorem c_ref (x : cal d j as h (kR (fun v h2 => K (pc + n, l, .ref v :: r, h2)) (fun e h2 => Q (.inr e) h2))) : cal d j as h (aft [] pc n l r K Q) := c_refX x (fun _ _ y => y)
theorem c_voidX (x : cal d j as h (kV (fun h2 => K (pc + n, l, r, h2)) X)) (hX : ∀ e h2, X e h2 → aft hh pc n l r K Q (.inr e) h2) : cal d j as h (aft hh pc n l r K Q) :=
  cal_mono d _ _ _ _ _ (fun o h2 y => match o, y with
    | .inl none, y => y
    | .inr e, y => hX e h2 y) x
theorem c_voidR (x : cal d j as h (kV (fun h2 => K (pc + n, l, r, h2)) (fun _ _ => False))) : cal d j as h (aftR pc n l r K) :=
  cal_mono d _ _ _ _ _ (fun o h2 y => match o, y with
    | .inl none, y => y
    | .inr _, y => y) x
theorem c_void (x : cal d j as h (kV (fun h2 => K (pc + n, l, r, h2)) (fun e h2 => Q (.inr e) h2))) : cal d j as h (aft [] pc n l r K Q) := c_voidX x (fun _ _ y => y)
end CALL
/-- the start of a method -/
theorem cal_in {d j : Nat} {as : List Value} {h : hp} {Q : oc → hp → Prop} (hl : (initL (mxOf j) as).length = mxOf j) (x : Wp (cal d) (codeOf j) (hhOf j) Q (0, initL (mxOf j) as, [], h)) : cal (d + 1) j as h Q := ⟨hl, x⟩
theorem eqv {α : Type} {P : α → Prop} {a b : α} (e : a = b) (h : P b) : P a := e ▸ h
