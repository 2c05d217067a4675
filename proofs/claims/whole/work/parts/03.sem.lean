/-! THE PURE MACHINE: a method's bytes run over a world of numbered cells. A cell's number stands for its address; the numbers in the cells lie in two tables X (ints) and Y (longs). -/
abbrev HX : Type := Nat → Nat → Int32
abbrev HY : Type := Nat → Nat → Int64
def up2 {α : Type} (X : Nat → Nat → α) (k i : Nat) (v : α) : Nat → Nat → α := fun a b => if a = k then (if b = i then v else X a b) else X a b
/-- a field's place in an object: .inl 0 an int, .inl 1 a long, .inr a reference -/
abbrev Sk : Type := Nat ⊕ Option Nat
/-- a cell: an object (its class' number, its fields) or an array (0 int, 1 long, 2 byte, 3 boolean; its length) -/
abbrev Sh : Type := (Nat × List Sk) ⊕ (Nat × Nat)
abbrev Ly : Type := List Sh
/-- how a method ends: an answer, or an exception's class -/
abbrev Rs : Type := Option Value ⊕ String
abbrev Qt : Type := Rs → Ly → HX → HY → Prop
abbrev Tm : Type := List Value → Ly → HX → HY → Qt → Prop
abbrev Lv : Type := List (Option Value)
abbrev Kt : Type := Nat → Lv → List Value → Ly → HX → HY → Nat × Nat → Prop
/-- a call: the callee; how many arguments with the receiver; what it answers (0 nothing, 1 an int, 2 a long); its cells and slots; (none: the caller's world as it is, nothing made) the caller's world, the cells that the callee gets, its world, its world and the caller's behind the call; the receiver's class, where it is one of the world -/
abbrev Ce : Type := Tm × Nat × Nat × (Nat × Nat) × Option (Ly × List Nat × Ly × Ly × Ly) × Option Nat
/-- an instruction: place, itself, its length, where it may go, its constant -/
abbrev Cd : Type := Nat × Instr × Nat × List Nat × Int32
/-- code; fields by their entry (class' number, place); calls by their place; throws by their place; what 'new' makes by its entry; constants by their entry; the most cells and slots, and whether it answers a boolean -/
abbrev Gm : Type := List Cd × (Nat → Option (Nat × Nat)) × (Nat → Option Ce) × (Nat → Option String) × (Nat → Option (Nat × List Sk)) × (Nat → Option Value) × (Nat × Nat × Bool)
def gMc (g : Gm) : Nat := g.2.2.2.2.2.2.1
def gMs (g : Gm) : Nat := g.2.2.2.2.2.2.2.1
def cdAt : List Cd → Nat → Option (Instr × Nat × List Nat × Int32)
  | [], _ => none
  | q :: l, pc => if q.1 = pc then some q.2 else cdAt l pc
def ldv (lv : Lv) (i : Nat) : Option Value := (lv[i]?).getD none
/-- storing: a long takes the place behind it too; a long ahead that is cut is gone -/
def cut1 (lv : Lv) (i : Nat) : Lv := match i with
  | 0 => lv
  | j + 1 => match ldv lv j with
    | some (.long _) => lv.set j none
    | some (.double _) => lv.set j none
    | _ => lv
def stv1 (lv : Lv) (i : Nat) (v : Value) : Lv := (cut1 lv i).set i (some v)
def stv2 (lv : Lv) (i : Nat) (v : Value) : Lv := ((cut1 lv i).set i (some v)).set (i + 1) none
def icm (c : ClassFile.Cond) (x y : Int32) : Prop := match c with
  | .eq => x = y
  | .ne => ¬ x = y
  | .lt => x < y
  | .ge => y ≤ x
  | .gt => y < x
  | .le => x ≤ y
/-- instructions that take numbers off the stack and put numbers there -/
def pureI (i : Instr) (kc : Int32) (st : List Value) : Option (List Value) := match i with
  | .iconst _ => some (.int kc :: st)
  | .lconst n => some (.long (lN n.val) :: st)
  | .bipush _ => some (.int kc :: st)
  | .sipush _ => some (.int kc :: st)
  | .aconst_null => some (.null :: st)
  | .iadd => match st with | .int y :: .int x :: r => some (.int (x + y) :: r) | _ => none
  | .isub => match st with | .int y :: .int x :: r => some (.int (x - y) :: r) | _ => none
  | .imul => match st with | .int y :: .int x :: r => some (.int (x * y) :: r) | _ => none
  | .iand => match st with | .int y :: .int x :: r => some (.int (x &&& y) :: r) | _ => none
  | .ior => match st with | .int y :: .int x :: r => some (.int (x ||| y) :: r) | _ => none
  | .ixor => match st with | .int y :: .int x :: r => some (.int (x ^^^ y) :: r) | _ => none
  | .ishl => match st with | .int y :: .int x :: r => some (.int (x <<< (y &&& 31)) :: r) | _ => none
  | .ishr => match st with | .int y :: .int x :: r => some (.int (x >>> (y &&& 31)) :: r) | _ => none
  | .iushr => match st with | .int y :: .int x :: r => some (.int (x.toUInt32 >>> (y.toUInt32 &&& Int32.toUInt32 31)).toInt32 :: r) | _ => none
  | .ineg => match st with | .int x :: r => some (.int (-x) :: r) | _ => none
  | .ladd => match st with | .long y :: .long x :: r => some (.long (x + y) :: r) | _ => none
  | .lsub => match st with | .long y :: .long x :: r => some (.long (x - y) :: r) | _ => none
  | .land => match st with | .long y :: .long x :: r => some (.long (x &&& y) :: r) | _ => none
  | .lor => match st with | .long y :: .long x :: r => some (.long (x ||| y) :: r) | _ => none
  | .lxor => match st with | .long y :: .long x :: r => some (.long (x ^^^ y) :: r) | _ => none
  | .lshl => match st with | .int y :: .long x :: r => some (.long (x <<< (y.toInt64 &&& 63)) :: r) | _ => none
  | .lshr => match st with | .int y :: .long x :: r => some (.long (x >>> (y.toInt64 &&& 63)) :: r) | _ => none
  | .lushr => match st with | .int y :: .long x :: r => some (.long (x.toUInt64 >>> (y.toInt64.toUInt64 &&& Int64.toUInt64 63)).toInt64 :: r) | _ => none
  | .lneg => match st with | .long x :: r => some (.long (-x) :: r) | _ => none
  | .i2l => match st with | .int x :: r => some (.long x.toInt64 :: r) | _ => none
  | .l2i => match st with | .long x :: r => some (.int x.toInt32 :: r) | _ => none
  | .i2b => match st with | .int x :: r => some (.int x.toInt8.toInt32 :: r) | _ => none
  | .i2c => match st with | .int x :: r => some (.int (x.toUInt32 % 65536).toInt32 :: r) | _ => none
  | .dup => match st with
    | .int x :: r => some (.int x :: .int x :: r)
    | .ref a :: r => some (.ref a :: .ref a :: r)
    | _ => none
  | .dup2 => match st with
    | .int y :: .ref a :: r => some (.int y :: .ref a :: .int y :: .ref a :: r)
    | .int y :: .int x :: r => some (.int y :: .int x :: .int y :: .int x :: r)
    | .long x :: r => some (.long x :: .long x :: r)
    | _ => none
  | .pop => match st with
    | .int _ :: r => some r
    | _ => none
  | .pop2 => match st with
    | .long _ :: r => some r
    | _ => none
  | _ => none
/-- locals onto the stack -/
def loadI (i : Instr) (lv : Lv) : Option Value := match i with
  | .iload k => match ldv lv k with | some (.int x) => some (.int x) | _ => none
  | .iload_n k => match ldv lv k.val with | some (.int x) => some (.int x) | _ => none
  | .lload k => match ldv lv k with | some (.long x) => some (.long x) | _ => none
  | .lload_n k => match ldv lv k.val with | some (.long x) => some (.long x) | _ => none
  | .aload k => match ldv lv k with | some (.ref a) => some (.ref a) | _ => none
  | .aload_n k => match ldv lv k.val with | some (.ref a) => some (.ref a) | _ => none
  | _ => none
/-- .. and back -/
def storeI (i : Instr) (lv : Lv) (v : Value) : Option Lv := match i with
  | .istore k => match v with | .int x => if k < lv.length then some (stv1 lv k (.int x)) else none | _ => none
  | .istore_n k => match v with | .int x => if k.val < lv.length then some (stv1 lv k.val (.int x)) else none | _ => none
  | .lstore k => match v with | .long x => if k + 1 < lv.length then some (stv2 lv k (.long x)) else none | _ => none
  | .lstore_n k => match v with | .long x => if k.val + 1 < lv.length then some (stv2 lv k.val (.long x)) else none | _ => none
  | .astore k => match v with | .ref a => if k < lv.length then some (stv1 lv k (.ref a)) else none | _ => none
  | .astore_n k => match v with | .ref a => if k.val < lv.length then some (stv1 lv k.val (.ref a)) else none | _ => none
  | _ => none
def tyT (t : Nat) : FieldType := match t with
  | 0 => .int
  | 1 => .long
  | 2 => .byte
  | _ => .boolean
/-- the type of field k of class ci -/
def tyF (ci k : Nat) : FieldType := match ci with
  | 0 => tyX0 k
  | 1 => tyX1 k
  | 2 => tyX2 k
  | 3 => tyX3 k
  | 4 => tyX4 k
  | 5 => tyX5 k
  | 6 => tyX6 k
  | 7 => tyX7 k
  | 8 => tyX8 k
  | _ => tyX9 k
/-- references of a callee's world, seen from the caller's -/
def rnV (sel : List Nat) (v : Value) : Value := match v with
  | .ref a => .ref (if a < 1000 then sel.idxOf a else a)
  | v => v
def okV (sel : List Nat) (v : Value) : Bool := match v with
  | .ref a => decide (1000 ≤ a) || sel.contains a
  | .null => true
  | .int _ => true
  | .long _ => true
  | _ => false
def rnK (f : Nat → Nat) (s : Sk) : Sk := match s with
  | .inl t => .inl t
  | .inr o => .inr (o.map f)
def rnS (f : Nat → Nat) (s : Sh) : Sh := match s with
  | .inl (ci, sl) => .inl (ci, sl.map (rnK f))
  | .inr q => .inr q
/-- callee's number to caller's, ahead of the call and behind it: n cells in the caller's world -/
def selF (sel : List Nat) (k : Nat) : Nat := if k < 1000 then sel.getD k 0 else k
def bkN (sel : List Nat) (n k : Nat) : Nat := if 1000 ≤ k then k else if k < sel.length then sel.getD k 0 else n + (k - sel.length)
/-- the heap behind a call: what the callee has, by its numbers; the rest stays -/
def mg {α : Type} (sel : List Nat) (n : Nat) (X X2 : Nat → α) : Nat → α := fun a => if a < n then (if sel.contains a then X2 (sel.idxOf a) else X a) else X2 (sel.length + (a - n))
def sb {α : Type} (sel : List Nat) (X : Nat → α) : Nat → α := fun k => X (sel.getD k 0)
def okA (n : Nat) (v : Option Value) : Bool := match v with
  | some (.ref a) => Nat.blt a n || Nat.ble 1000 a
  | _ => true
def okK (n : Nat) (s : Sk) : Bool := match s with
  | .inr (some a) => Nat.blt a n || Nat.ble 1000 a
  | _ => true
def okB (n : Nat) (s : Sh) : Bool := match s with
  | .inl (_, sl) => sl.all (okK n)
  | _ => true
/-- the callee's cells are those that the caller has there -/
def selOk (sel : List Nat) (L Lc : Ly) : Bool := decide (sel.length = Lc.length) && Nat.ble sel.length 1000 && (List.range sel.length).all (fun k => decide (sel.getD k 0 < L.length) && decide (L[sel.getD k 0]? = (Lc[k]?).map (rnS (selF sel)))) && decide sel.Nodup
/-- behind the call: old cells in their places, new ones at the end -/
def selBk (sel : List Nat) (L Lc2 L2 : Ly) : Bool := Nat.ble sel.length Lc2.length && decide (L2.length = L.length + (Lc2.length - sel.length)) && Nat.ble L2.length 1000 && Nat.ble Lc2.length 1000 && Lc2.all (okB Lc2.length) && (List.range L2.length).all (fun a => decide (L2[a]? = if a < L.length then (if sel.contains a then (Lc2[sel.idxOf a]?).map (rnS (bkN sel L.length)) else L[a]?) else (Lc2[sel.length + (a - L.length)]?).map (rnS (bkN sel L.length))))
/-- a field as a value -/
def fdV (X : HX) (Y : HY) (a k : Nat) (s : Sk) : Value := match s with
  | .inl t => if t = 1 then .long (Y a k) else .int (X a k)
  | .inr none => .null
  | .inr (some b) => .ref b
def tswL (K : Nat → Prop) (x : Int32) : Int → List Nat → Prop
  | _, [] => True
  | v, t :: ts => (x.toInt = v → K t) ∧ tswL K x (v + 1) ts
def retK (rk : Nat) (res : Rs) (K : List Value → Prop) : Prop := match rk with
  | 0 => res = .inl none ∧ K []
  | 1 => ∃ x : Int32, res = .inl (some (.int x)) ∧ K [.int x]
  | _ => ∃ x : Int64, res = .inl (some (.long x)) ∧ K [.long x]
def callP (ce : Ce) (Q : Qt) (K : List Value → Ly → HX → HY → Prop) (args : List Value) (L : Ly) (X : HX) (Y : HY) : Prop := match ce with
  | (T, _, rk, _, none, _) => T args L X Y (fun res L2 X2 Y2 => L2 = L ∧ ((retK rk res fun v => K v L X2 Y2) ∨ ∃ E, res = .inr E ∧ Q (.inr E) L X2 Y2))
  | (T, _, rk, _, some (Lr, sel, Lc, Lc2, L2), _) => L = Lr ∧ T (args.map (rnV sel)) Lc (sb sel X) (sb sel Y) (fun res L3 X3 Y3 => L3 = Lc2 ∧ ((retK rk res fun v => K v L2 (mg sel Lr.length X X3) (mg sel Lr.length Y Y3)) ∨ ∃ E, res = .inr E ∧ Q (.inr E) L2 (mg sel Lr.length X X3) (mg sel Lr.length Y Y3)))
def ceChk (ce : Ce) (lv : Lv) (st : List Value) (L : Ly) : Bool := match ce.2.2.2.2.1 with
  | none => true
  | some (_, sel, Lc, Lc2, _) => (st.take ce.2.1).all (okV sel) && (Nat.beq Lc2.length Lc.length || (lv.all (okA L.length) && st.all (fun v => okA L.length (some v)) && L.all (okB L.length)))
def goB (b : Bool) (P : Prop) : Prop := match b with
  | true => P
  | false => False
/-- a field's place is of the field's type -/
def skOk (ci j : Nat) (s : Sk) : Bool := match s, tyF ci j with
  | .inl 0, .int => true
  | .inl 1, .long => true
  | .inl 2, .boolean => true
  | .inr _, .array _ => true
  | .inr _, .object _ => true
  | _, _ => false
def arT (t : ArrayType) : Option Nat := match t with
  | .int => some 0
  | .long => some 1
  | .byte => some 2
  | .boolean => some 3
  | _ => none
/-- a new cell's numbers are 0 -/
def upR {α : Type} [OfNat α 0] (X : Nat → Nat → α) (n : Nat) : Nat → Nat → α := fun a => if a = n then (fun _ => 0) else X a
def rcOk (rc : Option Nat) (args : List Value) (L : Ly) : Bool := match rc with
  | none => true
  | some ci => match args with
    | .ref b :: _ => match L[b]? with
      | some (.inl (ci2, _)) => Nat.beq ci ci2
      | _ => false
    | _ => false
def pmCall (g : Gm) (Q : Qt) (K : Kt) (pc len : Nat) (lv : Lv) (st : List Value) (L : Ly) (X : HX) (Y : HY) (z : Nat × Nat) : Prop := match g.2.2.1 pc with
  | none => False
  | some ce => goB (rcOk ce.2.2.2.2.2 (st.take ce.2.1).reverse L && Nat.ble ce.2.1 st.length && Nat.ble (z.1 + ce.2.2.2.1.1) (gMc g) && Nat.ble (z.2 + ce.2.2.2.1.2) (gMs g) && Nat.ble (((st.drop ce.2.1).map fun v => v.category).sum) 8 && ceChk ce lv st L)
      (callP ce Q (fun v L2 X2 Y2 => K (pc + len) lv (v ++ st.drop ce.2.1) L2 X2 Y2 (z.1 + ce.2.2.2.1.1, z.2 + ce.2.2.2.1.2)) (st.take ce.2.1).reverse L X Y)
def stepP (g : Gm) (Q : Qt) (K : Kt) (pc : Nat) (lv : Lv) (st : List Value) (L : Ly) (X : HX) (Y : HY) (z : Nat × Nat) : Prop :=
  match cdAt g.1 pc with
  | none => False
  | some (i, len, tg, kc) =>
    match i with
    | .goto _ => match tg with
      | [t] => K t lv st L X Y z
      | _ => False
    | .if_icmp c _ => match tg, st with
      | [t], .int y :: .int x :: r => (icm c x y → K t lv r L X Y z) ∧ (¬ icm c x y → K (pc + len) lv r L X Y z)
      | _, _ => False
    | .ifCond c _ => match tg, st with
      | [t], .int x :: r => (icm c x 0 → K t lv r L X Y z) ∧ (¬ icm c x 0 → K (pc + len) lv r L X Y z)
      | _, _ => False
    | .ifnonnull _ => match tg, st with
      | [t], .ref _ :: r => K t lv r L X Y z
      | [_], .null :: r => K (pc + len) lv r L X Y z
      | _, _ => False
    | .lcmp => match st with
      | .long y :: .long x :: r => K (pc + len) lv (.int (lg_cmp x y) :: r) L X Y z
      | _ => False
    | .tableswitch _ lo hi _ => match tg, st with
      | d :: ts, .int x :: r => (x.toInt < lo ∨ hi < x.toInt → K d lv r L X Y z) ∧ tswL (fun t => K t lv r L X Y z) x lo ts
      | _, _ => False
    | .idiv => match st with
      | .int y :: .int x :: r => ¬ y = 0 ∧ K (pc + len) lv (.int (x / y) :: r) L X Y z
      | _ => False
    | .irem => match st with
      | .int y :: .int x :: r => ¬ y = 0 ∧ K (pc + len) lv (.int (x - x / y * y) :: r) L X Y z
      | _ => False
    | .iinc k _ => match ldv lv k with
      | some (.int x) => K (pc + len) (lv.set k (some (.int (x + kc)))) st L X Y z
      | _ => False
    | .ldc k => match g.2.2.2.2.2.1 k with
      | some v => K (pc + len) lv (v :: st) L X Y z
      | none => False
    | .ldc_w k => match g.2.2.2.2.2.1 k with
      | some v => K (pc + len) lv (v :: st) L X Y z
      | none => False
    | .ldc2_w k => match g.2.2.2.2.2.1 k with
      | some v => K (pc + len) lv (v :: st) L X Y z
      | none => False
    | .arraylength => match st with
      | .ref a :: r => match L[a]? with
        | some (.inr (_, n)) => K (pc + len) lv (.int (Int32.ofNat n) :: r) L X Y z
        | _ => False
      | _ => False
    | .iaload => match st with
      | .int j :: .ref a :: r => match L[a]? with
        | some (.inr (0, n)) => vp_in j n ∧ K (pc + len) lv (.int (X a j.toNatClampNeg) :: r) L X Y z
        | _ => False
      | _ => False
    | .baload => match st with
      | .int j :: .ref a :: r => match L[a]? with
        | some (.inr (2, n)) => vp_in j n ∧ K (pc + len) lv (.int (X a j.toNatClampNeg) :: r) L X Y z
        | some (.inr (3, n)) => vp_in j n ∧ K (pc + len) lv (.int (X a j.toNatClampNeg) :: r) L X Y z
        | _ => False
      | _ => False
    | .laload => match st with
      | .int j :: .ref a :: r => match L[a]? with
        | some (.inr (1, n)) => vp_in j n ∧ K (pc + len) lv (.long (Y a j.toNatClampNeg) :: r) L X Y z
        | _ => False
      | _ => False
    | .iastore => match st with
      | .int x :: .int j :: .ref a :: r => match L[a]? with
        | some (.inr (0, n)) => vp_in j n ∧ K (pc + len) lv r L (up2 X a j.toNatClampNeg x) Y z
        | _ => False
      | _ => False
    | .bastore => match st with
      | .int x :: .int j :: .ref a :: r => match L[a]? with
        | some (.inr (2, n)) => vp_in j n ∧ K (pc + len) lv r L (up2 X a j.toNatClampNeg (vp_nar .byte x)) Y z
        | some (.inr (3, n)) => vp_in j n ∧ K (pc + len) lv r L (up2 X a j.toNatClampNeg (vp_nar .boolean x)) Y z
        | _ => False
      | _ => False
    | .lastore => match st with
      | .long x :: .int j :: .ref a :: r => match L[a]? with
        | some (.inr (1, n)) => vp_in j n ∧ K (pc + len) lv r L X (up2 Y a j.toNatClampNeg x) z
        | _ => False
      | _ => False
    | .getfield k => match st, g.2.1 k with
      | .ref a :: r, some (ci, j) => match L[a]? with
        | some (.inl (ci2, sl)) => match sl[j]? with
          | some s => goB (Nat.beq ci ci2) (K (pc + len) lv (fdV X Y a j s :: r) L X Y z)
          | none => False
        | _ => False
      | _, _ => False
    | .putfield k => match st, g.2.1 k with
      | v :: .ref a :: r, some (ci, j) => match L[a]? with
        | some (.inl (ci2, sl)) => match sl[j]?, v with
          | some (.inl 0), .int x => goB (Nat.beq ci ci2 && skOk ci j (.inl 0)) (K (pc + len) lv r L (up2 X a j x) Y z)
          | some (.inl 1), .long x => goB (Nat.beq ci ci2 && skOk ci j (.inl 1)) (K (pc + len) lv r L X (up2 Y a j x) z)
          | some (.inl 2), .int x => goB (Nat.beq ci ci2 && skOk ci j (.inl 2)) ((x = 0 ∨ x = 1) ∧ K (pc + len) lv r L (up2 X a j x) Y z)
          | some (.inr _), .ref b => goB (Nat.beq ci ci2 && skOk ci j (.inr none)) (K (pc + len) lv r (L.set a (.inl (ci2, sl.set j (.inr (some b))))) X Y z)
          | some (.inr _), .null => goB (Nat.beq ci ci2 && skOk ci j (.inr none)) (K (pc + len) lv r (L.set a (.inl (ci2, sl.set j (.inr none)))) X Y z)
          | _, _ => False
        | _ => False
      | _, _ => False
    | .new k => match g.2.2.2.1 pc with
      | some E => goB (Nat.ble (z.1 + 1) (gMc g) && Nat.ble (z.2 + 6) (gMs g) && Nat.ble (st.map fun v => v.category).sum 8) (Q (.inr E) L X Y)
      | none => match g.2.2.2.2.1 k with
        | some (ci, sl) => goB (Nat.ble (z.1 + 1) (gMc g) && Nat.ble (z.2 + sl.length) (gMs g) && Nat.ble L.length 999 && lv.all (okA L.length) && st.all (fun v => okA L.length (some v)) && L.all (okB L.length)) (K (pc + len) lv (.ref L.length :: st) (L ++ [.inl (ci, sl)]) (upR X L.length) (upR Y L.length) (z.1 + 1, z.2 + sl.length))
        | none => False
    | .newarray t => match st, arT t with
      | .int n :: r, some tag => ¬ n < 0 ∧ n.toNatClampNeg ≤ 5000 ∧ z.2 + n.toNatClampNeg ≤ (gMs g) ∧ goB (Nat.ble (z.1 + 1) (gMc g) && Nat.ble L.length 999 && lv.all (okA L.length) && r.all (fun v => okA L.length (some v)) && L.all (okB L.length)) (K (pc + len) lv (.ref L.length :: r) (L ++ [.inr (tag, n.toNatClampNeg)]) (upR X L.length) (upR Y L.length) (z.1 + 1, z.2 + n.toNatClampNeg))
      | _, _ => False
    | .invokevirtual _ => pmCall g Q K pc len lv st L X Y z
    | .invokestatic _ => pmCall g Q K pc len lv st L X Y z
    | .invokespecial _ => match g.2.2.1 pc with
      | none => match st with
        | .ref _ :: r => goB (Nat.ble ((r.map fun v => v.category).sum) 8) (K (pc + len) lv r L X Y z)
        | _ => False
      | some _ => pmCall g Q K pc len lv st L X Y z
    | .ireturn => match st with
      | [.int x] => goB (Nat.ble z.1 (gMc g) && Nat.ble z.2 (gMs g)) (match g.2.2.2.2.2.2.2.2 with
        | true => (x = 0 ∨ x = 1) ∧ Q (.inl (some (.int x))) L X Y
        | false => Q (.inl (some (.int x))) L X Y)
      | _ => False
    | .lreturn => match st with
      | [.long x] => goB (Nat.ble z.1 (gMc g) && Nat.ble z.2 (gMs g)) (Q (.inl (some (.long x))) L X Y)
      | _ => False
    | .return_ => match st with
      | [] => goB (Nat.ble z.1 (gMc g) && Nat.ble z.2 (gMs g)) (Q (.inl none) L X Y)
      | _ => False
    | _ => match loadI i lv with
      | some v => K (pc + len) lv (v :: st) L X Y z
      | none => match st with
        | v :: r => match storeI i lv v with
          | some lv2 => K (pc + len) lv2 r L X Y z
          | none => match pureI i kc (v :: r) with
            | some st2 => K (pc + len) lv st2 L X Y z
            | none => False
        | [] => match pureI i kc [] with
            | some st2 => K (pc + len) lv st2 L X Y z
            | none => False
/-- the machine's own way from a place on: the least that the steps make -/
def WPx (g : Gm) (Q : Qt) : Kt := fun pc lv st L X Y z => ∀ P : Kt, (∀ pc lv st L X Y z, stepP g Q P pc lv st L X Y z → P pc lv st L X Y z) → P pc lv st L X Y z
def Tmono (T : Tm) : Prop := ∀ args L X Y (Q Q' : Qt), (∀ r L X Y, Q r L X Y → Q' r L X Y) → T args L X Y Q → T args L X Y Q'
def Gmono (g : Gm) : Prop := ∀ pc ce, g.2.2.1 pc = some ce → Tmono ce.1
theorem goB_mono {b : Bool} {P P' : Prop} (h : P → P') (k : goB b P) : goB b P' := by
  cases b
  · exact k
  · exact h k
theorem goB_t {b : Bool} {P : Prop} (k : goB b P) : b = true ∧ P := by
  cases b
  · exact k.elim
  · exact ⟨rfl, k⟩
theorem retK_mono {rk : Nat} {res : Rs} {K K' : List Value → Prop} (h : ∀ v, K v → K' v) (k : retK rk res K) : retK rk res K' := by
  unfold retK at k ⊢
  split at k
  · exact ⟨k.1, h _ k.2⟩
  · obtain ⟨x, a, b⟩ := k
    exact ⟨x, a, h _ b⟩
  · obtain ⟨x, a, b⟩ := k
    exact ⟨x, a, h _ b⟩
theorem tswL_mono {K K' : Nat → Prop} (h : ∀ t, K t → K' t) {x : Int32} : ∀ (ts : List Nat) (v : Int), tswL K x v ts → tswL K' x v ts
  | [], _, _ => trivial
  | _ :: ts, _, k => ⟨fun e => h _ (k.1 e), tswL_mono h ts _ k.2⟩
theorem callP_mono {ce : Ce} (hT : Tmono ce.1) {Q Q' : Qt} {K K' : List Value → Ly → HX → HY → Prop} (hQ : ∀ r L X Y, Q r L X Y → Q' r L X Y) (hK : ∀ v L X Y, K v L X Y → K' v L X Y) {args : List Value} {L : Ly} {X : HX} {Y : HY} (k : callP ce Q K args L X Y) : callP ce Q' K' args L X Y := by
  obtain ⟨T, n, rk, cs, so, rc⟩ := ce
  cases so with
  | none =>
    refine hT _ _ _ _ _ _ (fun r L2 X2 Y2 h => ?_) k
    refine ⟨h.1, ?_⟩
    rcases h.2 with h | ⟨E, e, h⟩
    · exact Or.inl (retK_mono (fun v => hK v _ _ _) h)
    · exact Or.inr ⟨E, e, hQ _ _ _ _ h⟩
  | some q =>
    obtain ⟨Lr, sel, Lc, Lc2, L2⟩ := q
    refine ⟨k.1, hT _ _ _ _ _ _ (fun r L3 X3 Y3 h => ?_) k.2⟩
    refine ⟨h.1, ?_⟩
    rcases h.2 with h | ⟨E, e, h⟩
    · exact Or.inl (retK_mono (fun v => hK v _ _ _) h)
    · exact Or.inr ⟨E, e, hQ _ _ _ _ h⟩
theorem pmCall_mono {g : Gm} (hg : Gmono g) {Q Q' : Qt} {K K' : Kt} (hQ : ∀ r L X Y, Q r L X Y → Q' r L X Y) (hK : ∀ pc lv st L X Y z, K pc lv st L X Y z → K' pc lv st L X Y z) {pc len : Nat} {lv : Lv} {st : List Value} {L : Ly} {X : HX} {Y : HY} {z : Nat × Nat} (k : pmCall g Q K pc len lv st L X Y z) : pmCall g Q' K' pc len lv st L X Y z := by
  unfold pmCall at k ⊢
  split at k
  · exact k
  · rename_i ce hce
    exact goB_mono (callP_mono (hg _ _ hce) hQ (fun v L X Y => hK _ _ _ _ _ _ _)) k
set_option maxHeartbeats 4000000 in
theorem stepP_mono {g : Gm} (hg : Gmono g) {Q Q' : Qt} {K K' : Kt} (hQ : ∀ r L X Y, Q r L X Y → Q' r L X Y) (hK : ∀ pc lv st L X Y z, K pc lv st L X Y z → K' pc lv st L X Y z) {pc : Nat} {lv : Lv} {st : List Value} {L : Ly} {X : HX} {Y : HY} {z : Nat × Nat} (k : stepP g Q K pc lv st L X Y z) : stepP g Q' K' pc lv st L X Y z := by
  unfold stepP at k ⊢
  repeat' split at k
  all_goals first
    | exact k.elim
    | exact hK _ _ _ _ _ _ _ k
    | exact ⟨fun e => hK _ _ _ _ _ _ _ (k.1 e), fun e => hK _ _ _ _ _ _ _ (k.2 e)⟩
    | exact ⟨k.1, hK _ _ _ _ _ _ _ k.2⟩
    | exact goB_mono (hK _ _ _ _ _ _ _) k
    | exact goB_mono (fun h => ⟨h.1, hK _ _ _ _ _ _ _ h.2⟩) k
    | exact goB_mono (hQ _ _ _ _) k
    | exact goB_mono (fun h => ⟨h.1, hQ _ _ _ _ h.2⟩) k
    | exact goB_mono (fun h => by split at h ⊢ <;> first | exact ⟨h.1, hQ _ _ _ _ h.2⟩ | exact hQ _ _ _ _ h) k
    | exact pmCall_mono hg hQ hK k
    | exact ⟨k.1, k.2.1, k.2.2.1, goB_mono (hK _ _ _ _ _ _ _) k.2.2.2⟩
    | exact ⟨fun e => hK _ _ _ _ _ _ _ (k.1 e), tswL_mono (fun t => hK _ _ _ _ _ _ _) _ _ k.2⟩
theorem WPx.step {g : Gm} (hg : Gmono g) {Q : Qt} {pc : Nat} {lv : Lv} {st : List Value} {L : Ly} {X : HX} {Y : HY} {z : Nat × Nat} (k : stepP g Q (WPx g Q) pc lv st L X Y z) : WPx g Q pc lv st L X Y z := fun P hP =>
  hP _ _ _ _ _ _ _ (stepP_mono hg (fun _ _ _ _ h => h) (fun _ _ _ _ _ _ _ h => h P hP) k)
theorem WPx.mono {g : Gm} (hg : Gmono g) {Q Q' : Qt} (hQ : ∀ r L X Y, Q r L X Y → Q' r L X Y) {pc : Nat} {lv : Lv} {st : List Value} {L : Ly} {X : HX} {Y : HY} {z : Nat × Nat} (k : WPx g Q pc lv st L X Y z) : WPx g Q' pc lv st L X Y z :=
  k (WPx g Q') (fun _ _ _ _ _ _ _ h => WPx.step hg (stepP_mono hg hQ (fun _ _ _ _ _ _ _ h => h) h))
/-- up to the places 'stops', some n steps at most -/
def wpto (g : Gm) (stops : List Nat) (Q : Qt) (K : Kt) : Nat → Kt
  | 0, _, _, _, _, _, _, _ => False
  | n + 1, pc, lv, st, L, X, Y, z => match stops.contains pc with
    | true => K pc lv st L X Y z
    | false => stepP g Q (wpto g stops Q K n) pc lv st L X Y z
theorem wpto_ok {g : Gm} (hg : Gmono g) {stops : List Nat} {Q : Qt} : ∀ (n pc : Nat) (lv : Lv) (st : List Value) (L : Ly) (X : HX) (Y : HY) (z : Nat × Nat), wpto g stops Q (WPx g Q) n pc lv st L X Y z → WPx g Q pc lv st L X Y z
  | 0, _, _, _, _, _, _, _, k => k.elim
  | n + 1, pc, lv, st, L, X, Y, z, k => by
    unfold wpto at k
    split at k
    · exact k
    · exact WPx.step hg (stepP_mono hg (fun _ _ _ _ h => h) (fun pc lv st L X Y z h => wpto_ok hg n pc lv st L X Y z h) k)
/-- a segment: from a place on (a stop itself, too) to the next stops -/
theorem WPx.seg {g : Gm} (hg : Gmono g) (stops : List Nat) (n : Nat) {Q : Qt} {pc : Nat} {lv : Lv} {st : List Value} {L : Ly} {X : HX} {Y : HY} {z : Nat × Nat} (k : stepP g Q (wpto g stops Q (WPx g Q) n) pc lv st L X Y z) : WPx g Q pc lv st L X Y z :=
  WPx.step hg (stepP_mono hg (fun _ _ _ _ h => h) (fun pc lv st L X Y z h => wpto_ok hg n pc lv st L X Y z h) k)
/-- arguments as the locals that a method begins with -/
def enL : List Value → Lv
  | [] => []
  | .long x :: r => some (.long x) :: none :: enL r
  | .double x :: r => some (.double x) :: none :: enL r
  | v :: r => some v :: enL r
def enLv (n : Nat) (args : List Value) : Lv := enL args ++ List.replicate (n - (enL args).length) none
/-- a method's own transformer -/
def pmT (g : Gm) (nL : Nat) : Tm := fun args L X Y Q => goB (Nat.ble (enL args).length nL) (WPx g Q 0 (enLv nL args) [] L X Y (0, 0))
theorem pmT_mono {g : Gm} (hg : Gmono g) (nL : Nat) : Tmono (pmT g nL) := fun _ _ _ _ _ _ hQ k => goB_mono (WPx.mono hg hQ) k
