/-! one step of a method over abstract worlds: what must hold so that the machine goes on -/
def zfv (ad : Nat → Nat) (x : Int32) : Option Nat → Value
  | some k => .ref (ad k)
  | none => .int x
def zfs (ad : Nat → Nat) (g : Nat → Int32) : Nat → List (Option Nat) → List Value
  | _, [] => []
  | j, o :: r => zfv ad (g j) o :: zfs ad g (j + 1) r
def zget {α : Type} : List α → Nat → Option α
  | [], _ => none
  | a :: _, 0 => some a
  | _ :: r, n + 1 => zget r n
def zcell (cI cZ : ClassId) (ad : Nat → Nat) (M : zM) (k : Nat) : va_E := match zget zlay k with
  | some (.inl (ci, fl)) => .inr (ci, zfs ad (M k) 0 fl)
  | some (.inr (b, n)) => .inl (cond b cZ cI, n, .inl (M k))
  | none => .inl (cI, 0, .inl (M k))
def zWd (cI cZ : ClassId) (ad : Nat → Nat) (M : zM) : va_W := (List.range 80).map (fun k => (ad k, zcell cI cZ ad M k))
def zset (M : zM) (k : Nat) (g : Nat → Int32) : zM := fun a => if a = k then g else M a
def zu (M : zM) (k j : Nat) (x : Int32) : zM := zset M k (upd (M k) j x)
def zv (ad : Nat → Nat) : Value → Value
  | .ref k => .ref (ad k)
  | v => v
def zEm (ad : Nat → Nat) (E : zE) : zE := E.map (fun q => (q.1, zv ad q.2))
def zl : zE → Nat → Option Value
  | [], _ => none
  | q :: r, k => bif Nat.beq q.1 k then some q.2 else zl r k
def zins (i : Nat) (v : Value) : zE → zE
  | [] => [(i, v)]
  | q :: r => bif Nat.blt i q.1 then (i, v) :: q :: r else q :: zins i v r
def zdel (i : Nat) : zE → zE
  | [] => []
  | q :: r => bif Nat.beq q.1 i || (Nat.beq (q.1 + 1) i && Nat.beq q.2.category 2) then zdel i r else q :: zdel i r
def zdel2 (i : Nat) : zE → zE
  | [] => []
  | q :: r => bif Nat.beq q.1 i || (Nat.beq q.1 (i + 1) || (Nat.beq (q.1 + 1) i && Nat.beq q.2.category 2)) then zdel2 i r else q :: zdel2 i r
def zrem (x y : Int32) : Int32 := x - x / y * y
def zremL (x y : Int64) : Int64 := x - x / y * y
def zshl (x y : Int32) : Int32 := x <<< (y &&& 31)
def zshr (x y : Int32) : Int32 := x >>> (y &&& 31)
def zushr (x y : Int32) : Int32 := (x.toUInt32 >>> (y.toUInt32 &&& Int32.toUInt32 31)).toInt32
def zmin (x y : Int32) : Int32 := if y < x then y else x
def zmax (x y : Int32) : Int32 := if x < y then y else x
def zsw (K : Nat → Prop) (x : Int32) (pc : Nat) : List Int → Nat → Prop
  | [], _ => True
  | o :: r, j => (x = nI j → K ((pc : Int) + o).toNat) ∧ zsw K x pc r (j + 1)
def zat : List zI → Nat → Option zI
  | [], _ => none
  | e :: r, pc => bif Nat.beq e.1 pc then some e else zat r pc
def zcat : List Value → Nat
  | [] => 0
  | v :: r => v.category + zcat r
def zi1 (K : Int32 → List Value → Prop) : List Value → Prop
  | .int x :: r => K x r
  | _ => False
def zi2 (K : Int32 → Int32 → List Value → Prop) : List Value → Prop
  | .int y :: .int x :: r => K x y r
  | _ => False
def zj1 (K : Int64 → List Value → Prop) : List Value → Prop
  | .long x :: r => K x r
  | _ => False
def zj2 (K : Int64 → Int64 → List Value → Prop) : List Value → Prop
  | .long y :: .long x :: r => K x y r
  | _ => False
def zr1 (K : Nat → List Value → Prop) : List Value → Prop
  | .ref k :: r => K k r
  | _ => False
def zir (K : Int32 → Nat → List Value → Prop) : List Value → Prop
  | .int x :: .ref k :: r => K x k r
  | _ => False
def ziir (K : Int32 → Int32 → Nat → List Value → Prop) : List Value → Prop
  | .int x :: .int i :: .ref k :: r => K x i k r
  | _ => False
def zdup (K : List Value → Prop) : List Value → Prop
  | .int x :: r => K (.int x :: .int x :: r)
  | .ref x :: r => K (.ref x :: .ref x :: r)
  | _ => False
def zcpy (K : List Value → zM → Prop) (lo : Nat) (M : zM) : List Value → Prop
  | .int n :: .int dp :: .ref k1 :: .int sp :: .ref k0 :: r => match zget zlay k0, zget zlay k1 with
    | some (.inr (false, n0)), some (.inr (false, n1)) => bif Nat.ble (zcat r + 18) lo then ∃ a b d : Nat, sp = nI a ∧ dp = nI b ∧ n = nI d ∧ a + d ≤ n0 ∧ b + d ≤ n1 ∧ K r (zset M k1 (va_cpy (M k0) (M k1) a b d)) else False
    | _, _ => False
  | _ => False
def zcmp (c : ClassFile.Cond) (x y : Int32) (A B : Prop) : Prop := match c with
  | .eq => (x = y → A) ∧ (¬ x = y → B)
  | .ne => (¬ x = y → A) ∧ (x = y → B)
  | .lt => (x < y → A) ∧ (¬ x < y → B)
  | .ge => (¬ x < y → A) ∧ (x < y → B)
  | .gt => (y < x → A) ∧ (¬ y < x → B)
  | .le => (¬ y < x → A) ∧ (y < x → B)
def zgeti (K : Int32 → Prop) : Option Value → Prop
  | some (.int x) => K x
  | _ => False
def zgetl (K : Int64 → Prop) : Option Value → Prop
  | some (.long x) => K x
  | _ => False
def zgetr (K : Nat → Prop) : Option Value → Prop
  | some (.ref x) => K x
  | _ => False
/-- the field b of the cell k, an object of class a: a cell's number, or a number -/
def zfld (K : Value → Prop) (M : zM) (k a b : Nat) : Prop := match zget zlay k with
  | some (.inl (ci, fl)) => bif Nat.beq ci a then (match zget fl b with | some (some t) => K (.ref t) | some none => K (.int (M k b)) | none => False) else False
  | _ => False
def zfput (K : Prop) (k a b : Nat) (x : Int32) : Prop := match zget zlay k with
  | some (.inl (ci, fl)) => bif Nat.beq ci a then (match zget fl b with | some none => (bif Nat.beq a 8 && Nat.beq b 0 then (x = 0 ∨ x = 1) ∧ K else K) | _ => False) else False
  | _ => False
def zarr (K : Nat → Prop) (z : Bool) (k : Nat) (i : Int32) : Prop := match zget zlay k with
  | some (.inr (y, n)) => bif y == z then ∃ j : Nat, i = nI j ∧ j < n ∧ K j else False
  | _ => False
def zlen (K : Nat → Prop) (k : Nat) : Prop := match zget zlay k with
  | some (.inr (_, n)) => K n
  | _ => False
def zroom (f g : zF) (r : List Value) : Bool := Nat.ble (g.2.2.1.1 + 1) f.2.2.1.1 && (Nat.ble (8 + (g.2.1.1 + 11) + g.2.2.1.2) f.2.2.1.2 && Nat.ble (zcat r) 8)
def zinvV (f : zF) (C : zF → List Value → Prop) (a b : Nat) (st : List Value) : Prop := match zget zAll a with
  | some g => zr1 (fun k r => match zget zlay k with
      | some (.inl (ci, _)) => bif Nat.beq ci g.1.1 && (zroom f g r && Nat.beq (st.take b).length b) then C g (.ref k :: (st.take b).reverse) else False
      | _ => False) (st.drop b)
  | none => False
def zinvS (f : zF) (C : zF → List Value → Prop) (a b : Nat) (st : List Value) : Prop := match zget zAll a with
  | some g => bif zroom f g (st.drop b) && Nat.beq (st.take b).length b then C g (st.take b).reverse else False
  | none => False
def zretI (Q : Option Value → Prop) (rt : Option FieldType) : List Value → Prop
  | [.int v] => match rt with
    | some .int => Q (some (.int v))
    | some .boolean => (v = 0 ∨ v = 1) ∧ Q (some (.int v))
    | _ => False
  | _ => False
def zretV (Q : Prop) (rt : Option FieldType) : List Value → Prop
  | [] => match rt with
    | none => Q
    | _ => False
  | _ => False
def zstep (f : zF) (K : Nat → zE → List Value → zM → Prop) (C : zF → List Value → zM → (Option Value → zM → Prop) → Prop) (Q : Option Value → zM → Prop) (e : zI) (E : zE) (st : List Value) (M : zM) : Prop :=
  match e.2.1 with
  | .iconst _ => K (e.1 + 1) E (.int e.2.2.2.2 :: st) M
  | .bipush _ => K (e.1 + 2) E (.int e.2.2.2.2 :: st) M
  | .sipush _ => K (e.1 + 3) E (.int e.2.2.2.2 :: st) M
  | .ldc _ => K (e.1 + 2) E (.int e.2.2.2.2 :: st) M
  | .ldc_w _ => K (e.1 + 3) E (.int e.2.2.2.2 :: st) M
  | .ldc2_w _ => K (e.1 + 3) E (.long (lN e.2.2.1) :: st) M
  | .lconst n => K (e.1 + 1) E (.long (lN n.val) :: st) M
  | .iload k => zgeti (fun x => K (e.1 + 2) E (.int x :: st) M) (zl E k)
  | .iload_n k => zgeti (fun x => K (e.1 + 1) E (.int x :: st) M) (zl E k.val)
  | .lload k => zgetl (fun x => K (e.1 + 2) E (.long x :: st) M) (zl E k)
  | .lload_n k => zgetl (fun x => K (e.1 + 1) E (.long x :: st) M) (zl E k.val)
  | .aload_n k => zgetr (fun x => K (e.1 + 1) E (.ref x :: st) M) (zl E k.val)
  | .istore k => zi1 (fun x st => bif Nat.blt k f.2.1.1 then K (e.1 + 2) (zins k (.int x) (zdel k E)) st M else False) st
  | .istore_n k => zi1 (fun x st => bif Nat.blt k.val f.2.1.1 then K (e.1 + 1) (zins k.val (.int x) (zdel k.val E)) st M else False) st
  | .astore_n k => zr1 (fun x st => bif Nat.blt k.val f.2.1.1 then K (e.1 + 1) (zins k.val (.ref x) (zdel k.val E)) st M else False) st
  | .lstore_n k => zj1 (fun x st => bif Nat.blt (k.val + 1) f.2.1.1 then K (e.1 + 1) (zins k.val (.long x) (zdel2 k.val E)) st M else False) st
  | .iinc k _ => zgeti (fun x => bif Nat.blt k f.2.1.1 then K (e.1 + 3) (zins k (.int (x + e.2.2.2.2)) (zdel k E)) st M else False) (zl E k)
  | .iadd => zi2 (fun x y st => K (e.1 + 1) E (.int (x + y) :: st) M) st
  | .isub => zi2 (fun x y st => K (e.1 + 1) E (.int (x - y) :: st) M) st
  | .imul => zi2 (fun x y st => K (e.1 + 1) E (.int (x * y) :: st) M) st
  | .iand => zi2 (fun x y st => K (e.1 + 1) E (.int (x &&& y) :: st) M) st
  | .ior => zi2 (fun x y st => K (e.1 + 1) E (.int (x ||| y) :: st) M) st
  | .ixor => zi2 (fun x y st => K (e.1 + 1) E (.int (x ^^^ y) :: st) M) st
  | .idiv => zi2 (fun x y st => ¬ y = 0 ∧ K (e.1 + 1) E (.int (x / y) :: st) M) st
  | .irem => zi2 (fun x y st => ¬ y = 0 ∧ K (e.1 + 1) E (.int (zrem x y) :: st) M) st
  | .ishl => zi2 (fun x y st => K (e.1 + 1) E (.int (zshl x y) :: st) M) st
  | .ishr => zi2 (fun x y st => K (e.1 + 1) E (.int (zshr x y) :: st) M) st
  | .iushr => zi2 (fun x y st => K (e.1 + 1) E (.int (zushr x y) :: st) M) st
  | .ladd => zj2 (fun x y st => K (e.1 + 1) E (.long (x + y) :: st) M) st
  | .lmul => zj2 (fun x y st => K (e.1 + 1) E (.long (x * y) :: st) M) st
  | .land => zj2 (fun x y st => K (e.1 + 1) E (.long (x &&& y) :: st) M) st
  | .ldiv => zj2 (fun x y st => ¬ y = 0 ∧ K (e.1 + 1) E (.long (x / y) :: st) M) st
  | .lrem => zj2 (fun x y st => ¬ y = 0 ∧ K (e.1 + 1) E (.long (zremL x y) :: st) M) st
  | .lcmp => zj2 (fun x y st => K (e.1 + 1) E (.int (lg_cmp x y) :: st) M) st
  | .i2l => zi1 (fun x st => K (e.1 + 1) E (.long x.toInt64 :: st) M) st
  | .l2i => zj1 (fun x st => K (e.1 + 1) E (.int x.toInt32 :: st) M) st
  | .dup => zdup (fun st => K (e.1 + 1) E st M) st
  | .dup2 => zir (fun y x st => K (e.1 + 1) E (.int y :: .ref x :: .int y :: .ref x :: st) M) st
  | .pop => zi1 (fun _ st => K (e.1 + 1) E st M) st
  | .goto _ => K e.2.2.1 E st M
  | .ifCond c _ => zi1 (fun x st => zcmp c x 0 (K e.2.2.1 E st M) (K (e.1 + 3) E st M)) st
  | .if_icmp c _ => zi2 (fun x y st => zcmp c x y (K e.2.2.1 E st M) (K (e.1 + 3) E st M)) st
  | .tableswitch _ _ _ offs => zi1 (fun x st => zsw (fun t => K t E st M) x e.1 offs.toList 0 ∧ ((x < 0 ∨ nI offs.size ≤ x) → K e.2.2.1 E st M)) st
  | .getfield _ => zr1 (fun k st => zfld (fun v => K (e.1 + 3) E (v :: st) M) M k e.2.2.1 e.2.2.2.1) st
  | .putfield _ => zir (fun x k st => zfput (K (e.1 + 3) E st (zu M k e.2.2.2.1 x)) k e.2.2.1 e.2.2.2.1 x) st
  | .iaload => zir (fun i k st => zarr (fun j => K (e.1 + 1) E (.int (M k j) :: st) M) false k i) st
  | .iastore => ziir (fun x i k st => zarr (fun j => K (e.1 + 1) E st (zu M k j x)) false k i) st
  | .baload => zir (fun i k st => zarr (fun j => K (e.1 + 1) E (.int (M k j) :: st) M) true k i) st
  | .bastore => ziir (fun x i k st => (x = 0 ∨ x = 1) ∧ zarr (fun j => K (e.1 + 1) E st (zu M k j x)) true k i) st
  | .arraylength => zr1 (fun k st => zlen (fun n => K (e.1 + 1) E (.int (nI n) :: st) M) k) st
  | .invokevirtual _ => zinvV f (fun g vs => C g vs M (fun v M' => K (e.1 + 3) E (v.toList ++ st.drop (e.2.2.2.1 + 1)) M')) e.2.2.1 e.2.2.2.1 st
  | .invokestatic _ =>
    bif Nat.beq e.2.2.1 1004 then zi2 (fun x y st => bif Nat.ble 1 f.2.2.1.1 && Nat.ble (zcat st + 13) f.2.2.1.2 then K (e.1 + 3) E (.int (zmin x y) :: st) M else False) st
    else bif Nat.beq e.2.2.1 1005 then zi2 (fun x y st => bif Nat.ble 1 f.2.2.1.1 && Nat.ble (zcat st + 13) f.2.2.1.2 then K (e.1 + 3) E (.int (zmax x y) :: st) M else False) st
    else bif Nat.beq e.2.2.1 1003 then (bif Nat.ble 1 f.2.2.1.1 then zcpy (fun st M => K (e.1 + 3) E st M) f.2.2.1.2 M st else False)
    else zinvS f (fun g vs => C g vs M (fun v M' => K (e.1 + 3) E (v.toList ++ st.drop e.2.2.2.1) M')) e.2.2.1 e.2.2.2.1 st
  | .ireturn => zretI (fun v => Q v M) f.2.1.2 st
  | .return_ => zretV (Q none M) f.2.1.2 st
  | _ => False
/-! what the tables say of each row of a method -/
def zTd (a b : Nat) : String × String × String × Bool := match vwCl[a]? with
  | some q => q.2.1 b
  | none => ("", "", "", false)
def zilen : Instr → Nat
  | .bipush _ | .ldc _ | .iload _ | .lload _ | .istore _ => 2
  | .sipush _ | .ldc_w _ | .ldc2_w _ | .iinc _ _ | .goto _ | .ifCond _ _ | .if_icmp _ _ | .getfield _ | .putfield _ | .invokevirtual _ | .invokestatic _ => 3
  | _ => 1
def zdec (f : zF) (e : zI) : Bool := match e.2.1 with
  | .tableswitch d lo hi offs => (match decode f.1.2.2 e.1 with | .ok (i, _) => decide (i = e.2.1) | _ => false) && (decide (lo = 0) && (decide (hi + 1 = offs.size) && (decide ((e.1 : Int) + d = (e.2.2.1 : Int)) && offs.toList.all (fun o => decide (0 ≤ (e.1 : Int) + o)))))
  | i => decide (decode f.1.2.2 e.1 = .ok (i, zilen i))
def zext (f : zF) (e : zI) : Bool := match e.2.1 with
  | .iconst n => decide (Int32.ofInt n = e.2.2.2.2)
  | .bipush n => decide ((Int8.ofInt n).toInt32 = e.2.2.2.2)
  | .sipush n => decide ((Int16.ofInt n).toInt32 = e.2.2.2.2)
  | .ldc x => decide ((f.1.1, x, e.2.2.2.2) ∈ zKL)
  | .ldc_w x => decide ((f.1.1, x, e.2.2.2.2) ∈ zKL)
  | .ldc2_w x => decide ((f.1.1, x, e.2.2.1) ∈ zKLL)
  | .iinc _ n => decide (Int32.ofInt n = e.2.2.2.2)
  | .goto o => decide ((e.1 : Int) + o = (e.2.2.1 : Int))
  | .ifCond _ o => decide ((e.1 : Int) + o = (e.2.2.1 : Int))
  | .if_icmp _ o => decide ((e.1 : Int) + o = (e.2.2.1 : Int))
  | .getfield x => decide ((f.1.1, x, e.2.2.1, e.2.2.2.1) ∈ zFL)
  | .putfield x => decide ((f.1.1, x, e.2.2.1, e.2.2.2.1) ∈ zFL) && ((zTd e.2.2.1 e.2.2.2.1).2.2.2 == false && decide ((zTd e.2.2.1 e.2.2.2.1).2.2.1 = bif Nat.beq e.2.2.1 8 && Nat.beq e.2.2.2.1 0 then "Z" else "I"))
  | .invokevirtual x => decide ((f.1.1, x, e.2.2.1, 0) ∈ zML) && (match zget zAll e.2.2.1 with | some g => decide ((parseMethodDescriptor g.1.2.1.desc).map (fun d => d.parameters.length) = some e.2.2.2.1) | none => false)
  | .invokestatic x => (decide ((f.1.1, x, e.2.2.1, 1) ∈ zML) || decide ((f.1.1, x, e.2.2.1, 2) ∈ zML)) && (decide (1000 ≤ e.2.2.1) || (match zget zAll e.2.2.1 with | some g => decide ((parseMethodDescriptor g.1.2.1.desc).map (fun d => d.parameters.length) = some e.2.2.2.1) | none => false))
  | _ => true
def zhost : String := "StreetTongues"
/-- the words that hold in every later state too; and those of the nest -/
def zt : List Cond := lw_tbl.filter goodWord
def zNest : List (Nat × Nat × MethodName) := [(2, 38, yX10_putOver), (0, 48, yX10_holdsWord), (3, 44, yX10_putOver)]
def zN (U : State) : Prop := ∀ q ∈ zNest, va_Nw (.methodLinkNest (zown q.1) q.2.1 q.2.2 zhost) U
def zokF (f : zF) : Prop := (.code f.1.2.1 f.1.2.2 f.2.1.1 f.2.1.2 ∈ zt ∧ plainName f.1.2.1.cls = true ∧ f.1.2.1.cls = zown f.1.1 ∧ (f.1.2.1.cls ≠ "java/lang/invoke/MethodHandle" ∧ f.1.2.1.cls ≠ "java/lang/invoke/VarHandle") ∧ .initialized f.1.2.1.cls ∈ zt) ∧ f.2.2.2.all (fun e => zdec f e && zext f e) = true
def zokFL (q : Nat × Nat × Nat × Nat) : Prop := q.2.2.1 < 12 ∧ (match vwCl[q.2.2.1]? with
  | some r => q.2.2.2 < r.2.2 ∧ .fieldLink (zown q.1) q.2.1 (r.2.1 q.2.2.2).1 (r.2.1 q.2.2.2).2.1 (r.2.1 q.2.2.2).2.2.1 ∈ zt
  | none => False)
def zokML (q : Nat × Nat × Nat × Nat) : Prop := match q.2.2.1 with
  | 1003 => q.2.2.2 = 1 ∧ .methodLink (zown q.1) q.2.1 arraycopyName ∈ zt
  | 1004 => q.2.2.2 = 1 ∧ .methodLink (zown q.1) q.2.1 Lib.Math.min.name ∈ zt
  | 1005 => q.2.2.2 = 1 ∧ .methodLink (zown q.1) q.2.1 Lib.Math.max.name ∈ zt
  | a => match zget zAll a with
    | some g => match q.2.2.2 with
      | 0 => .methodLink (zown q.1) q.2.1 g.1.2.1 ∈ zt ∧ .instanceMethod g.1.2.1 ∈ zt ∧ .selects g.1.2.1.cls g.1.2.1 g.1.2.1 ∈ zt
      | 1 => .methodLink (zown q.1) q.2.1 g.1.2.1 ∈ zt ∧ .static g.1.2.1 ∈ zt
      | _ => (q.1, q.2.1, g.1.2.1) ∈ zNest ∧ .static g.1.2.1 ∈ zt
    | none => False
