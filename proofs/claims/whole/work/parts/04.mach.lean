abbrev mm_Ls : Type := List (Option Value)
abbrev mm_Ly : Type := Nat × Nat × (Nat → Nat) × (Nat → Nat) × (Nat → Nat → Option Nat)
abbrev mm_I : Type := Nat → Nat → Int32
abbrev mm_H : Type := mm_Ly × mm_I
abbrev mm_S : Type := Nat × mm_Ls × List Value × mm_H
def mm_n (h : mm_H) : Nat := h.1.1
def mm_sl (h : mm_H) : Nat := h.1.2.1
def mm_K (h : mm_H) (a : Nat) : Nat := h.1.2.2.1 a
def mm_L (h : mm_H) (a : Nat) : Nat := h.1.2.2.2.1 a
def mm_R (h : mm_H) (a k : Nat) : Option Nat := h.1.2.2.2.2 a k
def mm_G (h : mm_H) (a k : Nat) : Int32 := h.2 a k
def mm_up (I : mm_I) (a i : Nat) (v : Int32) : mm_I := fun b j => bif (Nat.beq b a && Nat.beq j i) then v else I b j
def mm_find : List (Nat × mm_E) → Nat → Option mm_E
  | [], _ => none
  | e :: l, pc => bif Nat.beq e.1 pc then some e.2 else mm_find l pc
def mm_lst (k : Nat) : List (Nat × mm_E) := mm_nth [] (mm_nth [] mm_czs (k / 32)) (k % 32)
def mm_cod (k pc : Nat) : Option mm_E := mm_find (mm_lst k) pc
def mm_ft (c s : Nat) : Nat := match mm_ty c s with
  | .int => 0
  | .boolean => 1
  | .object _ => 2
  | .array _ => 2
  | _ => 9
def mm_rk (o : Option FieldType) : Nat := match o with
  | none => 0
  | some .int => 1
  | some .boolean => 2
  | some .float => 3
  | some .long => 4
  | some .double => 5
  | some (.object _) => 6
  | some (.array _) => 6
  | _ => 9
def mm_ld (ls : mm_Ls) (i : Nat) : Option Value := mm_nth none ls i
def mm_clr (ls : mm_Ls) (i : Nat) : mm_Ls := match i with
  | 0 => ls
  | j + 1 => match mm_ld ls j with
    | some v => bif Nat.beq v.category 2 then ls.set j none else ls
    | none => ls
def mm_s1 (ls : mm_Ls) (i : Nat) (v : Value) : mm_Ls := (mm_clr ls i).set i (some v)
def mm_s2 (ls : mm_Ls) (i : Nat) (v : Value) : mm_Ls := ((mm_clr ls i).set i (some v)).set (i + 1) none
def mm_ent0 : List Value → mm_Ls
  | [] => []
  | v :: l => bif Nat.beq v.category 2 then some v :: none :: mm_ent0 l else some v :: mm_ent0 l
def mm_ent (n : Nat) (vs : List Value) : mm_Ls := mm_ent0 vs ++ List.replicate (n - (mm_ent0 vs).length) none
/-- simple instructions -/
def mm_psh (n : Nat) (ls : mm_Ls) (st : List Value) (h : mm_H) (v : Value) : Option mm_S := some (n, ls, v :: st, h)
def mm_i2 (f : Int32 → Int32 → Int32) (n : Nat) (ls : mm_Ls) (st : List Value) (h : mm_H) : Option mm_S := match st with
  | .int y :: .int x :: r => some (n, ls, .int (f x y) :: r, h)
  | _ => none
def mm_i1 (f : Int32 → Value) (n : Nat) (ls : mm_Ls) (st : List Value) (h : mm_H) : Option mm_S := match st with
  | .int x :: r => some (n, ls, f x :: r, h)
  | _ => none
def mm_l2 (f : Int64 → Int64 → Value) (n : Nat) (ls : mm_Ls) (st : List Value) (h : mm_H) : Option mm_S := match st with
  | .long y :: .long x :: r => some (n, ls, f x y :: r, h)
  | _ => none
def mm_l1 (f : Int64 → Value) (n : Nat) (ls : mm_Ls) (st : List Value) (h : mm_H) : Option mm_S := match st with
  | .long x :: r => some (n, ls, f x :: r, h)
  | _ => none
def mm_li (f : Int64 → Int32 → Int64) (n : Nat) (ls : mm_Ls) (st : List Value) (h : mm_H) : Option mm_S := match st with
  | .int y :: .long x :: r => some (n, ls, .long (f x y) :: r, h)
  | _ => none
def mm_dv (f : Int32 → Int32 → Int32) (n : Nat) (ls : mm_Ls) (st : List Value) (h : mm_H) : Option mm_S := match st with
  | .int y :: .int x :: r => if y = 0 then none else some (n, ls, .int (f x y) :: r, h)
  | _ => none
def mm_f2 (f : UInt32 → UInt32 → UInt32) (n : Nat) (ls : mm_Ls) (st : List Value) (h : mm_H) : Option mm_S := match st with
  | .float y :: .float x :: r => if f x y &&& 0x7fffffff ≤ 0x7f800000 then some (n, ls, .float (f x y) :: r, h) else none
  | _ => none
def mm_d2 (f : UInt64 → UInt64 → UInt64) (n : Nat) (ls : mm_Ls) (st : List Value) (h : mm_H) : Option mm_S := match st with
  | .double y :: .double x :: r => if f x y &&& 0x7fffffffffffffff ≤ 0x7ff0000000000000 then some (n, ls, .double (f x y) :: r, h) else none
  | _ => none
def mm_ldv (t : Value → Bool) (n : Nat) (ls : mm_Ls) (st : List Value) (h : mm_H) (i : Nat) : Option mm_S := match mm_ld ls i with
  | some v => bif t v then some (n, ls, v :: st, h) else none
  | none => none
def mm_isI (v : Value) : Bool := match v with | .int _ => true | _ => false
def mm_isL (v : Value) : Bool := match v with | .long _ => true | _ => false
def mm_isF (v : Value) : Bool := match v with | .float _ => true | _ => false
def mm_isD (v : Value) : Bool := match v with | .double _ => true | _ => false
def mm_isA (v : Value) : Bool := match v with | .ref _ => true | .null => true | _ => false
def mm_stv (t : Value → Bool) (w : Nat) (n : Nat) (ls : mm_Ls) (st : List Value) (h : mm_H) (i : Nat) : Option mm_S := match st with
  | v :: r => bif (t v && Nat.ble (i + w) ls.length) then some (n, (bif Nat.beq w 2 then mm_s2 ls i v else mm_s1 ls i v), r, h) else none
  | [] => none
def mm_cI (c : ClassFile.Cond) (x y : Int32) : Bool := match c with
  | .eq => decide (x = y)
  | .ne => decide (¬ x = y)
  | .lt => decide (x < y)
  | .ge => decide (y ≤ x)
  | .gt => decide (y < x)
  | .le => decide (x ≤ y)
def mm_sw (pc : Nat) (d lo hi : Int) (offs : Array Int) (x : Int32) : Option Nat :=
  if x.toInt < lo ∨ hi < x.toInt then (if (pc : Int) + d < 0 then none else some ((pc : Int) + d).toNat)
  else match offs[(x.toInt - lo).toNat]? with
    | some o => if (pc : Int) + o < 0 then none else some ((pc : Int) + o).toNat
    | none => none
def mm_fix (i : Nat) : Int32 := mm_nth 0 [0, 0, 0, 0, 1, 0, 0, 0, 2, -1, 0, 0, 3, -3, 1, 0, 4, -6, 4, -1] i
def mm_inb (i : Int32) (n : Nat) : Bool := decide (¬ (i < 0 ∨ n ≤ i.toNatClampNeg))
def mm_aid (h : mm_H) (a c : Nat) : Bool := Nat.blt a (mm_n h) && Nat.beq (mm_K h a) c
def mm_fv (h : mm_H) (c a s : Nat) : Value := bif Nat.beq (mm_ft c s) 2 then va_rf (mm_R h a s) else .int (mm_G h a s)
def mm_gf (c s n : Nat) (ls : mm_Ls) (st : List Value) (h : mm_H) : Option mm_S := match st with
  | .ref a :: r => bif mm_aid h a c then some (n, ls, mm_fv h c a s :: r, h) else none
  | _ => none
def mm_fin (c s : Nat) : Bool := (mm_T c s).2.2.2
def mm_sR (h : mm_H) (a s : Nat) (v : Option Nat) : mm_H := ((h.1.1, h.1.2.1, h.1.2.2.1, h.1.2.2.2.1, fun b j => bif (Nat.beq b a && Nat.beq j s) then v else h.1.2.2.2.2 b j), h.2)
def mm_pf (k c s n : Nat) (ls : mm_Ls) (st : List Value) (h : mm_H) : Option mm_S := match st with
  | v :: .ref a :: r => bif (mm_aid h a c && (!(mm_fin c s) || (Nat.beq (mm_md k) 2 && Nat.beq (mm_c k) c))) then
      (match v with
        | .int x => bif Nat.beq (mm_ft c s) 0 then some (n, ls, r, (h.1, mm_up h.2 a s x)) else bif (Nat.beq (mm_ft c s) 1 && (x == 0 || x == 1)) then some (n, ls, r, (h.1, mm_up h.2 a s x)) else none
        | .ref b => bif (Nat.beq (mm_ft c s) 2 && Nat.blt b (mm_n h)) then some (n, ls, r, mm_sR h a s (some b)) else none
        | _ => none)
    else none
  | _ => none
def mm_al (c n : Nat) (ls : mm_Ls) (st : List Value) (h : mm_H) : Option mm_S := match st with
  | .int i :: .ref a :: r => bif (Nat.beq c 100 && Nat.beq a 5000) then (bif mm_inb i 20 then some (n, ls, .int (mm_fix i.toNatClampNeg) :: r, h) else none)
      else bif (mm_aid h a c && mm_inb i (mm_L h a)) then some (n, ls, .int (mm_G h a i.toNatClampNeg) :: r, h) else none
  | _ => none
def mm_as (c n : Nat) (ls : mm_Ls) (st : List Value) (h : mm_H) : Option mm_S := match st with
  | .int x :: .int i :: .ref a :: r => bif (mm_aid h a c && mm_inb i (mm_L h a) && (Nat.beq c 100 || (x == 0 || x == 1))) then some (n, ls, r, (h.1, mm_up h.2 a i.toNatClampNeg x)) else none
  | _ => none
def mm_len (n : Nat) (ls : mm_Ls) (st : List Value) (h : mm_H) : Option mm_S := match st with
  | .ref a :: r => bif mm_aid h a 100 then some (n, ls, .int (Int32.ofNat (mm_L h a)) :: r, h) else none
  | _ => none
def mm_add (h : mm_H) (c s : Nat) : mm_H := ((h.1.1 + 1, h.1.2.1 + s, (fun b => bif Nat.beq b h.1.1 then c else h.1.2.2.1 b), (fun b => bif Nat.beq b h.1.1 then s else h.1.2.2.2.1 b), fun b j => bif Nat.beq b h.1.1 then none else h.1.2.2.2.2 b j), fun b j => bif Nat.beq b h.1.1 then 0 else h.2 b j)
def mm_nw1 (ng : Bool) (c s n : Nat) (ls : mm_Ls) (st : List Value) (h : mm_H) : Option mm_S := bif (ng && Nat.blt (mm_n h) 4000) then some (n, ls, .ref (mm_n h) :: st, mm_add h c s) else none
def mm_nwa (ng : Bool) (c n : Nat) (ls : mm_Ls) (st : List Value) (h : mm_H) : Option mm_S := match st with
  | .int x :: r => bif (ng && Nat.blt (mm_n h) 4000 && mm_inb x 10000) then some (n, ls, .ref (mm_n h) :: r, mm_add h c x.toNatClampNeg) else none
  | _ => none
def mm_bi (c : Int32 → Bool) (t n : Nat) (ls : mm_Ls) (st : List Value) (h : mm_H) : Option mm_S := match st with
  | .int x :: r => some ((bif c x then t else n), ls, r, h)
  | _ => none
def mm_bi2 (c : Int32 → Int32 → Bool) (t n : Nat) (ls : mm_Ls) (st : List Value) (h : mm_H) : Option mm_S := match st with
  | .int y :: .int x :: r => some ((bif c x y then t else n), ls, r, h)
  | _ => none
def mm_bn (nl : Bool) (t n : Nat) (ls : mm_Ls) (st : List Value) (h : mm_H) : Option mm_S := match st with
  | .null :: r => some ((bif nl then t else n), ls, r, h)
  | .ref _ :: r => some ((bif nl then n else t), ls, r, h)
  | _ => none
def mm_ins (ng : Bool) (k pc : Nat) (ins : Instr) (len p q : Nat) (ls : mm_Ls) (st : List Value) (h : mm_H) : Option mm_S := match ins with
  | .iconst n => mm_psh (pc + 1) ls st h (.int (Int32.ofInt n))
  | .bipush n => mm_psh (pc + 2) ls st h (.int (Int8.ofInt n).toInt32)
  | .sipush n => mm_psh (pc + 3) ls st h (.int (Int16.ofInt n).toInt32)
  | .lconst n => mm_psh (pc + 1) ls st h (.long (Int64.ofNat (n : Nat)))
  | .fconst n => mm_psh (pc + 1) ls st h (.float (bif Nat.beq n.val 0 then FP.fconst0 else bif Nat.beq n.val 1 then FP.fconst1 else FP.fconst2))
  | .dconst n => mm_psh (pc + 1) ls st h (.double (bif Nat.beq n.val 0 then FP.dconst0 else FP.dconst1))
  | .aconst_null => mm_psh (pc + 1) ls st h .null
  | .ldc _ => bif Nat.beq q 0 then mm_psh (pc + 2) ls st h (.int (Int32.ofNat p)) else mm_psh (pc + 2) ls st h (.float (UInt32.ofNat p))
  | .ldc_w _ => bif Nat.beq q 0 then mm_psh (pc + 3) ls st h (.int (Int32.ofNat p)) else mm_psh (pc + 3) ls st h (.float (UInt32.ofNat p))
  | .ldc2_w _ => bif Nat.beq q 0 then mm_psh (pc + 3) ls st h (.long (Int64.ofNat p)) else mm_psh (pc + 3) ls st h (.double (UInt64.ofNat p))
  | .iload i => mm_ldv mm_isI (pc + 2) ls st h i
  | .iload_n i => mm_ldv mm_isI (pc + 1) ls st h i.val
  | .lload i => mm_ldv mm_isL (pc + 2) ls st h i
  | .lload_n i => mm_ldv mm_isL (pc + 1) ls st h i.val
  | .fload i => mm_ldv mm_isF (pc + 2) ls st h i
  | .fload_n i => mm_ldv mm_isF (pc + 1) ls st h i.val
  | .dload i => mm_ldv mm_isD (pc + 2) ls st h i
  | .dload_n i => mm_ldv mm_isD (pc + 1) ls st h i.val
  | .aload i => mm_ldv mm_isA (pc + 2) ls st h i
  | .aload_n i => mm_ldv mm_isA (pc + 1) ls st h i.val
  | .istore i => mm_stv mm_isI 1 (pc + 2) ls st h i
  | .istore_n i => mm_stv mm_isI 1 (pc + 1) ls st h i.val
  | .lstore i => mm_stv mm_isL 2 (pc + 2) ls st h i
  | .lstore_n i => mm_stv mm_isL 2 (pc + 1) ls st h i.val
  | .fstore i => mm_stv mm_isF 1 (pc + 2) ls st h i
  | .fstore_n i => mm_stv mm_isF 1 (pc + 1) ls st h i.val
  | .dstore i => mm_stv mm_isD 2 (pc + 2) ls st h i
  | .dstore_n i => mm_stv mm_isD 2 (pc + 1) ls st h i.val
  | .astore i => mm_stv mm_isA 1 (pc + 2) ls st h i
  | .astore_n i => mm_stv mm_isA 1 (pc + 1) ls st h i.val
  | .iinc i c => bif Nat.beq len 3 then (match mm_ld ls i with
    | some (.int x) => some (pc + 3, mm_s1 ls i (.int (x + Int32.ofInt c)), st, h)
    | _ => none) else none
  | .iadd => mm_i2 (fun x y => x + y) (pc + 1) ls st h
  | .isub => mm_i2 (fun x y => x - y) (pc + 1) ls st h
  | .imul => mm_i2 (fun x y => x * y) (pc + 1) ls st h
  | .iand => mm_i2 (fun x y => x &&& y) (pc + 1) ls st h
  | .ior => mm_i2 (fun x y => x ||| y) (pc + 1) ls st h
  | .ixor => mm_i2 (fun x y => x ^^^ y) (pc + 1) ls st h
  | .ishl => mm_i2 (fun x y => x <<< (y &&& 31)) (pc + 1) ls st h
  | .ishr => mm_i2 (fun x y => x >>> (y &&& 31)) (pc + 1) ls st h
  | .iushr => mm_i2 (fun x y => (x.toUInt32 >>> (y.toUInt32 &&& Int32.toUInt32 31)).toInt32) (pc + 1) ls st h
  | .idiv => mm_dv (fun x y => x / y) (pc + 1) ls st h
  | .irem => mm_dv (fun x y => x - x / y * y) (pc + 1) ls st h
  | .ineg => mm_i1 (fun x => .int (-x)) (pc + 1) ls st h
  | .i2l => mm_i1 (fun x => .long x.toInt64) (pc + 1) ls st h
  | .i2b => mm_i1 (fun x => .int x.toInt8.toInt32) (pc + 1) ls st h
  | .i2f => mm_i1 (fun x => .float (FP.i2f x)) (pc + 1) ls st h
  | .i2d => mm_i1 (fun x => .double (FP.i2d x)) (pc + 1) ls st h
  | .l2i => mm_l1 (fun x => .int x.toInt32) (pc + 1) ls st h
  | .l2d => mm_l1 (fun x => .double (FP.l2d x)) (pc + 1) ls st h
  | .ladd => mm_l2 (fun x y => .long (x + y)) (pc + 1) ls st h
  | .lsub => mm_l2 (fun x y => .long (x - y)) (pc + 1) ls st h
  | .lmul => mm_l2 (fun x y => .long (x * y)) (pc + 1) ls st h
  | .land => mm_l2 (fun x y => .long (x &&& y)) (pc + 1) ls st h
  | .lor => mm_l2 (fun x y => .long (x ||| y)) (pc + 1) ls st h
  | .lcmp => mm_l2 (fun x y => .int (lg_cmp x y)) (pc + 1) ls st h
  | .lshl => mm_li (fun x y => x <<< (y.toInt64 &&& 63)) (pc + 1) ls st h
  | .lshr => mm_li (fun x y => x >>> (y.toInt64 &&& 63)) (pc + 1) ls st h
  | .lushr => mm_li (fun x y => (x.toUInt64 >>> (y.toInt64.toUInt64 &&& Int64.toUInt64 63)).toInt64) (pc + 1) ls st h
  | .fdiv => mm_f2 FP.fdiv (pc + 1) ls st h
  | .fmul => mm_f2 FP.fmul (pc + 1) ls st h
  | .fcmp o => (match st with
    | .float y :: .float x :: r => some (pc + 1, ls, .int (Op.cmpValue (FP.fcmp x y) o) :: r, h)
    | _ => none)
  | .f2i => (match st with
    | .float x :: r => some (pc + 1, ls, .int (FP.f2i x) :: r, h)
    | _ => none)
  | .ddiv => mm_d2 FP.ddiv (pc + 1) ls st h
  | .dmul => mm_d2 FP.dmul (pc + 1) ls st h
  | .dcmp o => (match st with
    | .double y :: .double x :: r => some (pc + 1, ls, .int (Op.cmpValue (FP.dcmp x y) o) :: r, h)
    | _ => none)
  | .d2l => (match st with
    | .double x :: r => some (pc + 1, ls, .long (FP.d2l x) :: r, h)
    | _ => none)
  | .dup => (match st with
    | v :: r => bif Nat.beq v.category 1 then some (pc + 1, ls, v :: v :: r, h) else none
    | _ => none)
  | .pop => (match st with
    | v :: r => bif Nat.beq v.category 1 then some (pc + 1, ls, r, h) else none
    | _ => none)
  | .dup2 => (match st with
    | v :: w :: r => bif (Nat.beq v.category 1 && Nat.beq w.category 1) then some (pc + 1, ls, v :: w :: v :: w :: r, h) else none
    | _ => none)
  | .goto _ => some (p, ls, st, h)
  | .ifCond c _ => mm_bi (fun x => mm_cI c x 0) p (pc + 3) ls st h
  | .if_icmp c _ => mm_bi2 (mm_cI c) p (pc + 3) ls st h
  | .ifnull _ => mm_bn true p (pc + 3) ls st h
  | .ifnonnull _ => mm_bn false p (pc + 3) ls st h
  | .tableswitch d lo hi offs => (match st with
    | .int x :: r => (match mm_sw pc d lo hi offs x with
      | some t => some (t, ls, r, h)
      | none => none)
    | _ => none)
  | .getfield _ => mm_gf p q (pc + 3) ls st h
  | .putfield _ => mm_pf k p q (pc + 3) ls st h
  | .getstatic _ => mm_psh (pc + 3) ls st h (.ref 5000)
  | .iaload => mm_al 100 (pc + 1) ls st h
  | .baload => mm_al 101 (pc + 1) ls st h
  | .iastore => mm_as 100 (pc + 1) ls st h
  | .bastore => mm_as 101 (pc + 1) ls st h
  | .arraylength => mm_len (pc + 1) ls st h
  | .new _ => mm_nw1 ng p q (pc + 3) ls st h
  | .newarray _ => mm_nwa ng p (pc + 2) ls st h
  | .invokespecial _ => (match st with
    | .ref _ :: r => bif (Nat.ble (r.map fun v => v.category).sum 8 && Nat.ble 1 (mm_dp k)) then some (pc + 3, ls, r, h) else none
    | _ => none)
  | .invokestatic _ => (match st with
    | .float x :: r => bif (Nat.beq p 1002 && Nat.ble (r.map fun v => v.category).sum 8 && Nat.ble 1 (mm_dp k)) then some (pc + 3, ls, .int x.toInt32 :: r, h) else none
    | .double x :: r => bif (Nat.beq p 1003 && Nat.ble (r.map fun v => v.category).sum 8 && Nat.ble 1 (mm_dp k)) then some (pc + 3, ls, .long x.toInt64 :: r, h) else none
    | _ => none)
  | _ => none
/-- 0: simple, 1: a call of a method of the table, 2: an end -/
def mm_knd (ins : Instr) (p : Nat) : Nat := match ins with
  | .ireturn => 2
  | .lreturn => 2
  | .freturn => 2
  | .dreturn => 2
  | .areturn => 2
  | .return_ => 2
  | .invokevirtual _ => 1
  | .invokestatic _ => bif Nat.blt p 1000 then 1 else 0
  | .invokespecial _ => bif Nat.blt p 1000 then 1 else bif Nat.beq p 1004 then 0 else 3
  | .new _ => bif Nat.blt p 100 then 0 else 2
  | _ => 0
def mm_call (k p q : Nat) (st : List Value) (h : mm_H) : Option (List Value × List Value) :=
  bif (Nat.ble q st.length && Nat.ble ((st.drop q).map fun v => v.category).sum 8 && Nat.blt (mm_dp p) (mm_dp k) && Nat.beq (mm_na p) q && Nat.ble (mm_ent0 (st.take q).reverse).length (mm_mL p)) then
    (bif Nat.beq (mm_md p) 0 then some ((st.take q).reverse, st.drop q) else match (st.take q).reverse with
      | .ref a :: _ => bif mm_aid h a (mm_c p) then some ((st.take q).reverse, st.drop q) else none
      | _ => none)
  else none
def mm_ret (k pc : Nat) (st : List Value) : Option (Option Value) := match mm_cod k pc with
  | none => none
  | some (ins, _, _, _) => match ins, st with
    | .return_, [] => bif Nat.beq (mm_rk (mm_rt k)) 0 then some none else none
    | .ireturn, [.int v] => bif Nat.beq (mm_rk (mm_rt k)) 1 then some (some (.int v)) else bif (Nat.beq (mm_rk (mm_rt k)) 2 && (v == 0 || v == 1)) then some (some (.int v)) else none
    | .freturn, [.float v] => bif Nat.beq (mm_rk (mm_rt k)) 3 then some (some (.float v)) else none
    | .lreturn, [.long v] => bif Nat.beq (mm_rk (mm_rt k)) 4 then some (some (.long v)) else none
    | .areturn, [.ref a] => bif Nat.beq (mm_rk (mm_rt k)) 6 then some (some (.ref a)) else none
    | .areturn, [.null] => bif Nat.beq (mm_rk (mm_rt k)) 6 then some (some .null) else none
    | _, _ => none
def mm_run (ng : Bool) : Nat → Nat → Nat → mm_Ls → List Value → mm_H → Option mm_S
  | 0, _, _, _, _, _ => none
  | f + 1, k, pc, ls, st, h => match mm_cod k pc with
    | none => none
    | some (ins, len, p, q) => match mm_knd ins p with
      | 0 => match mm_ins ng k pc ins len p q ls st h with
        | none => none
        | some (pc', ls', st', h') => mm_run ng f k pc' ls' st' h'
      | 1 => match mm_call k p q st h with
        | none => none
        | some (as, rest) => match mm_run ng f p 0 (mm_ent (mm_mL p) as) [] h with
          | none => none
          | some (pc', _, st', h') => match mm_ret p pc' st' with
            | none => none
            | some v => mm_run ng f k (pc + 3) ls (v.toList ++ rest) h'
      | 2 => some (pc, ls, st, h)
      | _ => none
