/-- a switch's list is the table's -/
def x_swt_ok (pc : Nat) : Int → List Int → List (Int32 × Nat) → Bool
  | _, [], [] => true
  | lo, o :: os, (v, t) :: r => decide (v.toInt = lo) && (decide ((pc : Int) + o = (t : Int)) && x_swt_ok pc (lo + 1) os r)
  | _, _, _ => false
def x_swl_ok (pc : Nat) : List (Int × Int) → List (Int32 × Nat) → Bool
  | [], [] => true
  | (k, o) :: os, (v, t) :: r => decide (v.toInt = k) && (decide ((pc : Int) + o = (t : Int)) && x_swl_ok pc os r)
  | _, _ => false
/-- a word stands in the table at a place -/
def x_has (p : Nat) (w : Jvm.Cond) : Bool := decide (lw_tbl[p]? = some w)
def x_fld (ci k : Nat) : String × String × String × Bool := match x_cl[ci]? with
  | some q => q.2.1 k
  | none => ("", "", "", false)
/-- how many fields a class has -/
def x_clN (ci : Nat) : Nat := match x_cl[ci]? with
  | some q => q.2.2
  | none => 0
def x_num : Value → Nat
  | .int x => x.toNatClampNeg
  | .long x => x.toNatClampNeg
  | .retAddr n => n
  | _ => 0
def x_tag : Value → Nat
  | .int _ => 0
  | .long _ => 1
  | _ => 2
/-- of a method: number, class, locals, room -/
abbrev xK := Nat × Nat × Nat × Nat × Nat × Nat × Nat
/-- the row is what stands in the code -/
def x_oki (M : xK) (pc : Nat) (raw : Instr) (len : Nat) (i : Instr) (a b : Nat) (v : Value) : Bool := match i with
  | .iconst _ => match raw with
    | .iconst n => Nat.beq len 1 && decide (v = .int (Int32.ofInt n))
    | .bipush n => Nat.beq len 2 && decide (v = .int (Int8.ofInt n).toInt32)
    | .sipush n => Nat.beq len 3 && decide (v = .int (Int16.ofInt n).toInt32)
    | .lconst n => Nat.beq len 1 && decide (v = .long (Int64.ofNat (n : Nat)))
    | .ldc k => match v with
      | .int x => Nat.beq len 2 && x_has b (.constant (x_cn M.2.1) k x)
      | _ => false
    | .ldc_w k => match v with
      | .int x => Nat.beq len 3 && x_has b (.constant (x_cn M.2.1) k x)
      | _ => false
    | .ldc2_w k => match v with
      | .long x => Nat.beq len 3 && x_has b (.constantLong (x_cn M.2.1) k x)
      | _ => false
    | _ => false
  | .iload k => match raw with
    | .iload_n n => Nat.beq len 1 && Nat.beq n k
    | .iload n => Nat.beq len 2 && Nat.beq n k
    | _ => false
  | .lload k => match raw with
    | .lload_n n => Nat.beq len 1 && Nat.beq n k
    | .lload n => Nat.beq len 2 && Nat.beq n k
    | _ => false
  | .aload k => match raw with
    | .aload_n n => Nat.beq len 1 && Nat.beq n k
    | .aload n => Nat.beq len 2 && Nat.beq n k
    | _ => false
  | .istore k => match raw with
    | .istore_n n => Nat.beq len 1 && (Nat.beq n k && Nat.blt k M.2.2.1)
    | .istore n => Nat.beq len 2 && (Nat.beq n k && Nat.blt k M.2.2.1)
    | _ => false
  | .lstore k => match raw with
    | .lstore_n n => Nat.beq len 1 && (Nat.beq n k && Nat.blt (k + 1) M.2.2.1)
    | .lstore n => Nat.beq len 2 && (Nat.beq n k && Nat.blt (k + 1) M.2.2.1)
    | _ => false
  | .astore k => match raw with
    | .astore_n n => Nat.beq len 1 && (Nat.beq n k && Nat.blt k M.2.2.1)
    | .astore n => Nat.beq len 2 && (Nat.beq n k && Nat.blt k M.2.2.1)
    | _ => false
  | .iinc k _ => match raw with
    | .iinc n d => Nat.beq len 3 && (Nat.beq n k && (Nat.blt k M.2.2.1 && decide (v = .int (Int32.ofInt d))))
    | _ => false
  | .ifCond c _ => match raw with
    | .ifCond c' off => Nat.beq len 3 && (decide (c' = c) && decide ((pc : Int) + off = (a : Int)))
    | _ => false
  | .if_icmp c _ => match raw with
    | .if_icmp c' off => Nat.beq len 3 && (decide (c' = c) && decide ((pc : Int) + off = (a : Int)))
    | _ => false
  | .goto _ => match raw with
    | .goto off => Nat.beq len 3 && decide ((pc : Int) + off = (a : Int))
    | _ => false
  | .lookupswitch _ _ => match raw with
    | .tableswitch d lo hi offs => decide ((pc : Int) + d = (a : Int)) && (decide (hi + 1 = lo + offs.toList.length) && match x_nth x_swt b with
      | some sw => x_swt_ok pc lo offs.toList sw
      | none => false)
    | .lookupswitch d ps => decide ((pc : Int) + d = (a : Int)) && ((ps.toList.zip (ps.toList.drop 1)).all (fun (x, next) => x.1 < next.1) && match x_nth x_swt b with
      | some sw => x_swl_ok pc ps.toList sw
      | none => false)
    | _ => false
  | .getfield _ => match raw with
    | .getfield k => Nat.beq len 3 && (Nat.blt a 8 && (Nat.blt b (x_clN a) && (Nat.beq (x_ft a b) (x_tag v) && x_has (x_num v) (.fieldLink (x_cn M.2.1) k (x_cn a) (x_fld a b).2.1 (x_fld a b).2.2.1))))
    | _ => false
  | .putfield _ => match raw with
    | .putfield k => Nat.beq len 3 && (Nat.blt a 8 && (Nat.blt b (x_clN a) && (Nat.beq (x_ft a b) (x_tag v) && (x_has (x_num v) (.fieldLink (x_cn M.2.1) k (x_cn a) (x_fld a b).2.1 (x_fld a b).2.2.1) && (!(x_fld a b).2.2.2 || (decide ((x_y M.1).name = "<init>") && Nat.beq a M.2.1))))))
    | _ => false
  | .invokevirtual _ => match raw with
    | .invokevirtual k => Nat.beq len 3 && (Nat.beq (x_kd a) 0 && x_has b (.methodLink (x_cn M.2.1) k (x_y a)))
    | _ => false
  | .invokespecial _ => match raw with
    | .invokespecial k => Nat.beq len 3 && (Nat.beq (x_kd a) 2 && (x_has b (.methodLink (x_cn M.2.1) k (x_y a)) || x_has b (.methodLinkNest (x_cn M.2.1) k (x_y a) "SnowTracks")))
    | _ => false
  | .invokestatic _ => match raw with
    | .invokestatic k => Nat.beq len 3 && (Nat.beq (x_kd a) 1 && (x_has b (.methodLink (x_cn M.2.1) k (x_y a)) || x_has b (.methodLinkNest (x_cn M.2.1) k (x_y a) "SnowTracks")))
    | _ => false
  | .invokedynamic _ => match raw with
    | .invokespecial k => Nat.beq len 3 && (x_has b (.methodLink (x_cn M.2.1) k Lib.objectInit) && (Nat.ble 1 M.2.2.2.1 && Nat.ble 20 M.2.2.2.2.1))
    | _ => false
  | .invokeinterface _ _ => match raw with
    | .invokestatic k => Nat.beq len 3 && (x_has b (.methodLink (x_cn M.2.1) k arraycopyName) && (Nat.ble 1 M.2.2.2.1 && Nat.ble 60 M.2.2.2.2.1))
    | _ => false
  | .dadd => match raw with
    | .invokestatic k => Nat.beq len 3 && (x_has b (.methodLink (x_cn M.2.1) k Lib.Math.max.name) && (Nat.ble 1 M.2.2.2.1 && Nat.ble 21 M.2.2.2.2.1))
    | _ => false
  | .dsub => match raw with
    | .invokestatic k => Nat.beq len 3 && (x_has b (.methodLink (x_cn M.2.1) k Lib.Math.min.name) && (Nat.ble 1 M.2.2.2.1 && Nat.ble 21 M.2.2.2.2.1))
    | _ => false
  | .dneg => match raw with
    | .invokestatic k => Nat.beq len 3 && (x_has b (.methodLink (x_cn M.2.1) k Lib.Math.abs.name) && (Nat.ble 1 M.2.2.2.1 && Nat.ble 21 M.2.2.2.2.1))
    | _ => false
  | .new _ => match raw with
    | .new k => Nat.beq len 3 && (Nat.blt a 8 && (Nat.beq b (x_clN a) && x_has (x_num v) (.classLink (x_cn M.2.1) k (x_cn a))))
    | _ => false
  | .newarray t => match raw with
    | .newarray t' => Nat.beq len 2 && decide (t' = t)
    | _ => false
  | .anewarray _ => match raw with
    | .anewarray k => Nat.beq len 3 && x_has b (.classLink (x_cn M.2.1) k "SnowTracks$Pass")
    | _ => false
  | .multianewarray _ _ => match raw with
    | .multianewarray k d => Nat.beq len 4 && (Nat.beq d 2 && x_has b (.classLink (x_cn M.2.1) k "[[I"))
    | _ => false
  | i => Nat.beq len 1 && decide (raw = i)
def x_okr (M : xK) (r : xRow) : Bool := match decode (x_by M.1) r.1 with
  | .ok (raw, len) => Nat.beq r.2.2.1 (r.1 + len) && x_oki M r.1 raw len r.2.1 r.2.2.2.1 r.2.2.2.2.1 r.2.2.2.2.2
  | .error _ => false
def x_okM (M : xM) : Bool := M.2.2.2.2.2.2.1.all (x_okr (M.1, M.2.1, M.2.2.1, M.2.2.2.2.2.1))
