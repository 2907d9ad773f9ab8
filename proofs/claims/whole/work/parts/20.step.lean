def x_br (c : ClassFile.Cond) (x y : Int32) (A B : Prop) : Prop := match c with
  | .eq => (x = y → A) ∧ (¬ x = y → B)
  | .ne => (¬ x = y → A) ∧ (x = y → B)
  | .lt => (x < y → A) ∧ (¬ x < y → B)
  | .ge => (y ≤ x → A) ∧ (¬ y ≤ x → B)
  | .gt => (y < x → A) ∧ (¬ y < x → B)
  | .le => (x ≤ y → A) ∧ (¬ x ≤ y → B)
/-- the room that a callee needs is there -/
def x_room (M M' : xM) (nc ns : Nat) : Bool :=
  Nat.ble (M'.2.2.2.2.2.1.1 + 1) M.2.2.2.2.2.1.1 && (Nat.ble (8 + (M'.2.2.1 + 11) + M'.2.2.2.2.2.1.2.1) M.2.2.2.2.2.1.2.1 && (Nat.ble (nc + M'.2.2.2.2.2.1.2.2.1) M.2.2.2.2.2.1.2.2.1 && (Nat.ble (ns + M'.2.2.2.2.2.1.2.2.2) M.2.2.2.2.2.1.2.2.2 && Nat.blt M'.2.2.1 1000)))
def x_recv (M' : xM) (sh : List (Nat × Nat)) : List Value → Bool
  | .ref q :: _ => match x_nth sh q with
    | some (kd, _) => Nat.beq kd M'.2.1
    | none => false
  | _ => false
/-- one call: arguments off the stack, the callee, its answer on the rest -/
def x_call (M : xM) (nx a : Nat) (isv : Bool) (ls st : List Value) (g : xG) (σ : xS) (τ : xL) (K : Nat → List Value → List Value → xG → xS → xL → Prop) (C : xM → List Value → xG → xS → xL → xQ → Prop) : Prop :=
  match x_nth x_tab a with
  | none => False
  | some M' => bif x_room M M' g.2.2.1 g.2.2.2 then
      x_pop M'.2.2.2.1 st [] (fun as rest => bif x_cat rest 0 && ((!isv || x_recv M' g.1 as) && (Nat.ble (x_words as) M'.2.2.1 && (Nat.beq M'.2.2.2.2.2.1.2.2.1 0 || x_refs g.1.length (ls ++ rest)))) then
        C M' as (g.1, g.2.1, 0, 0) σ τ (fun r g' σ' τ' => K nx ls (x_push r rest) (g'.1, g'.2.1, g.2.2.1 + M'.2.2.2.2.2.1.2.2.1, g.2.2.2 + M'.2.2.2.2.2.1.2.2.2) σ' τ') else False)
    else False
def x_stp (M : xM) (i : Instr) (nx a b : Nat) (v : Value) (ls st : List Value) (g : xG) (σ : xS) (τ : xL) (K : Nat → List Value → List Value → xG → xS → xL → Prop) (F : xQ) (C : xM → List Value → xG → xS → xL → xQ → Prop) : Prop :=
  match i with
  | .iconst _ => K nx ls (v :: st) g σ τ
  | .iload k => match x_nth ls k with
    | some (.int x) => K nx ls (.int x :: st) g σ τ
    | _ => False
  | .lload k => match x_nth ls k with
    | some (.long x) => K nx ls (.long x :: st) g σ τ
    | _ => False
  | .aload k => match x_nth ls k with
    | some (.ref x) => K nx ls (.ref x :: st) g σ τ
    | some (.retAddr x) => K nx ls (.retAddr x :: st) g σ τ
    | _ => False
  | .istore k => match st with
    | .int x :: st' => bif x_low ls k then x_set ls k (.int x) (fun ls' => K nx ls' st' g σ τ) else False
    | _ => False
  | .astore k => match st with
    | .ref x :: st' => bif x_low ls k then x_set ls k (.ref x) (fun ls' => K nx ls' st' g σ τ) else False
    | _ => False
  | .lstore k => match st with
    | .long x :: st' => bif x_low ls k then x_set ls k (.long x) (fun ls1 => x_set ls1 (k + 1) .null (fun ls' => K nx ls' st' g σ τ)) else False
    | _ => False
  | .iinc k _ => match x_nth ls k, v with
    | some (.int x), .int d => bif x_low ls k then x_set ls k (.int (x + d)) (fun ls' => K nx ls' st g σ τ) else False
    | _, _ => False
  | .iadd => match st with
    | .int y :: .int x :: st' => K nx ls (.int (x + y) :: st') g σ τ
    | _ => False
  | .isub => match st with
    | .int y :: .int x :: st' => K nx ls (.int (x - y) :: st') g σ τ
    | _ => False
  | .imul => match st with
    | .int y :: .int x :: st' => K nx ls (.int (x * y) :: st') g σ τ
    | _ => False
  | .iand => match st with
    | .int y :: .int x :: st' => K nx ls (.int (x &&& y) :: st') g σ τ
    | _ => False
  | .ior => match st with
    | .int y :: .int x :: st' => K nx ls (.int (x ||| y) :: st') g σ τ
    | _ => False
  | .ixor => match st with
    | .int y :: .int x :: st' => K nx ls (.int (x ^^^ y) :: st') g σ τ
    | _ => False
  | .ishl => match st with
    | .int y :: .int x :: st' => K nx ls (.int (x <<< (y &&& 31)) :: st') g σ τ
    | _ => False
  | .ishr => match st with
    | .int y :: .int x :: st' => K nx ls (.int (x >>> (y &&& 31)) :: st') g σ τ
    | _ => False
  | .iushr => match st with
    | .int y :: .int x :: st' => K nx ls (.int (x.toUInt32 >>> (y.toUInt32 &&& Int32.toUInt32 31)).toInt32 :: st') g σ τ
    | _ => False
  | .idiv => match st with
    | .int y :: .int x :: st' => ¬ y = 0 ∧ K nx ls (.int (x / y) :: st') g σ τ
    | _ => False
  | .irem => match st with
    | .int y :: .int x :: st' => ¬ y = 0 ∧ K nx ls (.int (x - x / y * y) :: st') g σ τ
    | _ => False
  | .ineg => match st with
    | .int x :: st' => K nx ls (.int (-x) :: st') g σ τ
    | _ => False
  | .i2l => match st with
    | .int x :: st' => K nx ls (.long x.toInt64 :: st') g σ τ
    | _ => False
  | .i2b => match st with
    | .int x :: st' => K nx ls (.int x.toInt8.toInt32 :: st') g σ τ
    | _ => False
  | .l2i => match st with
    | .long x :: st' => K nx ls (.int x.toInt32 :: st') g σ τ
    | _ => False
  | .ladd => match st with
    | .long y :: .long x :: st' => K nx ls (.long (x + y) :: st') g σ τ
    | _ => False
  | .lmul => match st with
    | .long y :: .long x :: st' => K nx ls (.long (x * y) :: st') g σ τ
    | _ => False
  | .ldiv => match st with
    | .long y :: .long x :: st' => ¬ y = 0 ∧ K nx ls (.long (x / y) :: st') g σ τ
    | _ => False
  | .lrem => match st with
    | .long y :: .long x :: st' => ¬ y = 0 ∧ K nx ls (.long (x - x / y * y) :: st') g σ τ
    | _ => False
  | .lcmp => match st with
    | .long y :: .long x :: st' => K nx ls (.int (lg_cmp x y) :: st') g σ τ
    | _ => False
  | .dup => match st with
    | .int x :: st' => K nx ls (.int x :: .int x :: st') g σ τ
    | .ref x :: st' => K nx ls (.ref x :: .ref x :: st') g σ τ
    | _ => False
  | .dup2 => match st with
    | .int y :: .ref x :: st' => K nx ls (.int y :: .ref x :: .int y :: .ref x :: st') g σ τ
    | _ => False
  | .pop => match st with
    | .int _ :: st' => K nx ls st' g σ τ
    | _ => False
  | .ifCond c _ => match st with
    | .int x :: st' => x_br c x 0 (K a ls st' g σ τ) (K nx ls st' g σ τ)
    | _ => False
  | .if_icmp c _ => match st with
    | .int y :: .int x :: st' => x_br c x y (K a ls st' g σ τ) (K nx ls st' g σ τ)
    | _ => False
  | .goto _ => K a ls st g σ τ
  | .lookupswitch _ _ => match st, x_nth x_swt b with
    | .int x :: st', some sw => x_sw sw x a (fun pc => K pc ls st' g σ τ)
    | _, _ => False
  | .getfield _ => match st with
    | .ref q :: st' => match x_nth g.1 q with
      | some (kd, n) => bif Nat.beq kd a && Nat.blt b n then (match v with
        | .int _ => K nx ls (.int (σ q b) :: st') g σ τ
        | .long _ => K nx ls (.long (τ q b) :: st') g σ τ
        | _ => match g.2.1 q b with
          | some r => K nx ls (.ref r :: st') g σ τ
          | none => False) else False
      | none => False
    | _ => False
  | .putfield _ => match st with
    | x :: .ref q :: st' => match x_nth g.1 q with
      | some (kd, n) => bif Nat.beq kd a && Nat.blt b n then (match v, x with
        | .int _, .int x => K nx ls st' g (x_row σ q (upd (σ q) b x)) τ
        | .long _, .long x => K nx ls st' g σ (x_row τ q (vp_updL (τ q) b x))
        | .retAddr _, .ref r => bif Nat.blt r g.1.length then K nx ls st' (g.1, x_wr g.2.1 q b r, g.2.2.1, g.2.2.2) σ τ else False
        | _, _ => False) else False
      | none => False
    | _ => False
  | .iaload => match st with
    | .int j :: .ref q :: st' => ∃ n, x_nth g.1 q = some (16, n) ∧ vp_in j n ∧ K nx ls (.int (σ q j.toNatClampNeg) :: st') g σ τ
    | .int j :: .retAddr x :: st' => (M.1 = 226 ∧ x = M.2.2.2.1 ∧ vp_in j M.2.2.2.2.2.2.2.1) ∧ K nx ls (.int (M.2.2.2.2.2.2.2.2 j.toNatClampNeg) :: st') g σ τ
    | _ => False
  | .iastore => match st with
    | .int x :: .int j :: .ref q :: st' => ∃ n, x_nth g.1 q = some (16, n) ∧ vp_in j n ∧ K nx ls st' g (x_row σ q (upd (σ q) j.toNatClampNeg x)) τ
    | _ => False
  | .baload => match st with
    | .int j :: .ref q :: st' => ∃ n, x_nth g.1 q = some (17, n) ∧ vp_in j n ∧ K nx ls (.int (σ q j.toNatClampNeg) :: st') g σ τ
    | _ => False
  | .bastore => match st with
    | .int x :: .int j :: .ref q :: st' => ∃ n, x_nth g.1 q = some (17, n) ∧ vp_in j n ∧ (x = 0 ∨ x = 1) ∧ K nx ls st' g (x_row σ q (upd (σ q) j.toNatClampNeg x)) τ
    | _ => False
  | .aaload => match st with
    | .int j :: .ref q :: st' => ∃ kd n r, x_nth g.1 q = some (kd, n) ∧ (kd = 18 ∨ kd = 19) ∧ vp_in j n ∧ g.2.1 q j.toNatClampNeg = some r ∧ K nx ls (.ref r :: st') g σ τ
    | _ => False
  | .aastore => match st with
    | .ref r :: .int j :: .ref q :: st' => ∃ n m, x_nth g.1 q = some (19, n) ∧ vp_in j n ∧ x_nth g.1 r = some (2, m) ∧ K nx ls st' (g.1, x_wr g.2.1 q j.toNatClampNeg r, g.2.2.1, g.2.2.2) σ τ
    | _ => False
  | .arraylength => match st with
    | .ref q :: st' => ∃ kd n, x_nth g.1 q = some (kd, n) ∧ (kd = 16 ∨ kd = 17 ∨ kd = 18 ∨ kd = 19) ∧ K nx ls (.int (Int32.ofNat n) :: st') g σ τ
    | .retAddr x :: st' => (M.1 = 226 ∧ x = M.2.2.2.1) ∧ K nx ls (.int (Int32.ofNat M.2.2.2.2.2.2.2.1) :: st') g σ τ
    | _ => False
  | .invokedynamic _ => match st with
    | .ref _ :: st' => bif x_cat st' 0 then K nx ls st' g σ τ else False
    | _ => False
  | .invokeinterface _ _ => match st with
    | .int n :: .int dp :: .ref q1 :: .int sp :: .ref q0 :: st' => ∃ n0 n1, x_nth g.1 q0 = some (16, n0) ∧ x_nth g.1 q1 = some (16, n1) ∧ (¬ sp < 0 ∧ ¬ dp < 0 ∧ ¬ n < 0 ∧ sp.toNatClampNeg + n.toNatClampNeg ≤ n0 ∧ dp.toNatClampNeg + n.toNatClampNeg ≤ n1) ∧ (bif x_cat st' 0 then K nx ls st' g (x_row σ q1 (va_cpy (σ q0) (σ q1) sp.toNatClampNeg dp.toNatClampNeg n.toNatClampNeg)) τ else False)
    | _ => False
  | .dadd => match st with
    | .int y :: .int x :: st' => bif x_cat st' 0 then K nx ls (.int (if x < y then y else x) :: st') g σ τ else False
    | _ => False
  | .dsub => match st with
    | .int y :: .int x :: st' => bif x_cat st' 0 then K nx ls (.int (if y < x then y else x) :: st') g σ τ else False
    | _ => False
  | .dneg => match st with
    | .int x :: st' => bif x_cat st' 0 then K nx ls (.int (if 0 ≤ x then x else 0 - x) :: st') g σ τ else False
    | _ => False
  | .invokevirtual _ => x_call M nx a true ls st g σ τ K C
  | .invokespecial _ => x_call M nx a true ls st g σ τ K C
  | .invokestatic _ => x_call M nx a false ls st g σ τ K C
  | .new _ => bif Nat.ble (g.2.2.1 + 1) M.2.2.2.2.2.1.2.2.1 && (Nat.ble (g.2.2.2 + b) M.2.2.2.2.2.1.2.2.2 && x_refs g.1.length (ls ++ st)) then
      K nx ls (.ref g.1.length :: st) (g.1 ++ [(a, b)], x_no g.2.1 g.1.length, g.2.2.1 + 1, g.2.2.2 + b) (x_zs 0 σ g.1.length) (x_zs 0 τ g.1.length) else False
  | .newarray t => match st with
    | .int n :: st' => ∃ N, n = nI N ∧ N ≤ 1000 ∧ (bif Nat.ble (g.2.2.1 + 1) M.2.2.2.2.2.1.2.2.1 && (Nat.ble (g.2.2.2 + N) M.2.2.2.2.2.1.2.2.2 && x_refs g.1.length (ls ++ st')) then
      (match t with
        | .int => K nx ls (.ref g.1.length :: st') (g.1 ++ [(16, N)], x_no g.2.1 g.1.length, g.2.2.1 + 1, g.2.2.2 + N) (x_zs 0 σ g.1.length) (x_zs 0 τ g.1.length)
        | .boolean => K nx ls (.ref g.1.length :: st') (g.1 ++ [(17, N)], x_no g.2.1 g.1.length, g.2.2.1 + 1, g.2.2.2 + N) (x_zs 0 σ g.1.length) (x_zs 0 τ g.1.length)
        | _ => False) else False)
    | _ => False
  | .anewarray _ => match st with
    | .int n :: st' => ∃ N, n = nI N ∧ N ≤ 1000 ∧ (bif Nat.ble (g.2.2.1 + 1) M.2.2.2.2.2.1.2.2.1 && (Nat.ble (g.2.2.2 + N) M.2.2.2.2.2.1.2.2.2 && x_refs g.1.length (ls ++ st')) then
      K nx ls (.ref g.1.length :: st') (g.1 ++ [(19, N)], x_no g.2.1 g.1.length, g.2.2.1 + 1, g.2.2.2 + N) (x_zs 0 σ g.1.length) (x_zs 0 τ g.1.length) else False)
    | _ => False
  | .multianewarray _ _ => match st with
    | .int k :: .int n :: st' => ∃ N P, n = nI N ∧ k = nI P ∧ N ≤ 100 ∧ P ≤ 100 ∧ (bif Nat.ble (g.2.2.1 + (1 + N)) M.2.2.2.2.2.1.2.2.1 && (Nat.ble (g.2.2.2 + (N + N * P)) M.2.2.2.2.2.1.2.2.2 && x_refs g.1.length (ls ++ st')) then
      K nx ls (.ref g.1.length :: st') (g.1 ++ ((18, N) :: List.replicate N (16, P)), x_wrr g.2.1 g.1.length N, g.2.2.1 + 1 + N, g.2.2.2 + N + N * P) (x_zs 0 σ g.1.length) (x_zs 0 τ g.1.length) else False)
    | _ => False
  | .ireturn => match st with
    | [.int x] => bif Nat.beq M.2.2.2.2.1 1 then F (some (.int x)) g σ τ else (bif Nat.beq M.2.2.2.2.1 2 then (x = 0 ∨ x = 1) ∧ F (some (.int x)) g σ τ else False)
    | _ => False
  | .lreturn => match st with
    | [.long x] => bif Nat.beq M.2.2.2.2.1 3 then F (some (.long x)) g σ τ else False
    | _ => False
  | .return_ => match st with
    | [] => bif Nat.beq M.2.2.2.2.1 0 then F none g σ τ else False
    | _ => False
  | _ => False
def x_one (X : xM → Nat → List Value → List Value → xG → xS → xL → xQ → Prop) (M : xM) (pc : Nat) (ls st : List Value) (g : xG) (σ : xS) (τ : xL) (Q : xQ) : Prop :=
  match x_fnd M.2.2.2.2.2.2.1 pc with
  | none => False
  | some (i, nx, a, b, v) => x_stp M i nx a b v ls st g σ τ (fun pc ls st g σ τ => X M pc ls st g σ τ Q) Q (fun M' as g σ τ Q' => X M' 0 (x_loc as M'.2.2.1) [] g σ τ Q')
/-- the machine comes from here to a return with Q: the least such relation -/
def Ev (M : xM) (pc : Nat) (ls st : List Value) (g : xG) (σ : xS) (τ : xL) (Q : xQ) : Prop :=
  ∀ X : xM → Nat → List Value → List Value → xG → xS → xL → xQ → Prop, (∀ M pc ls st g σ τ Q, x_one X M pc ls st g σ τ Q → X M pc ls st g σ τ Q) → X M pc ls st g σ τ Q
/-- steps up to one of the places cs -/
def x_go : Nat → List Nat → xM → Nat → List Value → List Value → xG → xS → xL → xQ → Prop
  | 0, _, M, pc, ls, st, g, σ, τ, Q => Ev M pc ls st g σ τ Q
  | n + 1, cs, M, pc, ls, st, g, σ, τ, Q => bif cs.elem pc then Ev M pc ls st g σ τ Q else
    match x_fnd M.2.2.2.2.2.2.1 pc with
    | none => False
    | some (i, nx, a, b, v) => x_stp M i nx a b v ls st g σ τ (fun pc ls st g σ τ => x_go n cs M pc ls st g σ τ Q) Q (fun M' as g σ τ Q' => Ev M' 0 (x_loc as M'.2.2.1) [] g σ τ Q')
