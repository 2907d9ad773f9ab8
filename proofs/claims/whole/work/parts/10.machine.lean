/-! THE SMALL MACHINE: an abstract step of the bytecode over a store of three tables (ints, longs, references) and a list of shapes.
A reference is the number of a cell in the list of shapes; a row of a method's table: pc, instruction, next pc, two operands, a constant. -/
abbrev xS := Nat → Nat → Int32
abbrev xL := Nat → Nat → Int64
abbrev xR := Nat → Nat → Option Nat
/-- shapes (kind, size), references, cells and slots made in this frame; kinds: below 16 a class, 16 int[], 17 boolean[], 18 int[][], 19 Pass[] -/
abbrev xG := List (Nat × Nat) × xR × Nat × Nat
abbrev xRow := Nat × Instr × Nat × Nat × Nat × Value
/-- number, class, locals, arguments, kind of answer (0 none, 1 int, 2 boolean, 3 long), room (frames, locals, cells, slots), rows, script's length and ints -/
abbrev xM := Nat × Nat × Nat × Nat × Nat × (Nat × Nat × Nat × Nat) × List xRow × Nat × (Nat → Int32)
abbrev xQ := Option Value → xG → xS → xL → Prop
def x_row {α : Type} (σ : Nat → Nat → α) (q : Nat) (f : Nat → α) : Nat → Nat → α := fun q' => if q' = q then f else σ q'
def x_wr (ρ : xR) (q j r : Nat) : xR := fun q' j' => bif Nat.beq q' q && Nat.beq j' j then some r else ρ q' j'
def x_fnd : List xRow → Nat → Option (Instr × Nat × Nat × Nat × Value)
  | [], _ => none
  | r :: rs, pc => bif Nat.beq r.1 pc then some r.2 else x_fnd rs pc
def x_nth {α : Type} : List α → Nat → Option α
  | [], _ => none
  | x :: _, 0 => some x
  | _ :: xs, k + 1 => x_nth xs k
def x_set : List Value → Nat → Value → (List Value → Prop) → Prop
  | [], _, _, _ => False
  | _ :: xs, 0, v, K => K (v :: xs)
  | x :: xs, k + 1, v, K => x_set xs k v (fun ys => K (x :: ys))
/-- no long stands just ahead of this place -/
def x_low : List Value → Nat → Bool
  | _, 0 => true
  | ls, k + 1 => match x_nth ls k with
    | some (.long _) => false
    | some (.double _) => false
    | _ => true
def x_pop : Nat → List Value → List Value → (List Value → List Value → Prop) → Prop
  | 0, st, as, K => K as st
  | _ + 1, [], _, _ => False
  | n + 1, v :: st, as, K => x_pop n st (v :: as) K
/-- arguments as locals: a long takes two places, the rest is unset -/
def x_loc : List Value → Nat → List Value
  | [], n => List.replicate n .null
  | .long x :: vs, n + 2 => .long x :: .null :: x_loc vs n
  | v :: vs, n + 1 => v :: x_loc vs n
  | _ :: _, 0 => []
/-- how many places arguments take -/
def x_words : List Value → Nat
  | [] => 0
  | .long _ :: vs => x_words vs + 2
  | .double _ :: vs => x_words vs + 1000
  | _ :: vs => x_words vs + 1
def x_cat : List Value → Nat → Bool
  | [], n => Nat.ble n 8
  | .long _ :: vs, n => x_cat vs (n + 2)
  | .double _ :: vs, n => x_cat vs (n + 2)
  | _ :: vs, n => x_cat vs (n + 1)
def x_refs (n : Nat) : List Value → Bool
  | [] => true
  | .ref q :: vs => Nat.blt q n && x_refs n vs
  | _ :: vs => x_refs n vs
def x_push (r : Option Value) (st : List Value) : List Value := match r with
  | some v => v :: st
  | none => st
def x_sw : List (Int32 × Nat) → Int32 → Nat → (Nat → Prop) → Prop
  | [], _, d, K => K d
  | (v, t) :: r, x, d, K => (x = v → K t) ∧ (¬ x = v → x_sw r x d K)
def x_cond (c : ClassFile.Cond) (x y : Int32) : Prop := match c with
  | .eq => x = y
  | .ne => ¬ x = y
  | .lt => x < y
  | .ge => y ≤ x
  | .gt => y < x
  | .le => x ≤ y
/-- refs of the rows of a new array of arrays -/
def x_wrr (ρ : xR) (q n : Nat) : xR := fun q' j' => bif Nat.beq q' q then (bif Nat.blt j' n then some (q + 1 + j') else none) else ρ q' j'
def x_no (ρ : xR) (q : Nat) : xR := fun q' j' => bif Nat.beq q' q then none else ρ q' j'
def x_zs {α : Type} (z : α) (σ : Nat → Nat → α) (q : Nat) : Nat → Nat → α := fun q' j' => if q ≤ q' then z else σ q' j'
