/-- what the table says of a method that is called: its code, its class, its kind (0 of an object, 1 static, 2 a constructor) -/
def x_cok (a : Nat) (M : xM) : Bool := match x_nth x_cp a with
  | none => false
  | some (pc, pi, pm, ps, kd) => Nat.beq M.1 a && (x_has pc (.code (x_y a) (x_by a) M.2.2.1 (x_rty M.2.2.2.2.1)) && (x_has pi (.initialized (x_y a).cls) && (decide ((x_y a).cls = x_cn M.2.1) && (Jvm.plainName (x_y a).cls && (decide ((x_y a).cls ≠ "java/lang/invoke/MethodHandle" ∧ (x_y a).cls ≠ "java/lang/invoke/VarHandle") && (match kd with
    | 1 => x_has pm (.static (x_y a)) && (decide ((parseMethodDescriptor (x_y a).desc).map (fun d => d.parameters.length) = some M.2.2.2.1) && Nat.beq M.2.2.2.1 M.2.2.2.1)
    | 0 => x_has pm (.instanceMethod (x_y a)) && (x_has ps (.selects (x_y a).cls (x_y a) (x_y a)) && (decide ((parseMethodDescriptor (x_y a).desc).map (fun d => d.parameters.length + 1) = some M.2.2.2.1) && Nat.blt M.2.1 8))
    | _ => x_has pm (.instanceMethod (x_y a)) && (decide ((x_y a).name = "<init>") && (decide ((parseMethodDescriptor (x_y a).desc).map (fun d => d.parameters.length + 1) = some M.2.2.2.1) && (Nat.blt M.2.1 8 && Nat.beq M.2.2.2.2.1 0)))))))))
def x_allI (f : Nat → xM → Bool) : Nat → List xM → Bool
  | _, [] => true
  | k, M :: r => f k M && x_allI f (k + 1) r
theorem x_allI_at {f : Nat → xM → Bool} : ∀ (l : List xM) (k a : Nat) (M : xM), x_allI f k l = true → x_nth l a = some M → f (k + a) M = true
  | [], _, _, _, _, h => by cases h
  | N :: r, k, 0, M, h, e => by
    simp only [x_allI, Bool.and_eq_true] at h
    cases e
    exact h.1
  | N :: r, k, a + 1, M, h, e => by
    simp only [x_allI, Bool.and_eq_true] at h
    have := x_allI_at r (k + 1) a M h.2 e
    rwa [show k + (a + 1) = k + 1 + a by omega]
theorem x_allI_app {f : Nat → xM → Bool} : ∀ (l r : List xM) (k : Nat), x_allI f k l = true → x_allI f (k + l.length) r = true → x_allI f k (l ++ r) = true
  | [], _, _, _, h => h
  | N :: l, r, k, h1, h2 => by
    simp only [x_allI, Bool.and_eq_true, List.cons_append] at h1 ⊢
    exact ⟨h1.1, x_allI_app l r (k + 1) h1.2 (by rw [show k + 1 + l.length = k + (N :: l).length by simp [List.length_cons]; omega]; exact h2)⟩
