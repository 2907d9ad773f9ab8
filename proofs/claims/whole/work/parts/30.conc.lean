/-! THE SMALL MACHINE'S STORE AS CELLS OF THE HEAP -/
theorem x_nth_get {α : Type} : ∀ (l : List α) (k : Nat), x_nth l k = l[k]?
  | [], k => by simp [x_nth]
  | x :: xs, 0 => by simp [x_nth]
  | x :: xs, k + 1 => by simp [x_nth, x_nth_get xs k]
theorem x_nth_lt {α : Type} {l : List α} {k : Nat} {x : α} (h : x_nth l k = some x) : k < l.length := by
  rw [x_nth_get] at h
  exact (List.getElem?_eq_some_iff.mp h).1
def x_val (ad : Nat → Nat) (ρ : xR) (σ : xS) (τ : xL) (q ci k : Nat) : Value := match x_ft ci k with
  | 0 => .int (σ q k)
  | 1 => .long (τ q k)
  | _ => va_rf ((ρ q k).map ad)
def x_cell (kc : Nat → ClassId) (ad : Nat → Nat) (ρ : xR) (σ : xS) (τ : xL) (q : Nat) (s : Nat × Nat) : va_E :=
  if s.1 < 16 then .inr (s.1, (List.range s.2).map (x_val ad ρ σ τ q s.1))
  else if s.1 < 18 then .inl (kc s.1, s.2, .inl (σ q))
  else .inl (kc s.1, s.2, .inr (.inr (.inr (.inr (fun j => (ρ q j).map ad)))))
def x_wd (kc : Nat → ClassId) (ad : Nat → Nat) (sh : List (Nat × Nat)) (ρ : xR) (σ : xS) (τ : xL) : va_W := (List.range sh.length).map (fun q => (ad q, x_cell kc ad ρ σ τ q ((x_nth sh q).getD (0, 0))))
theorem x_wd_len {kc : Nat → ClassId} {ad : Nat → Nat} {sh : List (Nat × Nat)} {ρ : xR} {σ : xS} {τ : xL} : (x_wd kc ad sh ρ σ τ).length = sh.length := by simp [x_wd]
theorem x_wd_get (kc : Nat → ClassId) (ad : Nat → Nat) (sh : List (Nat × Nat)) (ρ : xR) (σ : xS) (τ : xL) (q : Nat) : (x_wd kc ad sh ρ σ τ)[q]? = (x_nth sh q).map (fun s => (ad q, x_cell kc ad ρ σ τ q s)) := by
  unfold x_wd
  rw [List.getElem?_map]
  by_cases h : q < sh.length
  · rw [List.getElem?_range h, x_nth_get, List.getElem?_eq_getElem h]
    simp [x_nth_get, List.getElem?_eq_getElem h]
  · rw [List.getElem?_eq_none (by simpa using h), x_nth_get, List.getElem?_eq_none (by omega)]
    rfl
theorem x_cell_congr {kc : Nat → ClassId} {ad : Nat → Nat} {ρ ρ' : xR} {σ σ' : xS} {τ τ' : xL} {q : Nat} {s : Nat × Nat} (h1 : ρ' q = ρ q) (h2 : σ' q = σ q) (h3 : τ' q = τ q) : x_cell kc ad ρ' σ' τ' q s = x_cell kc ad ρ σ τ q s := by
  have e : x_val ad ρ' σ' τ' q s.1 = x_val ad ρ σ τ q s.1 := by
    funext k
    simp only [x_val, h1, h2, h3]
  simp only [x_cell, e, h1, h2]
theorem x_wd_upd {kc : Nat → ClassId} {ad : Nat → Nat} {sh : List (Nat × Nat)} {ρ ρ' : xR} {σ σ' : xS} {τ τ' : xL} {q : Nat} {s : Nat × Nat} (h : x_nth sh q = some s) (h1 : ∀ k, k ≠ q → ρ' k = ρ k) (h2 : ∀ k, k ≠ q → σ' k = σ k) (h3 : ∀ k, k ≠ q → τ' k = τ k) :
    x_wd kc ad sh ρ' σ' τ' = (x_wd kc ad sh ρ σ τ).set q (ad q, x_cell kc ad ρ' σ' τ' q s) := by
  apply List.ext_getElem?
  intro k
  by_cases hk : k = q
  · subst hk
    rw [List.getElem?_set_self (by rw [x_wd_len]; exact x_nth_lt h), x_wd_get, h]
    rfl
  · rw [List.getElem?_set_ne (Ne.symm hk), x_wd_get, x_wd_get]
    congr 1
    funext s'
    rw [x_cell_congr (h1 k hk) (h2 k hk) (h3 k hk)]
theorem x_row_ne {α : Type} {σ : Nat → Nat → α} {q k : Nat} {f : Nat → α} (h : k ≠ q) : x_row σ q f k = σ k := if_neg h
theorem x_row_eq {α : Type} {σ : Nat → Nat → α} {q : Nat} {f : Nat → α} : x_row σ q f q = f := if_pos rfl
theorem x_wr_ne {ρ : xR} {q j r k : Nat} (h : k ≠ q) : x_wr ρ q j r k = ρ k := by
  funext i
  have e : Nat.beq k q = false := by
    cases hb : Nat.beq k q
    · rfl
    · exact absurd (Nat.eq_of_beq_eq_true hb) h
  simp [x_wr, e]
def x_tys (kc : Nat → ClassId) : List (ClassId × FieldType) := [(kc 16, .int), (kc 17, .boolean), (kc 18, .array .int), (kc 19, .object "SnowTracks$Pass")]
/-- the heap holds the store -/
def x_W (kc : Nat → ClassId) (D : va_G) (A : Nat → Prop) (ad : Nat → Nat) (g : xG) (σ : xS) (τ : xL) (H : Heap) : Prop :=
  va_P D x_cl (x_wd kc ad g.1 g.2.1 σ τ) H ∧ va_D A (x_wd kc ad g.1 g.2.1 σ τ) ∧ ∀ q j r, g.2.1 q j = some r → r < g.1.length
def x_cv (ad : Nat → Nat) : Value → Value
  | .ref q => .ref (ad q)
  | .retAddr x => .ref x
  | v => v
def x_as (ad : Nat → Nat) : Nat → List Value → List (Nat × Value)
  | _, [] => []
  | k, .null :: vs => x_as ad (k + 1) vs
  | k, v :: vs => (k, x_cv ad v) :: x_as ad (k + 1) vs
theorem x_as_cons {ad : Nat → Nat} {k : Nat} {v : Value} {vs : List Value} (h : v ≠ .null) : x_as ad k (v :: vs) = (k, x_cv ad v) :: x_as ad (k + 1) vs := by
  cases v <;> first | rfl | exact absurd rfl h
theorem x_as_mem {ad : Nat → Nat} : ∀ (ls : List Value) (k : Nat) (q : Nat × Value), q ∈ x_as ad k ls ↔ ∃ j v, ls[j]? = some v ∧ v ≠ .null ∧ q = (k + j, x_cv ad v)
  | [], k, q => by simp [x_as]
  | w :: vs, k, q => by
    have ih := x_as_mem (ad := ad) vs (k + 1) q
    by_cases hw : w = .null
    · subst hw
      show q ∈ x_as ad (k + 1) vs ↔ _
      rw [ih]
      constructor
      · rintro ⟨j, v, h1, h2, h3⟩
        exact ⟨j + 1, v, by simpa using h1, h2, by rw [h3]; congr 1; omega⟩
      · rintro ⟨j, v, h1, h2, h3⟩
        cases j with
        | zero =>
          simp only [List.getElem?_cons_zero, Option.some.injEq] at h1
          exact absurd h1.symm h2
        | succ j => exact ⟨j, v, by simpa using h1, h2, by rw [h3]; congr 1; omega⟩
    · rw [x_as_cons hw, List.mem_cons, ih]
      constructor
      · rintro (h | ⟨j, v, h1, h2, h3⟩)
        · exact ⟨0, w, by simp, hw, by rw [h]; rfl⟩
        · exact ⟨j + 1, v, by simpa using h1, h2, by rw [h3]; congr 1; omega⟩
      · rintro ⟨j, v, h1, h2, h3⟩
        cases j with
        | zero =>
          simp only [List.getElem?_cons_zero, Option.some.injEq] at h1
          subst h1
          exact Or.inl h3
        | succ j => exact Or.inr ⟨j, v, by simpa using h1, h2, by rw [h3]; congr 1; omega⟩
def x_lr (ad : Nat → Nat) (ls : List Value) (arr : Array Slot) (n : Nat) : Prop := lv_has arr n (x_as ad 0 ls)
theorem x_lr_get {ad : Nat → Nat} {ls : List Value} {arr : Array Slot} {n k : Nat} {v : Value} (h : x_lr ad ls arr n) (hk : x_nth ls k = some v) (hv : v ≠ .null) : arr[k]? = some (.val (x_cv ad v)) := by
  rw [x_nth_get] at hk
  have := h.2.2 (k, x_cv ad v) ((x_as_mem ls 0 _).mpr ⟨k, v, hk, hv, by simp⟩)
  exact this
theorem x_set_iff {K : List Value → Prop} : ∀ (ls : List Value) (k : Nat) (v : Value), x_set ls k v K → k < ls.length ∧ K (ls.set k v)
  | [], _, _, h => h.elim
  | _ :: xs, 0, v, h => ⟨by simp, h⟩
  | x :: xs, k + 1, v, h => by
    have key : ∀ {K : List Value → Prop}, x_set xs k v K → k < xs.length ∧ K (xs.set k v) := fun h => x_set_iff xs k v h
    obtain ⟨h1, h2⟩ := key h
    exact ⟨by simp; omega, by simpa using h2⟩
theorem x_low_at {ls : List Value} {k j : Nat} {v : Value} (h : x_low ls k = true) (hj : ls[j]? = some v) (hk : j + 1 = k) : v.category = 1 := by
  subst hk
  simp only [x_low, x_nth_get, hj] at h
  cases v <;> first | rfl | simp at h
theorem x_cv_cat (ad : Nat → Nat) (v : Value) : (x_cv ad v).category = v.category := by cases v <;> rfl
/-- storing a value of one place -/
theorem x_lr_store1 {ad : Nat → Nat} {ls : List Value} {arr : Array Slot} {n k : Nat} {v : Value} (hlow : x_low ls k = true) (h : lv_has arr n ((k, x_cv ad v) :: (x_as ad 0 ls).filter (fun q => !(q.1 == k) && !(q.1 + 1 == k && q.2.category == 2)))) : x_lr ad (ls.set k v) arr n := by
  refine ⟨h.1, h.2.1, fun q hq => h.2.2 q ?_⟩
  obtain ⟨j, w, h1, h2, rfl⟩ := (x_as_mem _ _ _).mp hq
  by_cases hj : j = k
  · subst hj
    have hlt := (List.getElem?_eq_some_iff.mp h1).1
    rw [List.getElem?_set_self (by simpa using hlt)] at h1
    cases h1
    simp
  · rw [List.getElem?_set_ne (Ne.symm hj)] at h1
    refine List.mem_cons_of_mem _ (List.mem_filter.mpr ⟨(x_as_mem _ _ _).mpr ⟨j, w, h1, h2, rfl⟩, ?_⟩)
    have e1 : (0 + j == k) = false := by simpa using hj
    simp only [e1, Bool.not_false, Bool.true_and]
    cases hb : (0 + j + 1 == k)
    · simp
    · have hk : j + 1 = k := by simpa using hb
      have := x_low_at hlow h1 hk
      simp [x_cv_cat, this]
theorem x_lr_store2 {ad : Nat → Nat} {ls : List Value} {arr : Array Slot} {n k : Nat} {v : Value} (hlow : x_low ls k = true) (h : lv_has arr n ((k, x_cv ad v) :: (x_as ad 0 ls).filter (fun q => !(q.1 == k) && (!(q.1 == k + 1) && !(q.1 + 1 == k && q.2.category == 2))))) : x_lr ad ((ls.set k v).set (k + 1) .null) arr n := by
  refine ⟨h.1, h.2.1, fun q hq => h.2.2 q ?_⟩
  obtain ⟨j, w, h1, h2, rfl⟩ := (x_as_mem _ _ _).mp hq
  by_cases hj1 : j = k + 1
  · subst hj1
    have hlt := (List.getElem?_eq_some_iff.mp h1).1
    rw [List.getElem?_set_self (by simpa using hlt)] at h1
    cases h1
    exact absurd rfl h2
  rw [List.getElem?_set_ne (Ne.symm hj1)] at h1
  by_cases hj : j = k
  · subst hj
    have hlt := (List.getElem?_eq_some_iff.mp h1).1
    rw [List.getElem?_set_self (by simpa using hlt)] at h1
    cases h1
    simp
  · rw [List.getElem?_set_ne (Ne.symm hj)] at h1
    refine List.mem_cons_of_mem _ (List.mem_filter.mpr ⟨(x_as_mem _ _ _).mpr ⟨j, w, h1, h2, rfl⟩, ?_⟩)
    have e1 : (0 + j == k) = false := by simpa using hj
    have e2 : (0 + j == k + 1) = false := by simpa using hj1
    simp only [e1, e2, Bool.not_false, Bool.true_and]
    cases hb : (0 + j + 1 == k)
    · simp
    · have hk : j + 1 = k := by simpa using hb
      have := x_low_at hlow h1 hk
      simp [x_cv_cat, this]
/-- the locals with which a method begins -/
theorem x_loc_as {ad : Nat → Nat} : ∀ (as : List Value) (n k : Nat), x_words as ≤ n → n < 1000 → ∀ q ∈ x_as ad k (x_loc as n), q ∈ lv_args k (as.map (x_cv ad))
  | [], n, k, _, _, q, h => by
    obtain ⟨j, v, h1, h2, -⟩ := (x_as_mem _ _ _).mp h
    have h3 : (List.replicate n Value.null)[j]? = some v := h1
    have h4 := List.mem_of_getElem? h3
    exact absurd (List.eq_of_mem_replicate h4) h2
  | v :: vs, n, k, hn, hb, q, h => by
    cases v with
    | long x =>
      simp only [x_words] at hn
      obtain ⟨n, rfl⟩ : ∃ n', n = n' + 2 := ⟨n - 2, by omega⟩
      have e : x_loc (.long x :: vs) (n + 2) = .long x :: .null :: x_loc vs n := rfl
      rw [e, x_as_cons (by simp)] at h
      rcases List.mem_cons.mp h with h | h
      · rw [h]
        exact List.mem_cons_self
      · refine List.mem_cons_of_mem _ ?_
        exact x_loc_as vs n (k + 2) (by omega) (by omega) q h
    | double x =>
      simp only [x_words] at hn
      omega
    | null =>
      simp only [x_words] at hn
      obtain ⟨n, rfl⟩ : ∃ n', n = n' + 1 := ⟨n - 1, by omega⟩
      refine List.mem_cons_of_mem _ ?_
      exact x_loc_as vs n (k + 1) (by omega) (by omega) q h
    | int x =>
      simp only [x_words] at hn
      obtain ⟨n, rfl⟩ : ∃ n', n = n' + 1 := ⟨n - 1, by omega⟩
      have e : x_loc (.int x :: vs) (n + 1) = .int x :: x_loc vs n := rfl
      rw [e, x_as_cons (by simp)] at h
      rcases List.mem_cons.mp h with h | h
      · rw [h]
        exact List.mem_cons_self
      · refine List.mem_cons_of_mem _ ?_
        exact x_loc_as vs n (k + 1) (by omega) (by omega) q h
    | float x =>
      simp only [x_words] at hn
      obtain ⟨n, rfl⟩ : ∃ n', n = n' + 1 := ⟨n - 1, by omega⟩
      have e : x_loc (.float x :: vs) (n + 1) = .float x :: x_loc vs n := rfl
      rw [e, x_as_cons (by simp)] at h
      rcases List.mem_cons.mp h with h | h
      · rw [h]
        exact List.mem_cons_self
      · refine List.mem_cons_of_mem _ ?_
        exact x_loc_as vs n (k + 1) (by omega) (by omega) q h
    | ref x =>
      simp only [x_words] at hn
      obtain ⟨n, rfl⟩ : ∃ n', n = n' + 1 := ⟨n - 1, by omega⟩
      have e : x_loc (.ref x :: vs) (n + 1) = .ref x :: x_loc vs n := rfl
      rw [e, x_as_cons (by simp)] at h
      rcases List.mem_cons.mp h with h | h
      · rw [h]
        exact List.mem_cons_self
      · refine List.mem_cons_of_mem _ ?_
        exact x_loc_as vs n (k + 1) (by omega) (by omega) q h
    | retAddr x =>
      simp only [x_words] at hn
      obtain ⟨n, rfl⟩ : ∃ n', n = n' + 1 := ⟨n - 1, by omega⟩
      have e : x_loc (.retAddr x :: vs) (n + 1) = .retAddr x :: x_loc vs n := rfl
      rw [e, x_as_cons (by simp)] at h
      rcases List.mem_cons.mp h with h | h
      · rw [h]
        exact List.mem_cons_self
      · refine List.mem_cons_of_mem _ ?_
        exact x_loc_as vs n (k + 1) (by omega) (by omega) q h
theorem x_words_sl {ad : Nat → Nat} : ∀ (as : List Value), x_words as < 1000 → (lg_sl (as.map (x_cv ad))).length = x_words as
  | [], _ => rfl
  | v :: vs, h => by
    cases v with
    | double x => simp only [x_words] at h; omega
    | long x =>
      simp only [x_words] at h ⊢
      have ih := x_words_sl (ad := ad) vs (by omega)
      simp only [lg_sl, List.map_cons, List.flatMap_cons, List.length_append] at ih ⊢
      rw [ih]
      simp [x_cv, Value.category]
      omega
    | _ =>
      simp only [x_words] at h ⊢
      have ih := x_words_sl (ad := ad) vs (by omega)
      simp only [lg_sl, List.map_cons, List.flatMap_cons, List.length_append] at ih ⊢
      rw [ih]
      simp [x_cv, Value.category]
      omega
theorem x_cat_sum (ad : Nat → Nat) : ∀ (st : List Value) (n : Nat), x_cat st n = true → n + ((st.map (x_cv ad)).map fun v => v.category).sum ≤ 8
  | [], n, h => by simpa using Nat.le_of_ble_eq_true h
  | v :: vs, n, h => by
    cases v with
    | long x =>
      have := x_cat_sum ad vs (n + 2) h
      simp only [List.map_cons, List.sum_cons, x_cv, Value.category] at this ⊢
      omega
    | double x =>
      have := x_cat_sum ad vs (n + 2) h
      simp only [List.map_cons, List.sum_cons, x_cv, Value.category] at this ⊢
      omega
    | _ =>
      have := x_cat_sum ad vs (n + 1) h
      simp only [List.map_cons, List.sum_cons, x_cv, Value.category] at this ⊢
      omega
theorem x_cv_ag {ad ad' : Nat → Nat} {n : Nat} (h : ∀ k, k < n → ad' k = ad k) : ∀ (vs : List Value), x_refs n vs = true → vs.map (x_cv ad') = vs.map (x_cv ad)
  | [], _ => rfl
  | v :: vs, hr => by
    cases v with
    | ref q =>
      simp only [x_refs, Bool.and_eq_true] at hr
      have hq : q < n := Nat.le_of_ble_eq_true hr.1
      simp only [List.map_cons, x_cv, h q hq]
      rw [x_cv_ag h vs hr.2]
    | _ =>
      simp only [x_refs] at hr
      simp only [List.map_cons, x_cv]
      rw [x_cv_ag h vs hr]
theorem x_as_ag {ad ad' : Nat → Nat} {n : Nat} (h : ∀ k, k < n → ad' k = ad k) : ∀ (vs : List Value) (k : Nat), x_refs n vs = true → x_as ad' k vs = x_as ad k vs
  | [], _, _ => rfl
  | v :: vs, k, hr => by
    cases v with
    | ref q =>
      simp only [x_refs, Bool.and_eq_true] at hr
      have hq : q < n := Nat.le_of_ble_eq_true hr.1
      rw [x_as_cons (by simp), x_as_cons (by simp), x_as_ag h vs (k + 1) hr.2]
      simp only [x_cv, h q hq]
    | null => exact x_as_ag h vs (k + 1) hr
    | _ =>
      simp only [x_refs] at hr
      rw [x_as_cons (by simp), x_as_cons (by simp), x_as_ag h vs (k + 1) hr]
      rfl
theorem x_refs_app {n : Nat} : ∀ (a b : List Value), x_refs n (a ++ b) = true → x_refs n a = true ∧ x_refs n b = true
  | [], _, h => ⟨rfl, h⟩
  | v :: vs, b, h => by
    cases v with
    | ref q =>
      simp only [x_refs, List.cons_append, Bool.and_eq_true] at h ⊢
      obtain ⟨h1, h2⟩ := x_refs_app vs b h.2
      exact ⟨⟨h.1, h1⟩, h2⟩
    | _ =>
      simp only [x_refs, List.cons_append] at h ⊢
      exact x_refs_app vs b h
theorem x_pop_iff {K : List Value → List Value → Prop} : ∀ (n : Nat) (st as : List Value), x_pop n st as K → ∃ bs rest, st = bs ++ rest ∧ bs.length = n ∧ K (bs.reverse ++ as) rest
  | 0, st, as, h => ⟨[], st, rfl, rfl, h⟩
  | n + 1, [], as, h => h.elim
  | n + 1, v :: st, as, h => by
    obtain ⟨bs, rest, h1, h2, h3⟩ := x_pop_iff n st (v :: as) h
    exact ⟨v :: bs, rest, by rw [h1]; rfl, by simp [h2], by simpa using h3⟩
