/-! LENGTHS THAT MAY BE NONE, WAYS, AND THE LEAST OF THEM -/
def on_add (x y : Option Nat) : Option Nat := match x, y with
  | some a, some b => some (a + b)
  | _, _ => none
def on_le (x y : Option Nat) : Prop := match x, y with
  | _, none => True
  | none, some _ => False
  | some a, some b => a ≤ b
def on_min (x y : Option Nat) : Option Nat := match x, y with
  | some a, some b => some (if b < a then b else a)
  | some a, none => some a
  | none, y => y
theorem on_le_rf (x : Option Nat) : on_le x x := by cases x <;> simp [on_le]
theorem on_le_tr {x y z : Option Nat} (h1 : on_le x y) (h2 : on_le y z) : on_le x z := by
  cases x <;> cases y <;> cases z <;> simp_all [on_le]
  omega
theorem on_le_as {x y : Option Nat} (h1 : on_le x y) (h2 : on_le y x) : x = y := by
  cases x <;> cases y <;> simp_all [on_le]
  omega
theorem on_le_none (x : Option Nat) : on_le x none := by cases x <;> simp [on_le]
theorem on_add_mono {x y z w : Option Nat} (h1 : on_le x y) (h2 : on_le z w) : on_le (on_add x z) (on_add y w) := by
  cases x <;> cases y <;> cases z <;> cases w <;> simp_all [on_le, on_add]
  omega
theorem on_add_as (x y z : Option Nat) : on_add (on_add x y) z = on_add x (on_add y z) := by
  cases x <;> cases y <;> cases z <;> simp [on_add]
  omega
theorem on_le_addl (x y : Option Nat) : on_le y (on_add x y) := by
  cases x <;> cases y <;> simp [on_le, on_add]
theorem on_le_addr (x y : Option Nat) : on_le x (on_add x y) := by
  cases x <;> cases y <;> simp [on_le, on_add]
theorem on_min_l (x y : Option Nat) : on_le (on_min x y) x := by
  cases x <;> cases y <;> simp [on_le, on_min]
  split <;> omega
theorem on_min_r (x y : Option Nat) : on_le (on_min x y) y := by
  cases x <;> cases y <;> simp [on_le, on_min]
  split <;> omega
theorem on_min_c (x y : Option Nat) : on_min x y = x ∨ on_min x y = y := by
  cases x <;> cases y <;> simp [on_min]
  omega
theorem on_add_some {x y : Option Nat} {d : Nat} (h : on_add x y = some d) : ∃ a b, x = some a ∧ y = some b ∧ d = a + b := by
  cases x <;> cases y <;> simp_all [on_add]
/-- the length of the way a, then p, then b -/
def wk_len (L : Nat → Nat → Option Nat) : Nat → List Nat → Nat → Option Nat
  | a, [], b => L a b
  | a, v :: p, b => on_add (L a v) (wk_len L v p b)
theorem wk_app (L : Nat → Nat → Option Nat) (q : List Nat) (v b : Nat) : ∀ (p : List Nat) (a : Nat), wk_len L a (p ++ v :: q) b = on_add (wk_len L a p v) (wk_len L v q b)
  | [], a => rfl
  | u :: p, a => by
    show on_add (L a u) (wk_len L u (p ++ v :: q) b) = on_add (on_add (L a u) (wk_len L u p v)) (wk_len L v q b)
    rw [wk_app L q v b p u, on_add_as]
/-- m is the least length of the ways from a to b by nodes of S -/
def wk_D (L : Nat → Nat → Option Nat) (S : Nat → Prop) (a b : Nat) (m : Option Nat) : Prop :=
  (∀ p : List Nat, (∀ v ∈ p, S v) → on_le m (wk_len L a p b)) ∧ (∀ d, m = some d → ∃ p : List Nat, (∀ v ∈ p, S v) ∧ wk_len L a p b = some d)
theorem wk_D_one {L : Nat → Nat → Option Nat} {S : Nat → Prop} {a b : Nat} {m m' : Option Nat} (h : wk_D L S a b m) (h' : wk_D L S a b m') : m = m' := by
  have key : ∀ {x y : Option Nat}, wk_D L S a b x → wk_D L S a b y → on_le x y := by
    intro x y hx hy
    cases y with
    | none => exact on_le_none x
    | some d =>
      obtain ⟨p, hp, e⟩ := hy.2 d rfl
      rw [← e]
      exact hx.1 p hp
  exact on_le_as (key h h') (key h' h)
theorem wk_D_0 {L : Nat → Nat → Option Nat} {S : Nat → Prop} (hS : ∀ v, ¬ S v) (a b : Nat) : wk_D L S a b (L a b) := by
  refine ⟨fun p hp => ?_, fun d hd => ⟨[], fun v hv => (by cases hv), hd⟩⟩
  cases p with
  | nil => exact on_le_rf _
  | cons v p => exact absurd (hp v List.mem_cons_self) (hS v)
theorem wk_first {v : Nat} : ∀ (p : List Nat), v ∈ p → ∃ p1 p2, p = p1 ++ v :: p2 ∧ v ∉ p1
  | [], h => by cases h
  | u :: p, h => by
    by_cases hu : v = u
    · subst hu
      exact ⟨[], p, rfl, List.not_mem_nil⟩
    · have hp : v ∈ p := by
        rcases List.mem_cons.mp h with q | q
        · exact absurd q hu
        · exact q
      obtain ⟨p1, p2, e, hn⟩ := wk_first p hp
      refine ⟨u :: p1, p2, by rw [e]; rfl, fun q => ?_⟩
      rcases List.mem_cons.mp q with z | z
      · exact hu z
      · exact hn z
/-- one more node may be used -/
theorem wk_D_step {L : Nat → Nat → Option Nat} {S : Nat → Prop} {v : Nat} {T : Nat → Nat → Option Nat} {a b : Nat} (hab : wk_D L S a b (T a b)) (hav : wk_D L S a v (T a v)) (hvb : wk_D L S v b (T v b)) : wk_D L (fun u => S u ∨ u = v) a b (on_min (T a b) (on_add (T a v) (T v b))) := by
  have low : ∀ (n : Nat) (p : List Nat), p.length ≤ n → (∀ u ∈ p, S u ∨ u = v) → on_le (T v b) (wk_len L v p b) := by
    intro n
    induction n with
    | zero =>
      intro p hn hp
      cases p with
      | nil => exact hvb.1 [] (fun u hu => by cases hu)
      | cons u p => simp at hn
    | succ n ih =>
      intro p hn hp
      by_cases hv : v ∈ p
      · obtain ⟨p1, p2, e, hn1⟩ := wk_first p hv
        subst e
        rw [wk_app]
        have hlen : p2.length ≤ n := by simp at hn; omega
        exact on_le_tr (ih p2 hlen (fun u hu => hp u (List.mem_append_right _ (List.mem_cons_of_mem _ hu)))) (on_le_addl _ _)
      · refine hvb.1 p (fun u hu => ?_)
        rcases hp u hu with q | q
        · exact q
        · subst q; exact absurd hu hv
  refine ⟨fun p hp => ?_, fun d hd => ?_⟩
  · by_cases hv : v ∈ p
    · obtain ⟨p1, p2, e, hn1⟩ := wk_first p hv
      subst e
      rw [wk_app]
      refine on_le_tr (on_min_r _ _) (on_add_mono (hav.1 p1 (fun u hu => ?_)) (low p2.length p2 (Nat.le_refl _) (fun u hu => hp u (List.mem_append_right _ (List.mem_cons_of_mem _ hu)))))
      rcases hp u (List.mem_append_left _ hu) with q | q
      · exact q
      · subst q; exact absurd hu hn1
    · refine on_le_tr (on_min_l _ _) (hab.1 p (fun u hu => ?_))
      rcases hp u hu with q | q
      · exact q
      · subst q; exact absurd hu hv
  · rcases on_min_c (T a b) (on_add (T a v) (T v b)) with q | q
    · rw [q] at hd
      obtain ⟨p, hp, e⟩ := hab.2 d hd
      exact ⟨p, fun u hu => Or.inl (hp u hu), e⟩
    · rw [q] at hd
      obtain ⟨x, y, hx, hy, e⟩ := on_add_some hd
      obtain ⟨p1, hp1, e1⟩ := hav.2 x hx
      obtain ⟨p2, hp2, e2⟩ := hvb.2 y hy
      refine ⟨p1 ++ v :: p2, fun u hu => ?_, ?_⟩
      · rcases List.mem_append.mp hu with z | z
        · exact Or.inl (hp1 u z)
        · rcases List.mem_cons.mp z with w | w
          · exact Or.inr w
          · exact Or.inl (hp2 u w)
      · rw [wk_app, e1, e2, e]
        rfl
