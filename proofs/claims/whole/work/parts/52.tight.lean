/-! A SHORTCUT LIES ON A LEAST WAY: so none is longer than 15000 -/
section TG
variable {m : Nat} {row rk : Nat → Nat} {A : Nat → Nat → Option Nat}
/-- the net: arcs of 1 to 1000, none from a node to itself -/
def nok (m : Nat) (A : Nat → Nat → Option Nat) : Prop := (∀ x y, x < m → y < m → ∀ d, A x y = some d → 1 ≤ d ∧ d ≤ 1000) ∧ ∀ x, x < m → A x x = none
/-- the distances -/
def dD (A : Nat → Nat → Option Nat) (row : Nat → Nat) (m : Nat) : Nat → Nat → Option Nat := fwI (dg A) row m
theorem dD_tri (hp0 : prm m row rk) {x y z : Nat} (hz : z < m) : on_le (dD A row m x y) (on_add (dD A row m x z) (dD A row m z y)) := fw_tri (hp0.2.2 z hz).1 (hp0.2.2 z hz).2
theorem dD_0 {x : Nat} : dD A row m x x = some 0 := fw_0
theorem dD_pos (hp0 : prm m row rk) (hA : nok m A) {x y : Nat} (hx : x < m) (hy : y < m) (h : dD A row m x y = some 0) : x = y := by
  refine Classical.byContradiction (fun hne => ?_)
  have h2 : fwI A row m x y = some 0 := (fw_dg hne).symm.trans h
  obtain ⟨p, hp, e⟩ := (fw_D A row m x y).2 0 h2
  cases p with
  | nil => have := (hA.1 x y hx hy 0 e).1; omega
  | cons u p =>
    obtain ⟨i, hi, hu⟩ := hp u List.mem_cons_self
    have hum : u < m := by rw [← hu]; exact (hp0.2.1 i hi).1
    obtain ⟨a, b, ha, _, hab⟩ := on_add_some e
    have := (hA.1 x u hx hum a ha).1
    omega
theorem inv_D (hp0 : prm m row rk) : ∀ j, j ≤ m → ∀ x y, x < m → y < m → rk x < m - j → rk y < m - j → fwI (dg (cW A row rk m j)) row (m - j) x y = dD A row m x y
  | 0, _, x, y, _, _, _, _ => rfl
  | j + 1, hj, x, y, hx, hy, rx, ry => by
    have e1 : m - (j + 1) = m - 1 - j := by omega
    have e2 : m - j = m - 1 - j + 1 := by omega
    rw [e1] at rx ry ⊢
    rw [show cW A row rk m (j + 1) = ctW row rk (m - 1 - j) (cW A row rk m j) from rfl, keep hp0 (by omega) hx hy rx ry, ← e2]
    exact inv_D hp0 j (by omega) x y hx hy (by omega) (by omega)
/-- how many nodes lie on least ways from x to y -/
def cS (D : Nat → Nat → Option Nat) (m x y : Nat) : Nat := sm (fun z => if on_add (D x z) (D z y) = D x y then 1 else 0) m
theorem cS_le {D : Nat → Nat → Option Nat} {x y : Nat} : cS D m x y ≤ m := by
  have : cS D m x y ≤ sm (fun _ => 1) m := sm_le m (fun z _ => by split <;> omega)
  rw [sm_c] at this
  omega
theorem cS_two {x y : Nat} (hx : x < m) (hy : y < m) (hne : x ≠ y) : 2 ≤ cS (dD A row m) m x y := by
  have h : sm (fun z => (if z = x then 1 else 0) + (if z = y then 1 else 0)) m ≤ cS (dD A row m) m x y := sm_le m (fun z _ => by
    by_cases e1 : z = x
    · subst e1
      rw [if_pos rfl, if_neg hne, dD_0, on_0_add, if_pos rfl]
      exact Nat.le_refl _
    · rw [if_neg e1]
      by_cases e2 : z = y
      · subst e2
        rw [if_pos rfl, dD_0, on_add_0, if_pos rfl]
        exact Nat.le_refl _
      · rw [if_neg e2]; exact Nat.zero_le _)
  rw [sm_add, sm_one, sm_one, if_pos hx, if_pos hy] at h
  exact h
theorem cS_add (hp0 : prm m row rk) (hA : nok m A) {u v w : Nat} (hu : u < m) (hv : v < m) (hw : w < m) (ht : dD A row m u w = on_add (dD A row m u v) (dD A row m v w)) (hf : dD A row m u w ≠ none) : cS (dD A row m) m u v + cS (dD A row m) m v w ≤ cS (dD A row m) m u w + 1 := by
  obtain ⟨a, b, ha, hb⟩ : ∃ a b, dD A row m u v = some a ∧ dD A row m v w = some b := by
    cases h1 : dD A row m u v with
    | none => rw [h1] at ht; exact absurd ht hf
    | some a =>
      cases h2 : dD A row m v w with
      | none => rw [h1, h2] at ht; exact absurd ht hf
      | some b => exact ⟨a, b, rfl, rfl⟩
  rw [ha, hb] at ht
  have ht2 : dD A row m u w = some (a + b) := ht
  have h : sm (fun z => (if on_add (dD A row m u z) (dD A row m z v) = dD A row m u v then 1 else 0) + (if on_add (dD A row m v z) (dD A row m z w) = dD A row m v w then 1 else 0)) m ≤ sm (fun z => (if on_add (dD A row m u z) (dD A row m z w) = dD A row m u w then 1 else 0) + (if z = v then 1 else 0)) m := by
    refine sm_le m (fun z hz => ?_)
    by_cases ev : z = v
    · subst ev
      rw [if_pos rfl, ha, hb, ht2, if_pos (show on_add (some a) (some b) = some (a + b) from rfl)]
      split <;> split <;> omega
    · rw [if_neg ev]
      have t1 := dD_tri (A := A) (x := u) (y := w) hp0 hz
      have t2 := dD_tri (A := A) (x := z) (y := w) hp0 hv
      have t3 := dD_tri (A := A) (x := u) (y := z) hp0 hv
      by_cases c1 : on_add (dD A row m u z) (dD A row m z v) = dD A row m u v
      · rw [if_pos c1]
        rw [ha] at c1
        obtain ⟨p, q, hp, hq, hpq⟩ := on_add_some c1
        have hq0 : q ≠ 0 := fun e => ev (dD_pos hp0 hA hz hv (by rw [hq, e]))
        rw [hq, hb] at t2
        have t2' : on_le (dD A row m z w) (some (q + b)) := t2
        cases h4 : dD A row m z w with
        | none => rw [h4] at t2'; exact absurd t2' (fun z => z)
        | some r =>
          rw [h4] at t2'
          have t2'' : r ≤ q + b := t2'
          rw [ht2, hp, h4] at t1
          have t1' : a + b ≤ p + r := t1
          have hr : r = q + b := by omega
          rw [ht2, hp, hb]
          have e1 : on_add (some p) (some r) = some (a + b) := by show some (p + r) = _; rw [show p + r = a + b by omega]
          rw [if_pos e1]
          have c2 : ¬ on_add (dD A row m v z) (some r) = some b := fun c2 => by
            obtain ⟨p2, q2, _, hq2, hpq2⟩ := on_add_some c2
            cases hq2
            omega
          rw [if_neg c2]
          exact Nat.le_refl _
      · rw [if_neg c1]
        by_cases c2 : on_add (dD A row m v z) (dD A row m z w) = dD A row m v w
        · rw [if_pos c2]
          rw [hb] at c2
          obtain ⟨p, q, hp, hq, hpq⟩ := on_add_some c2
          rw [ha, hp] at t3
          have t3' : on_le (dD A row m u z) (some (a + p)) := t3
          cases h4 : dD A row m u z with
          | none => rw [h4] at t3'; exact absurd t3' (fun z => z)
          | some r =>
            rw [h4] at t3'
            have t3'' : r ≤ a + p := t3'
            rw [ht2, h4, hq] at t1
            have t1' : a + b ≤ r + q := t1
            rw [ht2, hq]
            have e1 : on_add (some r) (some q) = some (a + b) := by show some (r + q) = _; rw [show r + q = a + b by omega]
            rw [if_pos e1]
            exact Nat.le_refl _
        · rw [if_neg c2]; exact Nat.zero_le _
  rw [sm_add, sm_add, sm_one, if_pos hv] at h
  exact h
theorem bd_D (hp0 : prm m row rk) (hA : nok m A) : ∀ j, j ≤ m → ∀ x y, x < m → y < m → ∀ l, cW A row rk m j x y = some l → l + 1000 ≤ 1000 * cS (dD A row m) m x y
  | 0, _, x, y, hx, hy, l, hl => by
    have hl' : A x y = some l := hl
    have hne : x ≠ y := fun e => by
      rw [e, hA.2 y hy] at hl'
      cases hl'
    have h1 := (hA.1 x y hx hy l hl').2
    have := cS_two (A := A) (row := row) hx hy hne
    omega
  | j + 1, hj, x, y, hx, hy, l, hl => by
    have hl' : ctW row rk (m - 1 - j) (cW A row rk m j) x y = some l := hl
    unfold ctW at hl'
    by_cases hc : ctc row rk (m - 1 - j) (cW A row rk m j) x y = true
    · rw [if_pos hc] at hl'
      have hc2 := hc
      unfold ctc at hc2
      simp only [Bool.and_eq_true, decide_eq_true_eq] at hc2
      obtain ⟨hne, rx, ry, hlt⟩ := hc2
      have hrk := hp0.2.1 (m - 1 - j) (by omega)
      have hk1 : m - j = m - 1 - j + 1 := by omega
      have nx : x ≠ row (m - 1 - j) := fun e => by rw [e, hrk.2] at rx; omega
      have ny : row (m - 1 - j) ≠ y := fun e => by rw [← e, hrk.2] at ry; omega
      have i1 := inv_D (A := A) hp0 j (by omega) x y hx hy (by omega) (by omega)
      have i2 := inv_D (A := A) hp0 j (by omega) x (row (m - 1 - j)) hx hrk.1 (by omega) (by rw [hrk.2]; omega)
      have i3 := inv_D (A := A) hp0 j (by omega) (row (m - 1 - j)) y hrk.1 hy (by rw [hrk.2]; omega) (by omega)
      have g1 := bd_D hp0 hA j (by omega) x (row (m - 1 - j)) hx hrk.1
      have g2 := bd_D hp0 hA j (by omega) (row (m - 1 - j)) y hrk.1 hy
      rw [hk1] at i1 i2 i3
      generalize cW A row rk m j = W at *
      generalize m - 1 - j = k at *
      rw [← fw_dg hne] at hlt
      have s1 : fwI (dg W) row (k + 1) x y = on_min (fwI (dg W) row k x y) (on_add (fwI (dg W) row k x (row k)) (fwI (dg W) row k (row k) y)) := rfl
      have s2 : fwI (dg W) row (k + 1) x (row k) = fwI (dg W) row k x (row k) := on_min_addr _ _
      have s3 : fwI (dg W) row (k + 1) (row k) y = fwI (dg W) row k (row k) y := on_min_add _ _
      have f1 := fw_le (T := dg W) (row := row) (k := k) (x := x) (y := row k)
      have f2 := fw_le (T := dg W) (row := row) (k := k) (x := row k) (y := y)
      rw [dg_ne nx] at f1
      rw [dg_ne ny] at f2
      have f3 : on_le (on_add (fwI (dg W) row k x (row k)) (fwI (dg W) row k (row k) y)) (ctb row k W x y) := on_add_mono f1 f2
      rw [hl'] at f3 hlt
      obtain ⟨l1, l2, h1, h2, h3⟩ := on_add_some hl'
      have tight : dD A row m x y = on_add (dD A row m x (row k)) (dD A row m (row k) y) ∧ dD A row m x y ≠ none := by
        rw [← i1, ← i2, ← i3, s1, s2, s3]
        cases z1 : on_add (fwI (dg W) row k x (row k)) (fwI (dg W) row k (row k) y) with
        | none => rw [z1] at f3; exact absurd f3 (fun z => z)
        | some c =>
          rw [z1] at f3
          have f3' : c ≤ l := f3
          cases z2 : fwI (dg W) row k x y with
          | none => exact ⟨rfl, fun z => by cases z⟩
          | some e =>
            rw [z2] at hlt
            have hlt' : l < e := of_decide_eq_true hlt
            have : on_min (some e) (some c) = some c := by show some (if c < e then c else e) = _; rw [if_pos (by omega)]
            rw [this]
            exact ⟨rfl, fun z => by cases z⟩
      have := cS_add hp0 hA hx hrk.1 hy tight.1 tight.2
      have b1 := g1 l1 h1
      have b2 := g2 l2 h2
      omega
    · rw [if_neg hc] at hl'
      exact bd_D hp0 hA j (by omega) x y hx hy l hl'
theorem cW_ok (hp0 : prm m row rk) (hA : nok m A) (j : Nat) (hj : j ≤ m) (x y : Nat) (hx : x < m) (hy : y < m) : on_ok 15000 (cW A row rk m j x y) := by
  intro l hl
  have h1 := bd_D hp0 hA j hj x y hx hy l hl
  have h2 := cS_le (m := m) (D := dD A row m) (x := x) (y := y)
  have := hp0.1
  omega
theorem cW_G (hp0 : prm m row rk) (hA : nok m A) (j : Nat) (hj : j ≤ m) (ok : Nat → Bool) (k x y : Nat) (hk : k ≤ m) (hx : x < m) (hy : y < m) : on_ok 499999 (fwG (cW A row rk m j) ok k x y) :=
  on_ok_mono (fwG_ok hp0.1 hk (cW_ok hp0 hA j hj) hx hy) (by omega)
theorem dD_ok (hp0 : prm m row rk) (hA : nok m A) {x y : Nat} (hx : x < m) (hy : y < m) : on_ok 17000 (dD A row m x y) := by
  refine wk_D_bd (B := 1000) hp0.1 (fun a b ha hb => ?_) (fun v ⟨i, hi, e⟩ => by rw [← e]; exact (hp0.2.1 i hi).1) hx hy (fw_D (dg A) row m x y)
  unfold dg
  split
  · intro d hd; cases hd; omega
  · intro d hd; exact (hA.1 a b ha hb d hd).2
end TG
