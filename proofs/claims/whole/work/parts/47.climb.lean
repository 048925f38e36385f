/-! CLIMBING, as mathematics -/
theorem on_add_cm (x y : Option Nat) : on_add x y = on_add y x := by
  cases x <;> cases y <;> simp [on_add]
  omega
theorem on_min_cm (x y : Option Nat) : on_min x y = on_min y x := by
  cases x <;> cases y <;> simp [on_min]
  rename_i a b
  by_cases h : b < a
  · rw [if_pos h, if_neg (by omega)]
  · by_cases h2 : a < b
    · rw [if_neg h, if_pos h2]
    · rw [if_neg h, if_neg h2]; omega
theorem on_min_0 (x : Option Nat) : on_min (some 0) x = some 0 := by
  cases x <;> simp [on_min]
/-- arcs that sink in rank, nothing for staying -/
def dl (W : Nat → Nat → Option Nat) (rk : Nat → Nat) : Nat → Nat → Option Nat := dg (fun x y => if rk y < rk x then W x y else none)
theorem dl_0 (W : Nat → Nat → Option Nat) (rk : Nat → Nat) (x : Nat) : dl W rk x x = some 0 := if_pos rfl
theorem dl_y {W : Nat → Nat → Option Nat} {rk : Nat → Nat} {x y : Nat} (h : rk y < rk x) : dl W rk x y = W x y := (if_neg (fun e => by rw [e] at h; omega)).trans (if_pos h)
theorem dl_n {W : Nat → Nat → Option Nat} {rk : Nat → Nat} {x y : Nat} (hne : x ≠ y) (h : ¬ rk y < rk x) : dl W rk x y = none := (if_neg hne).trans (if_neg h)
section CM
variable {m : Nat} {row rk : Nat → Nat} {W : Nat → Nat → Option Nat}
theorem cl_first {z : Nat} {f : Nat → Option Nat} (hz : z < m) (h0 : f z = some 0) (hb : ∀ x y, x < m → y < m → rk y < rk x → on_le (f x) (on_add (W x y) (f y))) (hc : ∀ x, x < m → x ≠ z → ∀ d, f x = some d → ∃ y, y < m ∧ rk y < rk x ∧ f x = on_add (W x y) (f y)) : ∀ x, x < m → wk_D (dl W rk) (fun v => v < m) x z (f x) := by
  have st : ∀ x y, x < m → y < m → on_le (f x) (on_add (dl W rk x y) (f y)) := fun x y hx hy => by
    by_cases e : x = y
    · subst e; rw [dl_0, on_0_add]; exact on_le_rf _
    · by_cases r : rk y < rk x
      · rw [dl_y r]; exact hb x y hx hy r
      · rw [dl_n e r]; exact on_le_none _
  have low : ∀ (p : List Nat) (x : Nat), x < m → (∀ v ∈ p, v < m) → on_le (f x) (wk_len (dl W rk) x p z) := by
    intro p
    induction p with
    | nil =>
      intro x hx _
      have := st x z hx hz
      rw [h0, on_add_0] at this
      exact this
    | cons u p ih =>
      intro x hx hp
      have hu : u < m := hp u List.mem_cons_self
      exact on_le_tr (st x u hx hu) (on_add_mono (on_le_rf _) (ih u hu (fun v hv => hp v (List.mem_cons_of_mem _ hv))))
  have att : ∀ (r x : Nat), rk x ≤ r → x < m → ∀ d, f x = some d → ∃ p : List Nat, (∀ v ∈ p, v < m) ∧ wk_len (dl W rk) x p z = some d := by
    intro r
    induction r with
    | zero =>
      intro x hr hx d hd
      by_cases e : x = z
      · subst e
        rw [h0] at hd
        exact ⟨[], fun v hv => (by cases hv), (dl_0 W rk x).trans hd⟩
      · obtain ⟨y, _, h2, _⟩ := hc x hx e d hd
        omega
    | succ r ih =>
      intro x hr hx d hd
      by_cases e : x = z
      · subst e
        rw [h0] at hd
        exact ⟨[], fun v hv => (by cases hv), (dl_0 W rk x).trans hd⟩
      · obtain ⟨y, h1, h2, h3⟩ := hc x hx e d hd
        rw [hd] at h3
        obtain ⟨a, b, ha, hb2, hab⟩ := on_add_some h3.symm
        obtain ⟨p, hp, hl⟩ := ih y (by omega) h1 b hb2
        refine ⟨y :: p, fun v hv => ?_, ?_⟩
        · rcases List.mem_cons.mp hv with w | w
          · rw [w]; exact h1
          · exact hp v w
        · show on_add (dl W rk x y) (wk_len (dl W rk) y p z) = _
          rw [dl_y h2, hl, ha, hab]
          rfl
  exact fun x hx => ⟨fun p hp => low p x hx hp, fun d hd => att (rk x) x (Nat.le_refl _) hx d hd⟩
theorem wk_snoc (L : Nat → Nat → Option Nat) (p : List Nat) (a u b : Nat) : wk_len L a (p ++ [u]) b = on_add (wk_len L a p u) (L u b) := wk_app L [] u b p a
theorem cl_last {a R : Nat} {g : Nat → Option Nat} (ha : a < m) (hR : ∀ x, x < m → rk x ≤ R) (h0 : g a = some 0) (hb : ∀ v w, v < m → w < m → rk w < rk v → on_le (g w) (on_add (g v) (W v w))) (hc : ∀ w, w < m → w ≠ a → ∀ d, g w = some d → ∃ v, v < m ∧ rk w < rk v ∧ g w = on_add (g v) (W v w)) : ∀ w, w < m → wk_D (dl W rk) (fun v => v < m) a w (g w) := by
  have st : ∀ v w, v < m → w < m → on_le (g w) (on_add (g v) (dl W rk v w)) := fun v w hv hw => by
    by_cases e : v = w
    · subst e; rw [dl_0, on_add_0]; exact on_le_rf _
    · by_cases r : rk w < rk v
      · rw [dl_y r]; exact hb v w hv hw r
      · rw [dl_n e r, on_add_none]; exact on_le_none _
  have low : ∀ (l : Nat) (p : List Nat), p.length = l → ∀ w, w < m → (∀ v ∈ p, v < m) → on_le (g w) (wk_len (dl W rk) a p w) := by
    intro l
    induction l with
    | zero =>
      intro p hl w hw _
      have : p = [] := List.eq_nil_of_length_eq_zero hl
      subst this
      have := st a w ha hw
      rw [h0, on_0_add] at this
      exact this
    | succ l ih =>
      intro p hl w hw hp
      rcases List.eq_nil_or_concat p with e | ⟨p', u, e⟩
      · subst e; cases hl
      · subst e
        rw [List.concat_eq_append] at hl hp ⊢
        have hu : u < m := hp u (List.mem_append_right _ (List.mem_cons_self))
        rw [wk_snoc]
        exact on_le_tr (st u w hu hw) (on_add_mono (ih p' (by simpa using hl) u hu (fun v hv => hp v (List.mem_append_left _ hv))) (on_le_rf _))
  have att : ∀ (r w : Nat), R - rk w ≤ r → w < m → ∀ d, g w = some d → ∃ p : List Nat, (∀ v ∈ p, v < m) ∧ wk_len (dl W rk) a p w = some d := by
    intro r
    induction r with
    | zero =>
      intro w hr hw d hd
      by_cases e : w = a
      · subst e
        rw [h0] at hd
        exact ⟨[], fun v hv => (by cases hv), (dl_0 W rk w).trans hd⟩
      · obtain ⟨v, h1, h2, _⟩ := hc w hw e d hd
        have := hR v h1
        omega
    | succ r ih =>
      intro w hr hw d hd
      by_cases e : w = a
      · subst e
        rw [h0] at hd
        exact ⟨[], fun v hv => (by cases hv), (dl_0 W rk w).trans hd⟩
      · obtain ⟨v, h1, h2, h3⟩ := hc w hw e d hd
        rw [hd] at h3
        obtain ⟨x, y, hx, hy, hxy⟩ := on_add_some h3.symm
        obtain ⟨p, hp, hl⟩ := ih v (by have := hR v h1; omega) h1 x hx
        refine ⟨p ++ [v], fun u hu => ?_, ?_⟩
        · rcases List.mem_append.mp hu with z | z
          · exact hp u z
          · rw [List.mem_singleton] at z; rw [z]; exact h1
        · rw [wk_snoc]
          rw [dl_y h2, hl, hy, hxy]
          rfl
  exact fun w hw => ⟨fun p hp => low p.length p rfl w hw hp, fun d hd => att R w (by omega) hw d hd⟩
end CM
/-- the reference's table: rows by rising ranks -/
def cuI (W : Nat → Nat → Option Nat) (row : Nat → Nat) (k : Nat) (U : Nat → Nat → Option Nat) : Nat → Nat → Nat → Option Nat
  | 0 => U
  | i + 1 => fun x z => if x = row k then on_min (cuI W row k U i x z) (on_add (W (row k) (row i)) (U (row i) z)) else cuI W row k U i x z
def cu (W : Nat → Nat → Option Nat) (row : Nat → Nat) : Nat → Nat → Nat → Option Nat
  | 0 => fun x z => if x = z then some 0 else none
  | k + 1 => cuI W row k (cu W row k) k
/-- the class's line from a node of rank r: nodes by sinking ranks -/
def cfI (W : Nat → Nat → Option Nat) (row : Nat → Nat) (k : Nat) (f : Nat → Option Nat) : Nat → Nat → Option Nat
  | 0 => f
  | i + 1 => fun w => if w = row i then on_min (cfI W row k f i w) (on_add (f (row k)) (W (row k) w)) else cfI W row k f i w
def cf (W : Nat → Nat → Option Nat) (row : Nat → Nat) (a r : Nat) : Nat → Nat → Option Nat
  | 0 => fun w => if w = a then some 0 else none
  | j + 1 => cfI W row (r - j) (cf W row a r j) (r - j)
section CP
variable {m : Nat} {row rk : Nat → Nat} {W : Nat → Nat → Option Nat}
theorem cuI_ne {k x z : Nat} {U : Nat → Nat → Option Nat} (h : x ≠ row k) : ∀ i, cuI W row k U i x z = U x z
  | 0 => rfl
  | i + 1 => by
    show (if x = row k then _ else _) = _
    rw [if_neg h]; exact cuI_ne h i
theorem cuI_ok {k B C : Nat} {U : Nat → Nat → Option Nat} (hk : row k < m) (hr : ∀ i, i < k → row i < m) (hW : ∀ x y, x < m → y < m → on_ok C (W x y)) (hU : ∀ x z, x < m → on_ok B (U x z)) : ∀ i, i ≤ k → ∀ x z, x < m → on_ok (B + C) (cuI W row k U i x z)
  | 0, _, x, z, hx => on_ok_mono (hU x z hx) (by omega)
  | i + 1, hi, x, z, hx => by
    show on_ok _ (if x = row k then _ else _)
    split
    · refine on_ok_min (cuI_ok hk hr hW hU i (by omega) x z hx) (on_ok_mono (on_ok_add (hW _ _ hk (hr i (by omega))) (hU _ z (hr i (by omega)))) (by omega))
    · exact cuI_ok hk hr hW hU i (by omega) x z hx
theorem cu_ok {C : Nat} (hp0 : prm m row rk) (hW : ∀ x y, x < m → y < m → on_ok C (W x y)) : ∀ k, k ≤ m → ∀ x z, x < m → on_ok (k * C) (cu W row k x z)
  | 0, _, x, z, _ => by
    show on_ok _ (if x = z then _ else _)
    split
    · intro d h; cases h; omega
    · intro d h; cases h
  | k + 1, hk, x, z, hx => by
    have := cuI_ok (W := W) (row := row) (m := m) (k := k) (hp0.2.1 k (by omega)).1 (fun i hi => (hp0.2.1 i (by omega)).1) hW (cu_ok hp0 hW k (by omega)) k (Nat.le_refl _) x z hx
    rw [Nat.add_mul, Nat.one_mul]
    exact this
theorem cu_rel (hp0 : prm m row rk) : ∀ k, k ≤ m → ∀ x z, x < m → z < m →
    (cu W row k z z = some 0) ∧ (rk x < k → (∀ y, y < m → rk y < rk x → on_le (cu W row k x z) (on_add (W x y) (cu W row k y z))) ∧ (x ≠ z → ∀ d, cu W row k x z = some d → ∃ y, y < m ∧ rk y < rk x ∧ cu W row k x z = on_add (W x y) (cu W row k y z))) ∧ (¬ rk x < k → cu W row k x z = if x = z then some 0 else none)
  | 0, _, x, z, _, _ => ⟨if_pos rfl, fun h => by omega, fun _ => rfl⟩
  | k + 1, hk, x, z, hx, hz => by
    have ih := fun x z hx hz => cu_rel hp0 k (by omega) x z hx hz
    have hrk := hp0.2.1 k (by omega)
    have inn : ∀ i, i ≤ k → ∀ z, z < m → (∀ i', i' < i → on_le (cuI W row k (cu W row k) i (row k) z) (on_add (W (row k) (row i')) (cu W row k (row i') z))) ∧ (row k ≠ z → ∀ d, cuI W row k (cu W row k) i (row k) z = some d → ∃ i', i' < i ∧ cuI W row k (cu W row k) i (row k) z = on_add (W (row k) (row i')) (cu W row k (row i') z)) ∧ (row k = z → cuI W row k (cu W row k) i (row k) z = some 0) := by
      intro i
      induction i with
      | zero =>
        intro _ z hz
        refine ⟨fun i' h => by omega, fun hne d hd => ?_, fun e => ?_⟩
        · have := (ih (row k) z hrk.1 hz).2.2 (by rw [hrk.2]; omega)
          rw [if_neg hne] at this
          have hd' : cu W row k (row k) z = some d := hd
          rw [this] at hd'
          cases hd'
        · subst e; exact (ih (row k) (row k) hrk.1 hz).1
      | succ i ihi =>
        intro hi z hz
        have IH := ihi (by omega) z hz
        have ex : cuI W row k (cu W row k) (i + 1) (row k) z = on_min (cuI W row k (cu W row k) i (row k) z) (on_add (W (row k) (row i)) (cu W row k (row i) z)) := if_pos rfl
        rw [ex]
        refine ⟨fun i' h => ?_, fun hne d hd => ?_, fun e => ?_⟩
        · by_cases e : i' = i
          · rw [e]; exact on_min_r _ _
          · exact on_le_tr (on_min_l _ _) (IH.1 i' (by omega))
        · rcases on_min_c (cuI W row k (cu W row k) i (row k) z) (on_add (W (row k) (row i)) (cu W row k (row i) z)) with q | q
          · rw [q] at hd ⊢
            obtain ⟨i', h1, h2⟩ := IH.2.1 hne d hd
            exact ⟨i', by omega, h2⟩
          · rw [q] at hd ⊢
            exact ⟨i, by omega, rfl⟩
        · rw [IH.2.2 e, on_min_0]
    have same : ∀ x z, x ≠ row k → cu W row (k + 1) x z = cu W row k x z := fun x z h => cuI_ne h k
    have atk : ∀ z, cu W row (k + 1) (row k) z = cuI W row k (cu W row k) k (row k) z := fun _ => rfl
    refine ⟨?_, fun hr => ?_, fun hr => ?_⟩
    · by_cases e : z = row k
      · subst e; rw [atk]; exact (inn k (Nat.le_refl _) (row k) hz).2.2 rfl
      · rw [same z z e]; exact (ih z z hz hz).1
    · by_cases e : x = row k
      · subst e
        have := inn k (Nat.le_refl _) z hz
        refine ⟨fun y hy hry => ?_, fun hne d hd => ?_⟩
        · rw [hrk.2] at hry
          have h1 := this.1 (rk y) hry
          rw [(hp0.2.2 y hy).2] at h1
          rw [atk, same y z (fun w => by rw [w, hrk.2] at hry; omega)]
          exact h1
        · obtain ⟨i', h1, h2⟩ := this.2.1 hne d hd
          have hri := hp0.2.1 i' (by omega)
          refine ⟨row i', hri.1, by rw [hri.2, hrk.2]; exact h1, ?_⟩
          rw [atk, same (row i') z (fun w => by rw [w, hrk.2] at hri; omega)]
          exact h2
      · have hrx : rk x < k := by
          have : rk x ≠ k := fun w => e (by rw [← w]; exact ((hp0.2.2 x hx).2).symm)
          omega
        have := (ih x z hx hz).2.1 hrx
        refine ⟨fun y hy hry => ?_, fun hne d hd => ?_⟩
        · rw [same x z e, same y z (fun w => by rw [w, hrk.2] at hry; omega)]
          exact this.1 y hy hry
        · rw [same x z e] at hd ⊢
          obtain ⟨y, h1, h2, h3⟩ := this.2 hne d hd
          exact ⟨y, h1, h2, by rw [same y z (fun w => by rw [w, hrk.2] at h2; omega)]; exact h3⟩
    · have e : x ≠ row k := fun w => by rw [w, hrk.2] at hr; omega
      rw [same x z e]
      exact (ih x z hx hz).2.2 (by omega)
theorem cu_D (hp0 : prm m row rk) {x z : Nat} (hx : x < m) (hz : z < m) : wk_D (dl W rk) (fun v => v < m) x z (cu W row m x z) := by
  have h := fun x hx => cu_rel (W := W) hp0 m (Nat.le_refl _) x z hx hz
  exact cl_first (f := fun x => cu W row m x z) hz (h z hz).1 (fun x y hx hy hr => ((h x hx).2.1 (hp0.2.2 x hx).1).1 y hy hr) (fun x hx hne d hd => ((h x hx).2.1 (hp0.2.2 x hx).1).2 hne d hd) x hx
theorem cfI_eq {k : Nat} {f : Nat → Option Nat} (hp0 : prm m row rk) (hk : k < m) : ∀ i, i ≤ k → ∀ w, w < m → cfI W row k f i w = if rk w < i then on_min (f w) (on_add (f (row k)) (W (row k) w)) else f w
  | 0, _, w, _ => by rw [if_neg (by omega)]; rfl
  | i + 1, hi, w, hw => by
    have hri := hp0.2.1 i (by omega)
    show (if w = row i then _ else _) = _
    rw [cfI_eq hp0 hk i (by omega) w hw]
    by_cases e : w = row i
    · rw [if_pos e, if_neg (by rw [e, hri.2]; omega), if_pos (by rw [e, hri.2]; omega)]
    · have : rk w ≠ i := fun z => e (by rw [← z]; exact ((hp0.2.2 w hw).2).symm)
      rw [if_neg e]
      by_cases r : rk w < i
      · rw [if_pos r, if_pos (by omega)]
      · rw [if_neg r, if_neg (by omega)]
theorem cf_ok {C a r : Nat} (hp0 : prm m row rk) (hr : r < m) (hW : ∀ x y, x < m → y < m → on_ok C (W x y)) : ∀ j, j ≤ r → ∀ w, w < m → on_ok (j * C) (cf W row a r j w)
  | 0, _, w, _ => by
    show on_ok _ (if w = a then _ else _)
    split
    · intro d h; cases h; omega
    · intro d h; cases h
  | j + 1, hj, w, hw => by
    have ih := cf_ok (a := a) hp0 hr hW j (by omega)
    have hrk := hp0.2.1 (r - j) (by omega)
    rw [Nat.add_mul, Nat.one_mul]
    show on_ok _ (cfI W row (r - j) (cf W row a r j) (r - j) w)
    rw [cfI_eq hp0 (by omega) _ (Nat.le_refl _) w hw]
    split
    · exact on_ok_min (on_ok_mono (ih w hw) (by omega)) (on_ok_add (ih _ hrk.1) (hW _ _ hrk.1 hw))
    · exact on_ok_mono (ih w hw) (by omega)
theorem cf_rel {a : Nat} (hp0 : prm m row rk) (ha : a < m) : ∀ j, j ≤ rk a →
    cf W row a (rk a) j a = some 0 ∧ (∀ v w, v < m → w < m → rk a - j < rk v → rk w < rk v → on_le (cf W row a (rk a) j w) (on_add (cf W row a (rk a) j v) (W v w))) ∧ (∀ w, w < m → w ≠ a → ∀ d, cf W row a (rk a) j w = some d → ∃ v, v < m ∧ rk a - j < rk v ∧ rk w < rk v ∧ cf W row a (rk a) j w = on_add (cf W row a (rk a) j v) (W v w))
  | 0, _ => by
    refine ⟨if_pos rfl, fun v w hv hw h1 h2 => ?_, fun w hw hne d hd => ?_⟩
    · have : cf W row a (rk a) 0 v = none := if_neg (fun e => by rw [e] at h1; omega)
      rw [this]; exact on_le_none _
    · have : cf W row a (rk a) 0 w = none := if_neg hne
      rw [this] at hd; cases hd
  | j + 1, hj => by
    obtain ⟨i1, i2, i3⟩ := cf_rel hp0 ha j (by omega)
    have hka := (hp0.2.2 a ha).1
    have hrk := hp0.2.1 (rk a - j) (by omega)
    have eq : ∀ w, w < m → cf W row a (rk a) (j + 1) w = if rk w < rk a - j then on_min (cf W row a (rk a) j w) (on_add (cf W row a (rk a) j (row (rk a - j))) (W (row (rk a - j)) w)) else cf W row a (rk a) j w := fun w hw => cfI_eq hp0 (by omega) _ (Nat.le_refl _) w hw
    generalize cf W row a (rk a) (j + 1) = f' at *
    generalize cf W row a (rk a) j = f at *
    have hv : ∀ v, v < m → ¬ rk v < rk a - j → f' v = f v := fun v h1 h2 => by rw [eq v h1, if_neg h2]
    have le : ∀ w, w < m → on_le (f' w) (f w) := fun w hw => by
      rw [eq w hw]
      split
      · exact on_min_l _ _
      · exact on_le_rf _
    refine ⟨by rw [hv a ha (by omega)]; exact i1, fun v w h1 h2 h3 h4 => ?_, fun w hw hne d hd => ?_⟩
    · rw [hv v h1 (by omega)]
      by_cases e : rk a - j < rk v
      · exact on_le_tr (le w h2) (i2 v w h1 h2 e h4)
      · have ev : v = row (rk a - j) := by
          have : rk v = rk a - j := by omega
          rw [← this]; exact ((hp0.2.2 v h1).2).symm
        rw [eq w h2, if_pos (by omega), ← ev]
        exact on_min_r _ _
    · have old : f' w = f w → ∃ v, v < m ∧ rk a - (j + 1) < rk v ∧ rk w < rk v ∧ f' w = on_add (f' v) (W v w) := fun e => by
        rw [e] at hd
        obtain ⟨v, a1, a2, a3, a4⟩ := i3 w hw hne d hd
        exact ⟨v, a1, by omega, a3, by rw [e, hv v a1 (by omega)]; exact a4⟩
      by_cases r : rk w < rk a - j
      · have e1 := eq w hw
        rw [if_pos r] at e1
        rcases on_min_c (f w) (on_add (f (row (rk a - j))) (W (row (rk a - j)) w)) with q | q
        · exact old (e1.trans q)
        · exact ⟨row (rk a - j), hrk.1, by rw [hrk.2]; omega, by rw [hrk.2]; exact r, by rw [hv _ hrk.1 (by rw [hrk.2]; omega)]; exact e1.trans q⟩
      · exact old (hv w hw r)
theorem cf_D {a w : Nat} (hp0 : prm m row rk) (ha : a < m) (hw : w < m) : wk_D (dl W rk) (fun v => v < m) a w (cf W row a (rk a) (rk a) w) := by
  obtain ⟨i1, i2, i3⟩ := cf_rel (W := W) hp0 ha (rk a) (Nat.le_refl _)
  refine cl_last (R := m) ha (fun x hx => by have := (hp0.2.2 x hx).1; omega) i1 (fun v w hv hw hr => i2 v w hv hw (by omega) hr) (fun w hw hne d hd => ?_) w hw
  obtain ⟨v, a1, _, a3, a4⟩ := i3 w hw hne d hd
  exact ⟨v, a1, a3, a4⟩
theorem cu_cf {a w : Nat} (hp0 : prm m row rk) (ha : a < m) (hw : w < m) : cf W row a (rk a) (rk a) w = cu W row m a w := wk_D_one (cf_D hp0 ha hw) (cu_D hp0 ha hw)
end CP
/-- the least of the first n -/
def mn (f : Nat → Option Nat) : Nat → Option Nat
  | 0 => none
  | n + 1 => on_min (mn f n) (f n)
theorem mn_ok {f : Nat → Option Nat} {B : Nat} : ∀ n, (∀ i, i < n → on_ok B (f i)) → on_ok B (mn f n)
  | 0, _ => fun d h => by cases h
  | n + 1, h => on_ok_min (mn_ok n (fun i hi => h i (by omega))) (h n (by omega))
theorem mn_eq {f g : Nat → Option Nat} : ∀ n, (∀ i, i < n → f i = g i) → mn f n = mn g n
  | 0, _ => rfl
  | n + 1, h => by
    show on_min _ _ = on_min _ _
    rw [mn_eq n (fun i hi => h i (by omega)), h n (by omega)]
def tr (W : Nat → Nat → Option Nat) (x y : Nat) : Option Nat := W y x
/-- the least length of a climb and a way down -/
def clm (W : Nat → Nat → Option Nat) (row : Nat → Nat) (m a b : Nat) : Option Nat := mn (fun i => on_add (cu W row m a i) (cu (tr W) row m b i)) m
