/-! SUMS AND COUNTS -/
theorem sm_le {f g : Nat → Nat} : ∀ n, (∀ i, i < n → f i ≤ g i) → sm f n ≤ sm g n
  | 0, _ => Nat.le_refl _
  | n + 1, h => Nat.add_le_add (sm_le n (fun i hi => h i (by omega))) (h n (by omega))
theorem sm_eq {f g : Nat → Nat} : ∀ n, (∀ i, i < n → f i = g i) → sm f n = sm g n
  | 0, _ => rfl
  | n + 1, h => by
    show sm f n + f n = sm g n + g n
    rw [sm_eq n (fun i hi => h i (by omega)), h n (by omega)]
theorem sm_add (f g : Nat → Nat) : ∀ n, sm (fun i => f i + g i) n = sm f n + sm g n
  | 0 => rfl
  | n + 1 => by
    show sm (fun i => f i + g i) n + (f n + g n) = sm f n + f n + (sm g n + g n)
    rw [sm_add f g n]; omega
theorem sm_0 : ∀ n, sm (fun _ => 0) n = 0
  | 0 => rfl
  | n + 1 => by show sm (fun _ => 0) n + 0 = 0; rw [sm_0 n]
theorem sm_c (c : Nat) : ∀ n, sm (fun _ => c) n = n * c
  | 0 => by rw [Nat.zero_mul]; rfl
  | n + 1 => by show sm (fun _ => c) n + c = _; rw [sm_c c n, Nat.add_mul, Nat.one_mul]
theorem sm_swap (f : Nat → Nat → Nat) (m : Nat) : ∀ n, sm (fun i => sm (f i) m) n = sm (fun j => sm (fun i => f i j) n) m
  | 0 => (sm_0 m).symm
  | n + 1 => by
    show sm (fun i => sm (f i) m) n + sm (f n) m = sm (fun j => sm (fun i => f i j) n + f n j) m
    rw [sm_add, sm_swap f m n]
theorem sm_one {v : Nat} : ∀ n, sm (fun z => if z = v then 1 else 0) n = if v < n then 1 else 0
  | 0 => by rw [if_neg (by omega)]; rfl
  | n + 1 => by
    show sm (fun z => if z = v then 1 else 0) n + (if n = v then 1 else 0) = _
    rw [sm_one n]
    by_cases e : n = v
    · rw [if_pos e, if_neg (by omega), if_pos (by omega)]
    · rw [if_neg e]
      by_cases h : v < n
      · rw [if_pos h, if_pos (by omega)]
      · rw [if_neg h, if_neg (by omega)]
theorem sm_app (f : Nat → Nat) (a : Nat) : ∀ b, sm f (a + b) = sm f a + sm (fun i => f (a + i)) b
  | 0 => rfl
  | b + 1 => by
    show sm f (a + b) + f (a + b) = sm f a + (sm (fun i => f (a + i)) b + f (a + b))
    rw [sm_app f a b]; omega
theorem sm_mul (f : Nat → Nat) (b : Nat) : ∀ a, sm f (a * b) = sm (fun i => sm (fun j => f (i * b + j)) b) a
  | 0 => by rw [Nat.zero_mul]; rfl
  | a + 1 => by
    rw [Nat.add_mul, Nat.one_mul, sm_app, sm_mul f b a]
    rfl
theorem sm_ext {f : Nat → Nat} {m : Nat} : ∀ d, sm (fun i => if i < m then f i else 0) (m + d) = sm f m
  | 0 => sm_eq m (fun i hi => if_pos hi)
  | d + 1 => by
    show sm (fun i => if i < m then f i else 0) (m + d) + (if m + d < m then f (m + d) else 0) = _
    rw [sm_ext d, if_neg (by omega), Nat.add_zero]
theorem sm_ext16 {f : Nat → Nat} {m : Nat} (h : m ≤ 16) : sm (fun i => if i < m then f i else 0) 16 = sm f m := by
  have := sm_ext (f := f) (m := m) (16 - m)
  rw [show m + (16 - m) = 16 by omega] at this
  exact this
theorem sm_512 (f : Nat → Nat) : sm f 512 = sm (fun v => sm (fun h => f (16 * v + h) + f (256 + (16 * v + h))) 16) 16 := by
  have e1 : sm f 512 = sm f 256 + sm (fun i => f (256 + i)) 256 := sm_app f 256 256
  have e2 : ∀ g : Nat → Nat, sm g 256 = sm (fun v => sm (fun h => g (16 * v + h)) 16) 16 := fun g => by
    have := sm_mul g 16 16
    rw [show 16 * 16 = 256 from rfl] at this
    rw [this]
    refine sm_eq 16 (fun v _ => sm_eq 16 (fun h _ => ?_))
    rw [Nat.mul_comm]
  rw [e1, e2, e2, ← sm_add]
  refine sm_eq 16 (fun v _ => ?_)
  rw [← sm_add]
/-- the two sides count the same: pairs of nodes against the 512 places -/
theorem two_sums {m : Nat} (hm : m ≤ 16) (F G : Nat → Nat → Nat) (f : Nat → Nat) (h0 : ∀ v h, v < 16 → h < 16 → f (16 * v + h) = if v < m ∧ h < m then F v h else 0) (h1 : ∀ v h, v < 16 → h < 16 → f (256 + (16 * v + h)) = if v < m ∧ h < m then G v h else 0) : sm f 512 = sm (fun a => sm (fun b => F a b + G b a) m) m := by
  have ext2 : ∀ P : Nat → Nat → Nat, sm (fun v => sm (fun h => if v < m ∧ h < m then P v h else 0) 16) 16 = sm (fun v => sm (P v) m) m := fun P => by
    rw [← sm_ext16 (f := fun v => sm (P v) m) hm]
    refine sm_eq 16 (fun v _ => ?_)
    by_cases hv : v < m
    · rw [if_pos hv, ← sm_ext16 (f := P v) hm]
      refine sm_eq 16 (fun h _ => ?_)
      by_cases hh : h < m
      · rw [if_pos ⟨hv, hh⟩, if_pos hh]
      · rw [if_neg (fun z => hh z.2), if_neg hh]
    · rw [if_neg hv, ← sm_0 16]
      exact sm_eq 16 (fun h _ => if_neg (fun z => hv z.1))
  rw [sm_512]
  have e : sm (fun v => sm (fun h => f (16 * v + h) + f (256 + (16 * v + h))) 16) 16 = sm (fun v => sm (fun h => if v < m ∧ h < m then F v h else 0) 16) 16 + sm (fun v => sm (fun h => if v < m ∧ h < m then G v h else 0) 16) 16 := by
    rw [← sm_add]
    refine sm_eq 16 (fun v hv => ?_)
    rw [← sm_add]
    exact sm_eq 16 (fun h hh => by rw [h0 v h hv hh, h1 v h hv hh])
  rw [e, ext2, ext2, sm_swap G m m, ← sm_add]
  refine sm_eq m (fun a _ => ?_)
  rw [← sm_add]
theorem lw_sm (c : Nat → Nat → Bool) (e : Nat → Nat → cE) (u : Nat) : ∀ w, (lw c e u w).length = sm (fun w => if c u w = true then 1 else 0) w
  | 0 => rfl
  | w + 1 => by
    show (lw c e u w ++ (if c u w = true then [e u w] else [])).length = sm (fun w => if c u w = true then 1 else 0) w + (if c u w = true then 1 else 0)
    rw [List.length_append, lw_sm c e u w]
    by_cases h : c u w = true
    · rw [if_pos h, if_pos h]; rfl
    · rw [if_neg h, if_neg h]; rfl
theorem lu_sm (c : Nat → Nat → Bool) (e : Nat → Nat → cE) (m : Nat) : ∀ u, (lu c e m u).length = sm (fun u => (lw c e u m).length) u
  | 0 => rfl
  | u + 1 => by
    show (lu c e m u ++ _).length = _ + _
    rw [List.length_append, lu_sm c e m u]
theorem rk_cnt {m k : Nat} {row rk : Nat → Nat} (hp0 : prm m row rk) (hk : k ≤ m) : sm (fun w => if rk w < k then 1 else 0) m ≤ k := by
  have e : sm (fun w => if rk w < k then 1 else 0) m = sm (fun w => sm (fun i => if i = rk w then 1 else 0) k) m := sm_eq m (fun w _ => (sm_one k).symm)
  rw [e, sm_swap]
  refine Nat.le_trans (sm_le (g := fun _ => 1) k (fun i hi => ?_)) (by rw [sm_c]; omega)
  have : sm (fun w => if i = rk w then 1 else 0) m ≤ sm (fun w => if w = row i then 1 else 0) m := sm_le m (fun w hw => by
    by_cases z : i = rk w
    · rw [if_pos z, if_pos (by rw [z]; exact ((hp0.2.2 w hw).2).symm)]; exact Nat.le_refl _
    · rw [if_neg z]; exact Nat.zero_le _)
  rw [sm_one] at this
  refine Nat.le_trans this ?_
  split <;> omega
theorem st_len {m k : Nat} {row rk : Nat → Nat} {W : Nat → Nat → Option Nat} {e : Nat → Nat → cE} (hp0 : prm m row rk) (hk : k ≤ m) : (lu (ctc row rk k W) e m m).length ≤ k * (k - 1) := by
  rw [lu_sm]
  have h1 : ∀ u, u < m → (lw (ctc row rk k W) e u m).length ≤ (if rk u < k then 1 else 0) * (k - 1) := fun u hu => by
    rw [lw_sm]
    by_cases hr : rk u < k
    · rw [if_pos hr, Nat.one_mul]
      have h2 : sm (fun w => if ctc row rk k W u w = true then 1 else 0) m + sm (fun w => if w = u then 1 else 0) m ≤ sm (fun w => if rk w < k then 1 else 0) m := by
        rw [← sm_add]
        refine sm_le m (fun w hw => ?_)
        by_cases hc : ctc row rk k W u w = true
        · have hc2 := hc
          unfold ctc at hc2
          simp only [Bool.and_eq_true, decide_eq_true_eq] at hc2
          rw [if_pos hc, if_neg (fun z => hc2.1 z.symm), if_pos hc2.2.2.1]
          exact Nat.le_refl _
        · rw [if_neg hc]
          by_cases e : w = u
          · rw [if_pos e, if_pos (by rw [e]; exact hr)]; exact Nat.le_refl _
          · rw [if_neg e]; exact Nat.zero_le _
      rw [sm_one, if_pos hu] at h2
      have := rk_cnt hp0 hk
      omega
    · rw [if_neg hr, Nat.zero_mul]
      have : sm (fun w => if ctc row rk k W u w = true then 1 else 0) m = sm (fun _ => 0) m := sm_eq m (fun w _ => if_neg (by unfold ctc; simp [hr]))
      rw [this, sm_0]
      exact Nat.le_refl _
  refine Nat.le_trans (sm_le m h1) ?_
  have h3 : ∀ (g : Nat → Nat) (c : Nat), ∀ n, sm (fun u => g u * c) n = sm g n * c := by
    intro g c n
    induction n with
    | zero => show 0 = 0 * c; omega
    | succ n ih => show sm (fun u => g u * c) n + g n * c = (sm g n + g n) * c; rw [ih, Nat.add_mul]
  rw [h3]
  exact Nat.mul_le_mul_right _ (rk_cnt hp0 hk)
theorem cL_len {A : Nat → Nat → Option Nat} {m : Nat} {row rk : Nat → Nat} (hp0 : prm m row rk) : (cL A row rk m m).length ≤ 1120 := by
  have h : ∀ j, j ≤ m → (cL A row rk m j).length ≤ sm (fun i => (m - 1 - i) * (m - 1 - i - 1)) j := by
    intro j
    induction j with
    | zero => intro _; exact Nat.le_refl _
    | succ j ih =>
      intro hj
      show (cL A row rk m j ++ _).length ≤ _ + _
      rw [List.length_append]
      exact Nat.add_le_add (ih (by omega)) (st_len hp0 (by omega))
  have h2 : ∀ m, m < 17 → sm (fun i => (m - 1 - i) * (m - 1 - i - 1)) m ≤ 1120 := by decide
  have := h2 m (by have := hp0.1; omega)
  exact Nat.le_trans (h m (Nat.le_refl _)) this
