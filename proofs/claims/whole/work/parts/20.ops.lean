/-! THE PURE SIDE. The heap behind the two constructors: kinds K, references R, next address and slots stay; the ints I change -/
abbrev hp (K : Nat → Option ((Nat ⊕ Nat) × Nat)) (R : Nat → Nat → Option Nat) (n s : Nat) (I : Nat → Nat → Int32) : hm_T := (K, I, R, n, s)
def up2 (I : Nat → Nat → Int32) (a j : Nat) (x : Int32) : Nat → Nat → Int32 := va_up I a (va_up (I a) j x)
theorem up2_at (I : Nat → Nat → Int32) (a j : Nat) (x : Int32) : up2 I a j x a j = x := by simp [up2, va_up]
theorem up2_ne {I : Nat → Nat → Int32} {a b j : Nat} {x : Int32} (h : b ≠ a) : up2 I a j x b = I b := by simp [up2, va_up, h]
theorem up2_nj {I : Nat → Nat → Int32} {a b j i : Nat} {x : Int32} (h : i ≠ j) : up2 I a j x b i = I b i := by
  by_cases hb : b = a
  · subst hb; simp [up2, va_up, h]
  · rw [up2_ne hb]
theorem up2_eq (I : Nat → Nat → Int32) (a b i j : Nat) (x : Int32) : up2 I a j x b i = if b = a ∧ i = j then x else I b i := by
  by_cases hb : b = a
  · subst hb
    by_cases hi : i = j
    · subst hi; simp [up2_at]
    · rw [up2_nj hi, if_neg (fun q => hi q.2)]
  · rw [up2_ne hb, if_neg (fun q => hb q.1)]
section PO
variable {K : Nat → Option ((Nat ⊕ Nat) × Nat)} {R : Nat → Nat → Option Nat} {n s : Nat} {I : Nat → Nat → Int32} {a b ci N k j : Nat} {x : Int32}
theorem hp_gi (h : K a = some (.inr ci, N)) : hm_gi ci N k (hp K R n s I) a = some (I a k) := if_pos h
theorem hp_gr (h : K a = some (.inr ci, N)) (hr : R a k = some b) : hm_gr ci N k (hp K R n s I) a = some b := (if_pos h).trans hr
theorem hp_is (h : K a = some (.inr ci, N)) : hm_is ci N (hp K R n s I) a = some () := if_pos h
theorem hp_pi (h : K a = some (.inr ci, N)) : hm_pi ci N k (hp K R n s I) a x = some (hp K R n s (up2 I a k x)) := if_pos h
theorem hp_pz (h : K a = some (.inr ci, N)) (hx : x = 0 ∨ x = 1) : hm_pz ci N k (hp K R n s I) a x = some (hp K R n s (up2 I a k x)) := if_pos ⟨h, hx⟩
theorem hp_in (hj : j < N) (hN : N < 2 ^ 31) : ¬ (nI j < 0 ∨ N ≤ (nI j).toNatClampNeg) := vp_in_nI hj hN
theorem hp_ild (h : K a = some (.inl 0, N)) (hj : j < N) (hN : N < 2 ^ 31) : hm_ild (hp K R n s I) a (nI j) = some (I a j) := by
  unfold hm_ild
  show (K a).bind _ = _
  rw [h, Option.bind_some, if_pos ⟨Or.inl rfl, hp_in hj hN⟩, nI_clamp (by omega)]
theorem hp_zld (h : K a = some (.inl 2, N)) (hj : j < N) (hN : N < 2 ^ 31) : hm_zld (hp K R n s I) a (nI j) = some (I a j) := by
  unfold hm_zld
  show (K a).bind _ = _
  rw [h, Option.bind_some, if_pos ⟨rfl, hp_in hj hN⟩, nI_clamp (by omega)]
theorem hp_ald (h : K a = some (.inl 5, N)) (hj : j < N) (hN : N < 2 ^ 31) (hr : R a j = some b) : hm_ald (hp K R n s I) a (nI j) = some b := by
  unfold hm_ald
  show (K a).bind _ = _
  rw [h, Option.bind_some, if_pos ⟨rfl, hp_in hj hN⟩, nI_clamp (by omega)]
  exact hr
theorem hp_len (h : K a = some (.inl 0, N)) : hm_len (hp K R n s I) a = some (nI N) := by
  unfold hm_len
  show (K a).bind _ = _
  rw [h, Option.bind_some, if_pos (Or.inl rfl)]
  rfl
theorem hp_ist (h : K a = some (.inl 0, N)) (hj : j < N) (hN : N < 2 ^ 31) : hm_ist (hp K R n s I) a (nI j) x = some (hp K R n s (up2 I a j x)) := by
  unfold hm_ist
  show (K a).bind _ = _
  rw [h, Option.bind_some, if_pos ⟨rfl, hp_in hj hN⟩, nI_clamp (by omega)]
  rfl
theorem hp_nar (hx : x = 0 ∨ x = 1) : vp_nar .boolean x = x := by rcases hx with rfl | rfl <;> decide
theorem hp_zst (h : K a = some (.inl 2, N)) (hj : j < N) (hN : N < 2 ^ 31) (hx : x = 0 ∨ x = 1) : hm_zst (hp K R n s I) a (nI j) x = some (hp K R n s (up2 I a j x)) := by
  unfold hm_zst
  show (K a).bind _ = _
  rw [h, Option.bind_some, if_pos ⟨rfl, hp_in hj hN⟩, nI_clamp (by omega), hp_nar hx]
  rfl
end PO
theorem zr_0 : hm_zr (0 : Int32) = some 0 := rfl
theorem zr_1 : hm_zr (1 : Int32) = some 1 := rfl
theorem hm_and_some {α β γ : Type} {a : α} {b : β} {f : α → β → Option γ} : hm_and (some (a, b)) f = f a b := rfl
/-! loops: up to e, down to e -/
theorem hl_up {τ β : Type} (f : Nat → Nat → τ → β) (Post : β → Prop) (P : Nat → τ → Prop) (e : Nat) (hs : ∀ N i t, i < e → P i t → Post (f (N + 1) i t) ∨ ∃ t', P (i + 1) t' ∧ f (N + 1) i t = f N (i + 1) t') (hx : ∀ N t, P e t → Post (f (N + 1) e t)) : ∀ N i t, i ≤ e → e < N + i → P i t → Post (f N i t) := by
  intro N
  induction N with
  | zero => intro i t h1 h2; omega
  | succ N ih =>
    intro i t h1 h2 hP
    by_cases hi : i = e
    · subst hi; exact hx N t hP
    · rcases hs N i t (by omega) hP with h | ⟨t', h3, h4⟩
      · exact h
      · rw [h4]; exact ih (i + 1) t' (by omega) (by omega) h3
theorem hl_dn {τ β : Type} (f : Nat → Nat → τ → β) (Post : β → Prop) (P : Nat → τ → Prop) (e : Nat) (hs : ∀ N i t, e ≤ i → P (i + 1) t → Post (f (N + 1) (i + 1) t) ∨ ∃ t', P i t' ∧ f (N + 1) (i + 1) t = f N i t') (hx : ∀ N t, P e t → Post (f (N + 1) e t)) : ∀ N i t, e ≤ i → i < N + e → P i t → Post (f N i t) := by
  intro N
  induction N with
  | zero => intro i t h1 h2; omega
  | succ N ih =>
    intro i t h1 h2 hP
    by_cases hi : i = e
    · subst hi; exact hx N t hP
    · obtain ⟨j, rfl⟩ : ∃ j, i = j + 1 := ⟨i - 1, by omega⟩
      rcases hs N j t (by omega) hP with h | ⟨t', h3, h4⟩
      · exact h
      · rw [h4]; exact ih j t' (by omega) (by omega) h3
/-! small numbers -/
theorem n_0 : (0 : Int32) = nI 0 := by decide +kernel
theorem n_1 : (1 : Int32) = nI 1 := by decide +kernel
theorem n_4 : (4 : Int32) = nI 4 := by decide +kernel
theorem n_16 : (16 : Int32) = nI 16 := by decide +kernel
theorem n_256 : (256 : Int32) = nI 256 := by decide +kernel
theorem n_512 : (512 : Int32) = nI 512 := by decide +kernel
theorem n_1000 : (1000 : Int32) = nI 1000 := by decide +kernel
theorem n_90k : (90000 : Int32) = nI 90000 := by decide +kernel
theorem n_far : (1000000 : Int32) = nI 1000000 := by decide +kernel
theorem nI_m1 {d : Nat} (h : d < 2 ^ 31) : nI d ≠ -1 := by
  intro q
  have := nI_toInt h
  rw [q] at this
  have e : (-1 : Int32).toInt = -1 := by decide +kernel
  rw [e] at this
  omega
/-- a length as the class writes it, and as the reference does -/
def enD (x : Option Nat) : Int32 := match x with
  | none => -1
  | some d => nI d
def enR (x : Option Nat) : Int32 := match x with
  | none => nI 1000000
  | some d => nI d
def enS (x : Option Nat) : Int32 := match x with
  | none => 0
  | some d => nI (d + 1)
def on_ok (B : Nat) (x : Option Nat) : Prop := ∀ d, x = some d → d ≤ B
theorem enD_none {x : Option Nat} (h : on_ok 1000000 x) : enD x = -1 ↔ x = none := by
  cases x with
  | none => simp [enD]
  | some d => simp only [enD]; exact ⟨fun q => absurd q (nI_m1 (by have := h d rfl; omega)), fun q => by cases q⟩
/-! lists of kinds: a grid of sixteen rows behind its outer array -/
def gd (K : Nat → Option ((Nat ⊕ Nat) × Nat)) (R : Nat → Nat → Option Nat) (g : Nat) : Prop := K g = some (.inl 5, 16) ∧ (∀ i, i < 16 → R g i = some (g + 1 + i)) ∧ ∀ i, i < 16 → K (g + 1 + i) = some (.inl 0, 16)
section PG
variable {K : Nat → Option ((Nat ⊕ Nat) × Nat)} {R : Nat → Nat → Option Nat} {n s : Nat} {I : Nat → Nat → Int32} {g a b : Nat} {x : Int32}
theorem gd_ald (h : gd K R g) (ha : a < 16) : hm_ald (hp K R n s I) g (nI a) = some (g + 1 + a) := hp_ald h.1 ha (by omega) (h.2.1 a ha)
theorem gd_ild (h : gd K R g) (ha : a < 16) (hb : b < 16) : hm_ild (hp K R n s I) (g + 1 + a) (nI b) = some (I (g + 1 + a) b) := hp_ild (h.2.2 a ha) hb (by omega)
theorem gd_ist (h : gd K R g) (ha : a < 16) (hb : b < 16) : hm_ist (hp K R n s I) (g + 1 + a) (nI b) x = some (hp K R n s (up2 I (g + 1 + a) b x)) := hp_ist (h.2.2 a ha) hb (by omega)
end PG
