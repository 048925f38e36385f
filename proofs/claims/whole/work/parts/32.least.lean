/-! LENGTHS AS THE CLASS WRITES THEM; copies and least lengths among the first nodes of the row -/
def on_lt (x y : Option Nat) : Bool := match x, y with
  | some a, some b => decide (a < b)
  | some _, none => true
  | none, _ => false
theorem on_min_lt (x y : Option Nat) : on_min x y = if on_lt y x then y else x := by
  cases x <;> cases y <;> simp [on_min, on_lt]
  split <;> rfl
theorem enD_ne {d : Nat} (h : d < 2 ^ 31) : ¬ nI d = (-1 : Int32) := nI_m1 h
section LS
variable {K : Nat → Option ((Nat ⊕ Nat) × Nat)} {R : Nat → Nat → Option Nat} {n s F : Nat} {I : Nat → Nat → Int32} {h : hm_T}
theorem D_sum {x y : Option Nat} (hx : on_ok 1000000000 x) (hy : on_ok 1000000000 y) : f_D_sum F (enD x) (enD y) h = some (enD (on_add x y), h) := by
  unfold f_D_sum f_D_sum_10
  cases x with
  | none => rw [if_pos (show enD none = -1 from rfl)]; rfl
  | some a =>
    have := hx a rfl
    rw [if_neg (by exact enD_ne (by omega))]
    cases y with
    | none => rw [if_pos (show enD none = -1 from rfl)]; rfl
    | some b =>
      have := hy b rfl
      rw [if_neg (by exact enD_ne (by omega))]
      show some (nI a + nI b, h) = some (nI (a + b), h)
      rw [nI_add]
theorem D_isLess {x y : Option Nat} (hx : on_ok 2000000000 x) (hy : on_ok 2000000000 y) : f_D_isLess F (enD x) (enD y) h = some (if on_lt x y then 1 else 0, h) := by
  unfold f_D_isLess f_D_isLess_15
  cases x with
  | none => rw [if_pos (show enD none = -1 from rfl), zr_0]; rfl
  | some a =>
    have := hx a rfl
    rw [if_neg (by exact enD_ne (by omega))]
    cases y with
    | none => rw [if_pos (show enD none = -1 from rfl), zr_1]; rfl
    | some b =>
      have := hy b rfl
      rw [if_neg (by exact enD_ne (by omega))]
      show (if nI b ≤ nI a then _ else _) = _
      by_cases hc : a < b
      · rw [if_neg (nI_ge hc (by omega)), zr_1]
        simp [on_lt, hc]
      · rw [if_pos (nI_le (by omega) (by omega)), zr_0]
        simp [on_lt, hc]
theorem D_lesser {x y : Option Nat} (hx : on_ok 2000000000 x) (hy : on_ok 2000000000 y) : f_D_lesser F (enD x) (enD y) h = some (enD (on_min y x), h) := by
  unfold f_D_lesser
  rw [D_isLess hx hy, hm_and_some, on_min_lt]
  by_cases hc : on_lt x y = true
  · simp [hc]
  · simp [hc]
/-- a row of nodes: different numbers below 16 in the first m places -/
def rwok (I : Nat → Nat → Int32) (ra m : Nat) (row : Nat → Nat) : Prop := m ≤ 16 ∧ (∀ i, i < m → I ra i = nI (row i) ∧ row i < 16) ∧ ∀ i j, i < m → j < m → row i = row j → i = j
/-- the address of a row of a grid -/
def inG (g a : Nat) : Prop := g + 1 ≤ a ∧ a ≤ g + 16
theorem cp_in {ra m gf gt i N : Nat} {row : Nat → Nat} (k : Nat → Int32 → Nat → Nat → Int32 → hm_T → Option hm_T) (hra : K ra = some (.inl 0, 16)) (hf : gd K R gf) (ht : gd K R gt) (hrt : ¬ inG gt ra) (hft : ∀ a, inG gf a → ¬ inG gt a) (hr : rwok I ra m row) (hi : i < m) (hN : 16 < N)
    (h0 : ∀ i' j', i' < i → j' < m → I (gt + 1 + row i') (row j') = I (gf + 1 + row i') (row j')) :
    ∃ I', f_D_copyAmong_12 F k N ra (nI m) gf gt (nI i) (nI 0) (hp K R n s I) = k ra (nI m) gf gt (nI (i + 1)) (hp K R n s I') ∧ (∀ a, ¬ inG gt a → I' a = I a) ∧ ∀ i' j', i' < i + 1 → j' < m → I' (gt + 1 + row i') (row j') = I (gf + 1 + row i') (row j') := by
  have hm := hr.1
  have hri := hr.2.1 i hi
  refine hl_up (fun N j t => f_D_copyAmong_12 F k N ra (nI m) gf gt (nI i) (nI j) (hp K R n s t)) (fun b => ∃ I', b = k ra (nI m) gf gt (nI (i + 1)) (hp K R n s I') ∧ (∀ a, ¬ inG gt a → I' a = I a) ∧ ∀ i' j', i' < i + 1 → j' < m → I' (gt + 1 + row i') (row j') = I (gf + 1 + row i') (row j')) (fun j t => (∀ a, ¬ inG gt a → t a = I a) ∧ ∀ i' j', i' < m → j' < m → (i' < i ∨ (i' = i ∧ j' < j)) → t (gt + 1 + row i') (row j') = I (gf + 1 + row i') (row j')) m ?_ ?_ N 0 I (by omega) (by omega) ⟨fun _ _ => rfl, fun i' j' h1 h2 h3 => h0 i' j' (by omega) h2⟩
  · intro N j t hj ⟨h1, h2⟩
    have hrj := hr.2.1 j hj
    have eg : t (gf + 1 + row i) (row j) = I (gf + 1 + row i) (row j) := by rw [h1 _ (hft _ ⟨by omega, by omega⟩)]
    have er : t ra = I ra := h1 _ hrt
    refine Or.inr ⟨up2 t (gt + 1 + row i) (row j) (I (gf + 1 + row i) (row j)), ⟨fun a ha => ?_, fun i' j' hi' hj' hc => ?_⟩, ?_⟩
    · rw [up2_ne (fun q => ha (by rw [q]; exact ⟨by omega, by omega⟩))]; exact h1 a ha
    · rw [up2_eq]
      by_cases hq : gt + 1 + row i' = gt + 1 + row i ∧ row j' = row j
      · rw [if_pos hq]
        have e1 : row i' = row i := by omega
        rw [e1, hq.2]
      · rw [if_neg hq]
        refine h2 i' j' hi' hj' ?_
        rcases hc with hc | ⟨hc1, hc2⟩
        · exact Or.inl hc
        · by_cases e : j' = j
          · exact absurd ⟨by rw [hc1], by rw [e]⟩ hq
          · exact Or.inr ⟨hc1, by omega⟩
    · show g_D_copyAmong_12 F k (f_D_copyAmong_12 F k N) ra (nI m) gf gt (nI i) (nI j) (hp K R n s t) = _
      unfold g_D_copyAmong_12
      rw [if_neg (nI_ge hj (by omega))]
      have x1 : hm_ild (hp K R n s t) ra (nI i) = some (nI (row i)) := by rw [hp_ild hra (by omega) (by omega), er, hri.1]
      have x2 : hm_ild (hp K R n s t) ra (nI j) = some (nI (row j)) := by rw [hp_ild hra (by omega) (by omega), er, hrj.1]
      simp only [x1, x2, Option.bind_some, gd_ald ht hri.2, gd_ald hf hri.2, gd_ild hf hri.2 hrj.2, gd_ist ht hri.2 hrj.2, eg, nI_1]
  · intro N t ⟨h1, h2⟩
    refine ⟨t, ?_, h1, fun i' j' hi' hj' => h2 i' j' (by omega) hj' (by omega)⟩
    show g_D_copyAmong_12 F k (f_D_copyAmong_12 F k N) ra (nI m) gf gt (nI i) (nI m) (hp K R n s t) = _
    unfold g_D_copyAmong_12 f_D_copyAmong_46
    rw [if_pos (Int32.le_refl _), nI_1]
theorem D_copy {ra m gf gt : Nat} {row : Nat → Nat} (hF : 20 ≤ F) (hra : K ra = some (.inl 0, 16)) (hf : gd K R gf) (ht : gd K R gt) (hrt : ¬ inG gt ra) (hft : ∀ a, inG gf a → ¬ inG gt a) (hr : rwok I ra m row) :
    ∃ I', f_D_copyAmong F ra (nI m) gf gt (hp K R n s I) = some (hp K R n s I') ∧ (∀ a, ¬ inG gt a → I' a = I a) ∧ ∀ i j, i < m → j < m → I' (gt + 1 + row i) (row j) = I (gf + 1 + row i) (row j) := by
  have hm := hr.1
  unfold f_D_copyAmong
  rw [← nI_0]
  refine hl_up (fun N i t => f_D_copyAmong_3 F N ra (nI m) gf gt (nI i) (hp K R n s t)) (fun b => ∃ I', b = some (hp K R n s I') ∧ (∀ a, ¬ inG gt a → I' a = I a) ∧ ∀ i j, i < m → j < m → I' (gt + 1 + row i) (row j) = I (gf + 1 + row i) (row j)) (fun i t => (∀ a, ¬ inG gt a → t a = I a) ∧ ∀ i' j', i' < i → j' < m → t (gt + 1 + row i') (row j') = I (gf + 1 + row i') (row j')) m ?_ ?_ F 0 I (by omega) (by omega) ⟨fun _ _ => rfl, fun i' j' h1 => by omega⟩
  · intro N i t hi ⟨h1, h2⟩
    have hgf : ∀ i' j', i' < m → t (gf + 1 + row i') j' = I (gf + 1 + row i') j' := fun i' j' hi' => by
      have := (hr.2.1 i' hi').2
      rw [h1 _ (hft _ ⟨by omega, by omega⟩)]
    obtain ⟨I', e, h3, h4⟩ := cp_in (F := F) (n := n) (s := s) (I := t) (N := F) (f_D_copyAmong_3 F N) hra hf ht hrt hft ⟨hm, fun i hi => by rw [h1 _ hrt]; exact hr.2.1 i hi, hr.2.2⟩ hi (by omega) (fun i' j' hi' hj' => by rw [h2 i' j' hi' hj', hgf i' _ (by omega)])
    refine Or.inr ⟨I', ⟨fun a ha => by rw [h3 a ha]; exact h1 a ha, fun i' j' hi' hj' => by rw [h4 i' j' hi' hj', hgf i' _ (by omega)]⟩, ?_⟩
    show g_D_copyAmong_3 F (f_D_copyAmong_3 F N) ra (nI m) gf gt (nI i) (hp K R n s t) = _
    unfold g_D_copyAmong_3
    rw [if_neg (nI_ge hi (by omega)), ← nI_0]
    exact e
  · intro N t ⟨h1, h2⟩
    refine ⟨t, ?_, h1, h2⟩
    show g_D_copyAmong_3 F (f_D_copyAmong_3 F N) ra (nI m) gf gt (nI m) (hp K R n s t) = _
    unfold g_D_copyAmong_3
    rw [if_pos (Int32.le_refl _)]
end LS
