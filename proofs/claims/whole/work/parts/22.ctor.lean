/-! THE CONSTRUCTORS -/
section CT
variable {K : Nat → Option ((Nat ⊕ Nat) × Nat)} {R : Nat → Nat → Option Nat} {n s F : Nat} {I : Nat → Nat → Int32}
theorem et_in {g i N : Nat} (k : Nat → Int32 → hm_T → Option (Nat × hm_T)) (hg : gd K R g) (hi : i < 16) (hN : 16 < N) : ∃ I', f_D_emptyTable_19 F k N g (nI i) (nI 0) (hp K R n s I) = k g (nI (i + 1)) (hp K R n s I') ∧ (∀ a, a ≠ g + 1 + i → I' a = I a) ∧ ∀ j, j < 16 → I' (g + 1 + i) j = -1 := by
  refine hl_up (fun N j t => f_D_emptyTable_19 F k N g (nI i) (nI j) (hp K R n s t)) (fun b => ∃ I', b = k g (nI (i + 1)) (hp K R n s I') ∧ (∀ a, a ≠ g + 1 + i → I' a = I a) ∧ ∀ j, j < 16 → I' (g + 1 + i) j = -1) (fun j t => (∀ a, a ≠ g + 1 + i → t a = I a) ∧ ∀ j', j' < j → t (g + 1 + i) j' = -1) 16 ?_ ?_ N 0 I (by omega) (by omega) ⟨fun _ _ => rfl, fun j h => by omega⟩
  · intro N j t hj ⟨h1, h2⟩
    refine Or.inr ⟨up2 t (g + 1 + i) j (-1), ⟨fun a ha => by rw [up2_ne ha]; exact h1 a ha, fun j' hj' => ?_⟩, ?_⟩
    · by_cases e : j' = j
      · subst e; exact up2_at _ _ _ _
      · rw [up2_nj e]; exact h2 j' (by omega)
    · show g_D_emptyTable_19 F k (f_D_emptyTable_19 F k N) g (nI i) (nI j) (hp K R n s t) = _
      unfold g_D_emptyTable_19
      rw [if_neg (by rw [n_16, nI_leI (by omega) (by omega)]; omega), gd_ald hg hi, Option.bind_some, gd_ist hg hi hj, Option.bind_some, nI_1]
  · intro N t ⟨h1, h2⟩
    refine ⟨t, ?_, h1, h2⟩
    show g_D_emptyTable_19 F k (f_D_emptyTable_19 F k N) g (nI i) (nI 16) (hp K R n s t) = _
    unfold g_D_emptyTable_19
    rw [if_pos (by rw [n_16]; exact Int32.le_refl _)]
    unfold f_D_emptyTable_37
    rw [nI_1]
theorem et_out {g N : Nat} (hg : gd K R g) (hN : 16 < N) (hF : 20 ≤ F) : ∃ I', f_D_emptyTable_11 F N g (nI 0) (hp K R n s I) = some (g, hp K R n s I') ∧ (∀ a, (∀ i, i < 16 → a ≠ g + 1 + i) → I' a = I a) ∧ ∀ i j, i < 16 → j < 16 → I' (g + 1 + i) j = -1 := by
  refine hl_up (fun N i t => f_D_emptyTable_11 F N g (nI i) (hp K R n s t)) (fun b => ∃ I', b = some (g, hp K R n s I') ∧ (∀ a, (∀ i, i < 16 → a ≠ g + 1 + i) → I' a = I a) ∧ ∀ i j, i < 16 → j < 16 → I' (g + 1 + i) j = -1) (fun i t => (∀ a, (∀ i, i < 16 → a ≠ g + 1 + i) → t a = I a) ∧ ∀ i' j, i' < i → j < 16 → t (g + 1 + i') j = -1) 16 ?_ ?_ N 0 I (by omega) (by omega) ⟨fun _ _ => rfl, fun i j h => by omega⟩
  · intro N i t hi ⟨h1, h2⟩
    obtain ⟨I', e, h3, h4⟩ := et_in (F := F) (n := n) (s := s) (I := t) (N := F) (f_D_emptyTable_11 F N) hg hi (by omega)
    refine Or.inr ⟨I', ⟨fun a ha => by rw [h3 a (ha i hi)]; exact h1 a ha, fun i' j hi' hj => ?_⟩, ?_⟩
    · by_cases ei : i' = i
      · subst ei; exact h4 j hj
      · rw [h3 _ (by omega)]; exact h2 i' j (by omega) hj
    · show g_D_emptyTable_11 F (f_D_emptyTable_11 F N) g (nI i) (hp K R n s t) = _
      unfold g_D_emptyTable_11
      rw [if_neg (by rw [n_16, nI_leI (by omega) (by omega)]; omega)]
      rw [nI_0] at e
      exact e
  · intro N t ⟨h1, h2⟩
    refine ⟨t, ?_, h1, h2⟩
    show g_D_emptyTable_11 F (f_D_emptyTable_11 F N) g (nI 16) (hp K R n s t) = _
    unfold g_D_emptyTable_11
    rw [if_pos (by rw [n_16]; exact Int32.le_refl _)]
theorem et_ok (hF : 20 ≤ F) : ∃ K' R' I', f_D_emptyTable F (hp K R n s I) = some (n, hp K' R' (n + 17) (s + 272) I') ∧ (∀ a, a < n → K' a = K a ∧ R' a = R a ∧ I' a = I a) ∧ gd K' R' n ∧ ∀ i j, i < 16 → j < 16 → I' (n + 1 + i) j = -1 := by
  have e0 : hm_newg (hp K R n s I) (16 : Int32) (16 : Int32) = some (n, hm_mkg (hp K R n s I) 16 16) := by
    unfold hm_newg
    rw [if_pos (by decide)]
    rfl
  have hgd : gd (hm_k (hm_mkg (hp K R n s I) 16 16)) (hm_r (hm_mkg (hp K R n s I) 16 16)) n := by
    refine ⟨?_, fun i hi => ?_, fun i hi => ?_⟩
    · rw [hm_mkg_k]; exact if_pos rfl
    · rw [hm_mkg_r]; rw [if_pos rfl, if_pos hi]
    · rw [hm_mkg_k]; rw [if_neg (by show ¬ n + 1 + i = n; omega), if_pos (by show n < n + 1 + i ∧ n + 1 + i ≤ n + 16; omega)]
  obtain ⟨I', e, h1, h2⟩ := et_out (F := F) (n := n + 17) (s := s + 272) (I := hm_i (hm_mkg (hp K R n s I) 16 16)) (N := F) hgd (by omega) hF
  refine ⟨_, _, I', ?_, fun a ha => ⟨?_, ?_, ?_⟩, hgd, h2⟩
  · unfold f_D_emptyTable
    rw [e0, hm_and_some]
    rw [nI_0] at e
    exact e
  · rw [hm_mkg_k]; rw [if_neg (by show ¬ a = n; omega), if_neg (by show ¬ (n < a ∧ a ≤ n + 16); omega)]
  · rw [hm_mkg_r]; rw [if_neg (by show ¬ a = n; omega), if_neg (by show ¬ (n < a ∧ a ≤ n + 16); omega)]
  · rw [h1 a (fun i _ => by omega), hm_mkg_i]; rw [if_neg (by show ¬ (n ≤ a ∧ a ≤ n + 16); omega)]
theorem na_ok (t m : Nat) (j : Int32) (hj : j = nI m) (hm : m ≤ 1000000) : ∃ K' R' I', hm_newa t (hp K R n s I) j = some (n, hp K' R' (n + 1) (s + m) I') ∧ (∀ a, a < n → K' a = K a ∧ R' a = R a ∧ I' a = I a) ∧ K' n = some (.inl t, m) ∧ ∀ i, I' n i = 0 := by
  subst hj
  refine ⟨va_up K n (some (.inl t, m)), va_up R n (fun _ => none), va_up I n (fun _ => 0), ?_, fun a ha => ⟨va_up_ne _ _ (by omega), va_up_ne _ _ (by omega), va_up_ne _ _ (by omega)⟩, va_up_self _ _ _, fun i => by rw [va_up_self]⟩
  unfold hm_newa
  rw [nI_clamp (by omega), if_pos ⟨nI_pos (by omega), hm⟩]
  rfl
theorem no_ok (ci m : Nat) : ∃ K' R' I', hm_new ci m (hp K R n s I) = some (n, hp K' R' (n + 1) (s + m) I') ∧ (∀ a, a < n → K' a = K a ∧ R' a = R a ∧ I' a = I a) ∧ K' n = some (.inr ci, m) ∧ ∀ i, I' n i = 0 :=
  ⟨va_up K n (some (.inr ci, m)), va_up R n (fun _ => none), va_up I n (fun _ => 0), rfl, fun a ha => ⟨va_up_ne _ _ (by omega), va_up_ne _ _ (by omega), va_up_ne _ _ (by omega)⟩, va_up_self _ _ _, fun i => by rw [va_up_self]⟩
def upR (R : Nat → Nat → Option Nat) (a j : Nat) (x : Option Nat) : Nat → Nat → Option Nat := va_up R a (va_up (R a) j x)
theorem upR_at (R : Nat → Nat → Option Nat) (a j : Nat) (x : Option Nat) : upR R a j x a j = x := by simp [upR, va_up]
theorem upR_ne {R : Nat → Nat → Option Nat} {a b j : Nat} {x : Option Nat} (h : b ≠ a) : upR R a j x b = R b := by simp [upR, va_up, h]
theorem upR_nj {R : Nat → Nat → Option Nat} {a b j i : Nat} {x : Option Nat} (h : i ≠ j) : upR R a j x b i = R b i := by
  by_cases hb : b = a
  · subst hb; simp [upR, va_up, h]
  · rw [upR_ne hb]
theorem hp_pr {ci N k a b : Nat} (h : K a = some (.inr ci, N)) : hm_pr ci N k (hp K R n s I) a b = some (hp K (upR R a k (some b)) n s I) := if_pos h
end CT
