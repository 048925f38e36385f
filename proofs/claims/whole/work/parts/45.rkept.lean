/-! THE REFERENCE: the rest of contraction -/
section RK
variable {K : Nat → Option ((Nat ⊕ Nat) × Nat)} {R : Nat → Nat → Option Nat} {n s F q m k : Nat} {I : Nat → Nat → Int32} {row rk : Nat → Nat} {W A : Nat → Nat → Option Nat} {x1 x3 : Int32}
theorem rk_kept {I0 : Nat → Nat → Int32} (k47 : Nat → Int32 → hm_T → Option hm_T) (hF : 20 ≤ F) (S : shR K R q) (hm : I0 q 1 = nI m) (hp0 : prm m row rk) (hk : k < m) (hg : ∀ x, x < m → I0 (q + 8) x = if k < rk x then 1 else 0) :
    ∃ t', f_R_contract_272 F k47 q x1 (nI (row k)) x3 (hp K R n s I0) = f_R_contract_354 F k47 q x1 (nI (row k)) x3 (hp K R n s t') ∧ (∀ x, x ≠ q + 11 → t' x = I0 x) ∧ ∀ x y, x < m → y < m → t' (q + 11) (16 * x + y) = if (rk x < k ∧ y = row k) ∨ (x = row k ∧ rk y < k) then I0 (q + 9) (16 * x + y) else I0 (q + 11) (16 * x + y) := by
  have h16 := hp0.1
  have hrk := hp0.2.1 k hk
  unfold f_R_contract_272
  rw [← nI_0]
  refine hl_up (fun N u t => f_R_contract_275 F k47 N q x1 (nI (row k)) x3 (nI u) (hp K R n s t)) (fun z => ∃ t', z = f_R_contract_354 F k47 q x1 (nI (row k)) x3 (hp K R n s t') ∧ (∀ x, x ≠ q + 11 → t' x = I0 x) ∧ ∀ x y, x < m → y < m → t' (q + 11) (16 * x + y) = if (rk x < k ∧ y = row k) ∨ (x = row k ∧ rk y < k) then I0 (q + 9) (16 * x + y) else I0 (q + 11) (16 * x + y)) (fun u t => (∀ x, x ≠ q + 11 → t x = I0 x) ∧ ∀ x y, x < m → y < m → t (q + 11) (16 * x + y) = if (rk x < k ∧ y = row k ∧ x < u) ∨ (x = row k ∧ rk y < k ∧ y < u) then I0 (q + 9) (16 * x + y) else I0 (q + 11) (16 * x + y)) m ?_ ?_ F 0 I0 (by omega) (by omega) ⟨fun _ _ => rfl, fun x y hx hy => by rw [if_neg (by omega)]⟩
  · intro N u t hu ⟨h1, h2⟩
    have w1 : t q 1 = nI m := by rw [h1 _ (by omega)]; exact hm
    have g1 : hm_zld (hp K R n s t) (q + 8) (nI u) = some (if k < rk u then 1 else 0) := by rw [hp_zld S.K8 (by omega) (by omega), h1 _ (by omega), hg u hu]
    have iu : nI u = nI (row k) ↔ rk u = k := by
      rw [nI_eq (by omega) (by omega)]
      exact ⟨fun e => by rw [e]; exact hrk.2, fun e => by rw [← e]; exact ((hp0.2.2 u hu).2).symm⟩
    have ge : ¬ nI m ≤ nI u := nI_ge hu (by omega)
    refine Or.inr ?_
    show ∃ t', _ ∧ g_R_contract_275 F k47 (f_R_contract_275 F k47 N) q x1 (nI (row k)) x3 (nI u) (hp K R n s t) = _
    have skip : ¬ rk u < k → (∀ x, x ≠ q + 11 → t x = I0 x) ∧ ∀ x y, x < m → y < m → t (q + 11) (16 * x + y) = if (rk x < k ∧ y = row k ∧ x < u + 1) ∨ (x = row k ∧ rk y < k ∧ y < u + 1) then I0 (q + 9) (16 * x + y) else I0 (q + 11) (16 * x + y) := fun hc => by
      refine ⟨h1, fun x y hx hy => ?_⟩
      rw [h2 x y hx hy]
      have hh : ((rk x < k ∧ y = row k ∧ x < u) ∨ (x = row k ∧ rk y < k ∧ y < u)) ↔ ((rk x < k ∧ y = row k ∧ x < u + 1) ∨ (x = row k ∧ rk y < k ∧ y < u + 1)) := by
        by_cases ex : x = u
        · subst ex
          by_cases ey : y = x
          · subst ey; omega
          · omega
        · by_cases ey : y = u
          · subst ey; omega
          · omega
      simp only [hh]
    by_cases a1 : k < rk u
    · refine ⟨t, skip (by omega), ?_⟩
      unfold g_R_contract_275 f_R_contract_348
      simp only [eR_gi S, Option.bind_some, w1, if_neg ge, eR_r11 S, g1, if_pos a1, if_neg (show ¬ (1 : Int32) = 0 by decide), nI_1]
    · by_cases a2 : rk u = k
      · refine ⟨t, skip (by omega), ?_⟩
        unfold g_R_contract_275 f_R_contract_348
        simp only [eR_gi S, Option.bind_some, w1, if_neg ge, eR_r11 S, g1, if_neg a1, if_true, if_pos (iu.mpr a2), nI_1]
      · have a3 : rk u < k := by omega
        have hne : u ≠ row k := fun e => a2 (by rw [e]; exact hrk.2)
        refine ⟨up2 (up2 t (q + 11) (16 * u + row k) (I0 (q + 9) (16 * u + row k))) (q + 11) (16 * row k + u) (I0 (q + 9) (16 * row k + u)), ⟨fun x hx => by rw [up2_ne hx, up2_ne hx]; exact h1 x hx, fun x y hx hy => ?_⟩, ?_⟩
        · by_cases z1 : x = row k ∧ y = u
          · rw [z1.1, z1.2, up2_at, if_pos (Or.inr ⟨rfl, a3, by omega⟩)]
          · rw [up2_nj (by omega)]
            by_cases z2 : x = u ∧ y = row k
            · rw [z2.1, z2.2, up2_at, if_pos (Or.inl ⟨a3, rfl, by omega⟩)]
            · rw [up2_nj (by omega), h2 x y hx hy]
              have hh : ((rk x < k ∧ y = row k ∧ x < u) ∨ (x = row k ∧ rk y < k ∧ y < u)) ↔ ((rk x < k ∧ y = row k ∧ x < u + 1) ∨ (x = row k ∧ rk y < k ∧ y < u + 1)) := by omega
              simp only [hh]
        · have l1 : hm_ild (hp K R n s t) (q + 9) ((16 : Int32) * nI u + nI (row k)) = some (I0 (q + 9) (16 * u + row k)) := by rw [ix16, hp_ild S.K9 (by omega) (by omega), h1 _ (by omega)]
          have l2 : hm_ild (hp K R n s (up2 t (q + 11) (16 * u + row k) (I0 (q + 9) (16 * u + row k)))) (q + 9) ((16 : Int32) * nI (row k) + nI u) = some (I0 (q + 9) (16 * row k + u)) := by rw [ix16, hp_ild S.K9 (by omega) (by omega), up2_ne (by omega), h1 _ (by omega)]
          have s1 : ∀ v, hm_ist (hp K R n s t) (q + 11) ((16 : Int32) * nI u + nI (row k)) v = some (hp K R n s (up2 t (q + 11) (16 * u + row k) v)) := fun v => by rw [ix16, hp_ist S.K11 (by omega) (by omega)]
          have s2 : ∀ v t, hm_ist (hp K R n s t) (q + 11) ((16 : Int32) * nI (row k) + nI u) v = some (hp K R n s (up2 t (q + 11) (16 * row k + u) v)) := fun v t => by rw [ix16, hp_ist S.K11 (by omega) (by omega)]
          unfold g_R_contract_275 f_R_contract_348
          simp only [eR_gi S, Option.bind_some, w1, if_neg ge, eR_r11 S, g1, if_neg a1, if_true, if_neg (fun z => a2 (iu.mp z)), eR_r14 S, eR_r12 S, l1, s1, l2, s2, nI_1]
  · intro N t ⟨h1, h2⟩
    have w1 : t q 1 = nI m := by rw [h1 _ (by omega)]; exact hm
    refine ⟨t, ?_, h1, fun x y hx hy => ?_⟩
    · show g_R_contract_275 F k47 (f_R_contract_275 F k47 N) q x1 (nI (row k)) x3 (nI m) (hp K R n s t) = _
      unfold g_R_contract_275
      simp only [eR_gi S, Option.bind_some, w1, if_pos (Int32.le_refl (nI m))]
    · rw [h2 x y hx hy]
      have hh : ((rk x < k ∧ y = row k ∧ x < m) ∨ (x = row k ∧ rk y < k ∧ y < m)) ↔ ((rk x < k ∧ y = row k) ∨ (x = row k ∧ rk y < k)) := by omega
      simp only [hh]
theorem mem_lw {c : Nat → Nat → Bool} {e : Nat → Nat → cE} {u : Nat} {z : cE} : ∀ (w : Nat), z ∈ lw c e u w ↔ ∃ w', w' < w ∧ c u w' = true ∧ z = e u w'
  | 0 => by simp [lw]
  | w + 1 => by
    rw [lw, List.mem_append, mem_lw w]
    constructor
    · rintro (⟨w', h1, h2⟩ | h)
      · exact ⟨w', by omega, h2⟩
      · by_cases hc : c u w = true
        · rw [if_pos hc] at h
          exact ⟨w, by omega, hc, by simpa using h⟩
        · rw [if_neg hc] at h; cases h
    · rintro ⟨w', h1, h2, h3⟩
      by_cases e' : w' = w
      · subst e'; exact Or.inr (by rw [if_pos h2]; simpa using h3)
      · exact Or.inl ⟨w', by omega, h2, h3⟩
theorem mem_lu {c : Nat → Nat → Bool} {e : Nat → Nat → cE} {m : Nat} {z : cE} : ∀ (u : Nat), z ∈ lu c e m u ↔ ∃ u' w', u' < u ∧ w' < m ∧ c u' w' = true ∧ z = e u' w'
  | 0 => by simp [lu]
  | u + 1 => by
    rw [lu, List.mem_append, mem_lu u, mem_lw]
    constructor
    · rintro (⟨u', w', h1, h2⟩ | ⟨w', h1, h2⟩)
      · exact ⟨u', w', by omega, h2⟩
      · exact ⟨u, w', by omega, h1, h2⟩
    · rintro ⟨u', w', h1, h2, h3, h4⟩
      by_cases e' : u' = u
      · subst e'; exact Or.inr ⟨w', h2, h3, h4⟩
      · exact Or.inl ⟨u', w', by omega, h2, h3, h4⟩
theorem rk_list {I0 : Nat → Nat → Int32} {L E : List cE} {f : Nat → Nat → Int32} (k47 : Nat → Int32 → hm_T → Option hm_T) (hF : 1200 ≤ F) (S : shR K R q) (hlen : (L ++ E).length ≤ 1120) (h : holdR I0 q (L ++ E)) (hE : ∀ e ∈ E, e.1 < 16 ∧ e.2.1 < 16 ∧ nI e.2.2.1 = f e.1 e.2.1) :
    ∃ t', f_R_contract_354 F k47 q x1 (nI (row k)) (nI L.length) (hp K R n s I0) = f_R_contract_402 F k47 q x1 (nI (row k)) (hp K R n s t') ∧ (∀ x, x ≠ q + 9 → t' x = I0 x) ∧ ∀ x y, x < 16 → y < 16 → ((∃ e ∈ E, e.1 = x ∧ e.2.1 = y) → t' (q + 9) (16 * x + y) = f x y) ∧ (¬ (∃ e ∈ E, e.1 = x ∧ e.2.1 = y) → t' (q + 9) (16 * x + y) = I0 (q + 9) (16 * x + y)) := by
  unfold f_R_contract_354
  have hll : (L ++ E).length = L.length + E.length := List.length_append
  refine hl_up (fun N i t => f_R_contract_357 F k47 N q x1 (nI (row k)) (nI i) (hp K R n s t)) (fun z => ∃ t', z = f_R_contract_402 F k47 q x1 (nI (row k)) (hp K R n s t') ∧ (∀ x, x ≠ q + 9 → t' x = I0 x) ∧ ∀ x y, x < 16 → y < 16 → ((∃ e ∈ E, e.1 = x ∧ e.2.1 = y) → t' (q + 9) (16 * x + y) = f x y) ∧ (¬ (∃ e ∈ E, e.1 = x ∧ e.2.1 = y) → t' (q + 9) (16 * x + y) = I0 (q + 9) (16 * x + y))) (fun i t => L.length ≤ i ∧ (∀ x, x ≠ q + 9 → t x = I0 x) ∧ ∀ x y, x < 16 → y < 16 → ((∃ j e, j < i - L.length ∧ E[j]? = some e ∧ e.1 = x ∧ e.2.1 = y) → t (q + 9) (16 * x + y) = f x y) ∧ (¬ (∃ j e, j < i - L.length ∧ E[j]? = some e ∧ e.1 = x ∧ e.2.1 = y) → t (q + 9) (16 * x + y) = I0 (q + 9) (16 * x + y))) (L ++ E).length ?_ ?_ F L.length I0 (by omega) (by omega) ⟨Nat.le_refl _, fun _ _ => rfl, fun x y hx hy => ⟨fun ⟨j, e, h1, _⟩ => by omega, fun _ => rfl⟩⟩
  · intro N i t hi ⟨h0, h1, h2⟩
    obtain ⟨e, he⟩ : ∃ e, E[i - L.length]? = some e := ⟨E[i - L.length]'(by omega), List.getElem?_eq_getElem (by omega)⟩
    have hle : (L ++ E)[i]? = some e := by rw [List.getElem?_append_right h0]; exact he
    have hv := h.2 i e hle
    have hem := hE e (List.mem_of_getElem? he)
    refine Or.inr ⟨up2 t (q + 9) (16 * e.1 + e.2.1) (f e.1 e.2.1), ⟨by omega, fun x hx => by rw [up2_ne hx]; exact h1 x hx, fun x y hx hy => ?_⟩, ?_⟩
    · by_cases z : x = e.1 ∧ y = e.2.1
      · rw [z.1, z.2, up2_at]
        exact ⟨fun _ => rfl, fun w => absurd ⟨i - L.length, e, by omega, he, rfl, rfl⟩ w⟩
      · rw [up2_nj (by omega)]
        refine ⟨fun ⟨j, e2, a1, a2, a3, a4⟩ => (h2 x y hx hy).1 ⟨j, e2, ?_, a2, a3, a4⟩, fun w => (h2 x y hx hy).2 (fun ⟨j, e2, a1, a2⟩ => w ⟨j, e2, by omega, a2⟩)⟩
        by_cases ej : j = i - L.length
        · rw [ej, he] at a2
          cases a2
          exact absurd ⟨a3.symm, a4.symm⟩ z
        · omega
    · show g_R_contract_357 F k47 (f_R_contract_357 F k47 N) q x1 (nI (row k)) (nI i) (hp K R n s t) = _
      have w1 : t q 16 = nI (L ++ E).length := by rw [h1 _ (by omega)]; exact h.1
      have l1 : hm_ild (hp K R n s t) (q + 13) (nI i) = some (nI e.1) := by rw [hp_ild S.K13 (by omega) (by omega), h1 _ (by omega), hv.1]
      have l2 : hm_ild (hp K R n s t) (q + 14) (nI i) = some (nI e.2.1) := by rw [hp_ild S.K14 (by omega) (by omega), h1 _ (by omega), hv.2.1]
      have l3 : hm_ild (hp K R n s t) (q + 15) (nI i) = some (f e.1 e.2.1) := by rw [hp_ild S.K15 (by omega) (by omega), h1 _ (by omega), hv.2.2.1, hem.2.2]
      have s1 : ∀ v, hm_ist (hp K R n s t) (q + 9) ((16 : Int32) * nI e.1 + nI e.2.1) v = some (hp K R n s (up2 t (q + 9) (16 * e.1 + e.2.1) v)) := fun v => by rw [ix16, hp_ist S.K9 (by omega) (by omega)]
      unfold g_R_contract_357
      simp only [eR_gi S, Option.bind_some, w1, if_neg (nI_ge hi (show (L ++ E).length < 2 ^ 31 by omega)), eR_r12 S, eR_r17 S, l1, eR_r18 S, l2, eR_r19 S, l3, s1, nI_1]
  · intro N t ⟨h0, h1, h2⟩
    have w1 : t q 16 = nI (L ++ E).length := by rw [h1 _ (by omega)]; exact h.1
    refine ⟨t, ?_, h1, fun x y hx hy => ?_⟩
    · show g_R_contract_357 F k47 (f_R_contract_357 F k47 N) q x1 (nI (row k)) (nI (L ++ E).length) (hp K R n s t) = _
      unfold g_R_contract_357
      simp only [eR_gi S, Option.bind_some, w1, if_pos (Int32.le_refl _)]
    · have hh : (∃ e ∈ E, e.1 = x ∧ e.2.1 = y) ↔ ∃ j e, j < (L ++ E).length - L.length ∧ E[j]? = some e ∧ e.1 = x ∧ e.2.1 = y := by
        constructor
        · rintro ⟨e, he, a⟩
          obtain ⟨j, hj⟩ := List.getElem?_of_mem he
          exact ⟨j, e, by have := (List.getElem?_eq_some_iff.mp hj).1; omega, hj, a⟩
        · rintro ⟨j, e, _, he, a⟩
          exact ⟨e, List.mem_of_getElem? he, a⟩
      rw [hh]
      exact h2 x y hx hy
end RK
