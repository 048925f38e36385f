/-! THE REFERENCE: fill -/
def fwG (T : Nat → Nat → Option Nat) (ok : Nat → Bool) : Nat → Nat → Nat → Option Nat
  | 0 => T
  | k + 1 => fun x y => if ok k = true then on_min (fwG T ok k x y) (on_add (fwG T ok k x k) (fwG T ok k k y)) else fwG T ok k x y
theorem fwG_D (T : Nat → Nat → Option Nat) (ok : Nat → Bool) : ∀ (k a b : Nat), wk_D T (fun v => v < k ∧ ok v = true) a b (fwG T ok k a b)
  | 0, a, b => wk_D_0 (fun v h => by omega) a b
  | k + 1, a, b => by
    unfold fwG
    by_cases hk : ok k = true
    · rw [if_pos hk]
      refine wk_D_eq (wk_D_step (v := k) (T := fwG T ok k) (fwG_D T ok k a b) (fwG_D T ok k a k) (fwG_D T ok k k b)) (fun v => ⟨fun q => ?_, fun q => ?_⟩)
      · rcases q with ⟨h1, h2⟩ | h
        · exact ⟨by omega, h2⟩
        · subst h; exact ⟨by omega, hk⟩
      · by_cases e : v = k
        · exact Or.inr e
        · exact Or.inl ⟨by omega, q.2⟩
    · rw [if_neg hk]
      refine wk_D_eq (fwG_D T ok k a b) (fun v => ⟨fun q => ⟨by omega, q.2⟩, fun q => ⟨?_, q.2⟩⟩)
      by_cases e : v = k
      · subst e; exact absurd q.2 hk
      · omega
theorem on_min_addr (x z : Option Nat) : on_min x (on_add x z) = x := by
  cases x <;> cases z <;> simp [on_min, on_add]
  omega
theorem enR_sum {x y z : Option Nat} (hx : on_ok 499999 x) (hy : on_ok 499999 y) (hz : on_ok 999999 z) : (¬ enR z ≤ enR x + enR y) ↔ on_lt (on_add x y) z = true := by
  cases x with
  | none =>
    cases y with
    | none =>
      cases z with
      | none => simp only [enR, nI_add]; rw [nI_leI (by omega) (by omega)]; simp [on_add, on_lt]
      | some c => have := hz c rfl; simp only [enR, nI_add]; rw [nI_leI (by omega) (by omega)]; simp [on_add, on_lt]; omega
    | some b =>
      have := hy b rfl
      cases z with
      | none => simp only [enR, nI_add]; rw [nI_leI (by omega) (by omega)]; simp [on_add, on_lt]
      | some c => have := hz c rfl; simp only [enR, nI_add]; rw [nI_leI (by omega) (by omega)]; simp [on_add, on_lt]; omega
  | some a =>
    have := hx a rfl
    cases y with
    | none =>
      cases z with
      | none => simp only [enR, nI_add]; rw [nI_leI (by omega) (by omega)]; simp [on_add, on_lt]
      | some c => have := hz c rfl; simp only [enR, nI_add]; rw [nI_leI (by omega) (by omega)]; simp [on_add, on_lt]; omega
    | some b =>
      have := hy b rfl
      cases z with
      | none => simp only [enR, nI_add]; rw [nI_leI (by omega) (by omega)]; simp [on_add, on_lt]; omega
      | some c => have := hz c rfl; simp only [enR, nI_add]; rw [nI_leI (by omega) (by omega)]; simp [on_add, on_lt]
theorem enR_add {x y z : Option Nat} (h : on_lt (on_add x y) z = true) : enR x + enR y = enR (on_add x y) := by
  cases x with
  | none => cases z <;> simp [on_add, on_lt] at h
  | some a =>
    cases y with
    | none => cases z <;> simp [on_add, on_lt] at h
    | some b => exact nI_add a b
theorem ix16 (a b : Nat) : (16 : Int32) * nI a + nI b = nI (16 * a + b) := by rw [n_16, pk_mul, nI_add]
section RF
variable {K : Nat → Option ((Nat ⊕ Nat) × Nat)} {R : Nat → Nat → Option Nat} {n s F q m ta ga : Nat} {I : Nat → Nat → Int32} {x3 : Int32}
theorem rf_b {T : Nat → Nat → Option Nat} {k a N : Nat} {I0 t : Nat → Nat → Int32} (k40 : Nat → Nat → Int32 → Nat → Int32 → Int32 → hm_T → Option hm_T) (hq : K q = some (.inr 4, 25)) (ht : K ta = some (.inl 0, 256)) (htq : ta ≠ q) (hm16 : m ≤ 16) (hm : I0 q 1 = nI m) (hk : k < m) (ha : a < m) (hB : ∀ x y, x < m → y < m → on_ok 499999 (T x y)) (hB2 : ∀ x y, x < m → y < m → on_ok 499999 (on_min (T x y) (on_add (T x k) (T k y)))) (hN : 16 < N)
    (h : (∀ x, x ≠ ta → t x = I0 x) ∧ ∀ x y, x < m → y < m → (x < a → t ta (16 * x + y) = enR (on_min (T x y) (on_add (T x k) (T k y)))) ∧ (¬ x < a → t ta (16 * x + y) = enR (T x y))) :
    ∃ t', f_R_fill_66 F k40 N q ta x3 ga (nI k) (nI a) (nI 0) (hp K R n s t) = k40 q ta x3 ga (nI k) (nI (a + 1)) (hp K R n s t') ∧ (∀ x, x ≠ ta → t' x = I0 x) ∧ ∀ x y, x < m → y < m → (x < a + 1 → t' ta (16 * x + y) = enR (on_min (T x y) (on_add (T x k) (T k y)))) ∧ (¬ x < a + 1 → t' ta (16 * x + y) = enR (T x y)) := by
  refine hl_up (fun N b t => f_R_fill_66 F k40 N q ta x3 ga (nI k) (nI a) (nI b) (hp K R n s t)) (fun z => ∃ t', z = k40 q ta x3 ga (nI k) (nI (a + 1)) (hp K R n s t') ∧ (∀ x, x ≠ ta → t' x = I0 x) ∧ ∀ x y, x < m → y < m → (x < a + 1 → t' ta (16 * x + y) = enR (on_min (T x y) (on_add (T x k) (T k y)))) ∧ (¬ x < a + 1 → t' ta (16 * x + y) = enR (T x y))) (fun b t => (∀ x, x ≠ ta → t x = I0 x) ∧ ∀ x y, x < m → y < m → ((x < a ∨ (x = a ∧ y < b)) → t ta (16 * x + y) = enR (on_min (T x y) (on_add (T x k) (T k y)))) ∧ (¬ (x < a ∨ (x = a ∧ y < b)) → t ta (16 * x + y) = enR (T x y))) m ?_ ?_ N 0 t (by omega) (by omega) ⟨h.1, fun x y hx hy => ⟨fun z => (h.2 x y hx hy).1 (by omega), fun z => (h.2 x y hx hy).2 (by omega)⟩⟩
  · intro N b t hb ⟨h1, h2⟩
    have w1 : t q 1 = nI m := by rw [h1 _ htq.symm]; exact hm
    have vak : t ta (16 * a + k) = enR (T a k) := by
      by_cases z : a < a ∨ (a = a ∧ k < b)
      · rw [(h2 a k ha hk).1 z, on_min_addr]
      · exact (h2 a k ha hk).2 z
    have vkb : t ta (16 * k + b) = enR (T k b) := by
      by_cases z : k < a ∨ (k = a ∧ b < b)
      · rw [(h2 k b hk hb).1 z, on_min_add]
      · exact (h2 k b hk hb).2 z
    have vab : t ta (16 * a + b) = enR (T a b) := (h2 a b ha hb).2 (by omega)
    have l1 : hm_ild (hp K R n s t) ta ((16 : Int32) * nI a + nI k) = some (enR (T a k)) := by rw [ix16, hp_ild ht (by omega) (by omega), vak]
    have l2 : hm_ild (hp K R n s t) ta ((16 : Int32) * nI k + nI b) = some (enR (T k b)) := by rw [ix16, hp_ild ht (by omega) (by omega), vkb]
    have l3 : hm_ild (hp K R n s t) ta ((16 : Int32) * nI a + nI b) = some (enR (T a b)) := by rw [ix16, hp_ild ht (by omega) (by omega), vab]
    have st : ∀ v : Int32, hm_ist (hp K R n s t) ta ((16 : Int32) * nI a + nI b) v = some (hp K R n s (up2 t ta (16 * a + b) v)) := fun v => by rw [ix16, hp_ist ht (by omega) (by omega)]
    have hs := enR_sum (hB a k ha hk) (hB k b hk hb) (on_ok_mono (hB a b ha hb) (show 499999 ≤ 999999 by omega))
    have ge : ¬ nI m ≤ nI b := nI_ge hb (by omega)
    refine Or.inr ⟨up2 t ta (16 * a + b) (enR (on_min (T a b) (on_add (T a k) (T k b)))), ⟨fun x hx => by rw [up2_ne hx]; exact h1 x hx, fun x y hx hy => ?_⟩, ?_⟩
    · by_cases e : x = a ∧ y = b
      · rw [e.1, e.2, up2_at]
        exact ⟨fun _ => rfl, fun z => by omega⟩
      · rw [up2_nj (by omega)]
        exact ⟨fun z => (h2 x y hx hy).1 (by omega), fun z => (h2 x y hx hy).2 (by omega)⟩
    · show g_R_fill_66 F k40 (f_R_fill_66 F k40 N) q ta x3 ga (nI k) (nI a) (nI b) (hp K R n s t) = _
      unfold g_R_fill_66 f_R_fill_137
      by_cases hl : on_lt (on_add (T a k) (T k b)) (T a b) = true
      · have hmin : on_min (T a b) (on_add (T a k) (T k b)) = on_add (T a k) (T k b) := by rw [on_min_lt, if_pos hl]
        have hs' : ¬ enR (T a b) ≤ enR (on_add (T a k) (T k b)) := by rw [← enR_add hl]; exact hs.mpr hl
        simp only [hp_gi hq, Option.bind_some, w1, if_neg ge, l1, l2, l3, enR_add hl, if_neg hs', st, nI_1, hmin]
      · have hmin : on_min (T a b) (on_add (T a k) (T k b)) = T a b := by rw [on_min_lt, if_neg hl]
        have hle : enR (T a b) ≤ enR (T a k) + enR (T k b) := Classical.byContradiction (fun z => hl (hs.mp z))
        simp only [hp_gi hq, Option.bind_some, w1, if_neg ge, l1, l2, l3, if_pos hle, st, nI_1, hmin]
  · intro N t ⟨h1, h2⟩
    have w1 : t q 1 = nI m := by rw [h1 _ htq.symm]; exact hm
    refine ⟨t, ?_, h1, fun x y hx hy => ⟨fun z => (h2 x y hx hy).1 (by omega), fun z => (h2 x y hx hy).2 (by omega)⟩⟩
    show g_R_fill_66 F k40 (f_R_fill_66 F k40 N) q ta x3 ga (nI k) (nI a) (nI m) (hp K R n s t) = _
    unfold g_R_fill_66 f_R_fill_144
    simp only [hp_gi hq, Option.bind_some, w1, if_pos (Int32.le_refl (nI m)), nI_1]
theorem rf_a {T : Nat → Nat → Option Nat} {k N : Nat} {I0 t : Nat → Nat → Int32} (k28 : Nat → Nat → Int32 → Nat → Int32 → hm_T → Option hm_T) (hF : 20 ≤ F) (hq : K q = some (.inr 4, 25)) (ht : K ta = some (.inl 0, 256)) (hga : K ga = some (.inl 2, 16)) (htq : ta ≠ q) (htg : ta ≠ ga) (hm16 : m ≤ 16) (hm : I0 q 1 = nI m) (hk : k < m) (hB : ∀ x y, x < m → y < m → on_ok 499999 (T x y)) (hB2 : ∀ x y, x < m → y < m → on_ok 499999 (on_min (T x y) (on_add (T x k) (T k y)))) (hok : ¬ nI k = x3) (hgk : I0 ga k = 0) (hN : 16 < N)
    (h : (∀ x, x ≠ ta → t x = I0 x) ∧ ∀ x y, x < m → y < m → t ta (16 * x + y) = enR (T x y)) :
    ∃ t', f_R_fill_40 F k28 N q ta x3 ga (nI k) (nI 0) (hp K R n s t) = k28 q ta x3 ga (nI (k + 1)) (hp K R n s t') ∧ (∀ x, x ≠ ta → t' x = I0 x) ∧ ∀ x y, x < m → y < m → t' ta (16 * x + y) = enR (on_min (T x y) (on_add (T x k) (T k y))) := by
  refine hl_up (fun N a t => f_R_fill_40 F k28 N q ta x3 ga (nI k) (nI a) (hp K R n s t)) (fun z => ∃ t', z = k28 q ta x3 ga (nI (k + 1)) (hp K R n s t') ∧ (∀ x, x ≠ ta → t' x = I0 x) ∧ ∀ x y, x < m → y < m → t' ta (16 * x + y) = enR (on_min (T x y) (on_add (T x k) (T k y)))) (fun a t => (∀ x, x ≠ ta → t x = I0 x) ∧ ∀ x y, x < m → y < m → (x < a → t ta (16 * x + y) = enR (on_min (T x y) (on_add (T x k) (T k y)))) ∧ (¬ x < a → t ta (16 * x + y) = enR (T x y))) m ?_ ?_ N 0 t (by omega) (by omega) ⟨h.1, fun x y hx hy => ⟨fun z => by omega, fun _ => h.2 x y hx hy⟩⟩
  · intro N a t ha h2
    have w1 : t q 1 = nI m := by rw [h2.1 _ htq.symm]; exact hm
    have w2 : hm_zld (hp K R n s t) ga (nI k) = some 0 := by rw [hp_zld hga (by omega) (by omega), h2.1 _ htg.symm, hgk]
    obtain ⟨t', e1, e2, e3⟩ := rf_b (F := F) (n := n) (s := s) (R := R) (x3 := x3) (ga := ga) (N := F) (f_R_fill_40 F k28 N) hq ht htq hm16 hm hk ha hB hB2 (by omega) h2
    refine Or.inr ⟨t', ⟨e2, e3⟩, ?_⟩
    show g_R_fill_40 F k28 (f_R_fill_40 F k28 N) q ta x3 ga (nI k) (nI a) (hp K R n s t) = _
    unfold g_R_fill_40
    simp only [hp_gi hq, Option.bind_some, w1, if_neg (nI_ge ha (show m < 2 ^ 31 by omega)), if_neg hok, w2, if_true]
    rw [← nI_0]
    exact e1
  · intro N t h2
    have w1 : t q 1 = nI m := by rw [h2.1 _ htq.symm]; exact hm
    refine ⟨t, ?_, h2.1, fun x y hx hy => (h2.2 x y hx hy).1 hx⟩
    show g_R_fill_40 F k28 (f_R_fill_40 F k28 N) q ta x3 ga (nI k) (nI m) (hp K R n s t) = _
    unfold g_R_fill_40 f_R_fill_150
    simp only [hp_gi hq, Option.bind_some, w1, if_pos (Int32.le_refl (nI m)), nI_1]
theorem rf_skip {k N : Nat} {t : Nat → Nat → Int32} (k28 : Nat → Nat → Int32 → Nat → Int32 → hm_T → Option hm_T) (hq : K q = some (.inr 4, 25)) (hga : K ga = some (.inl 2, 16)) (hm16 : m ≤ 16) (hm : t q 1 = nI m) (hk : k < m) (hno : nI k = x3 ∨ ¬ t ga k = 0) : f_R_fill_40 F k28 (N + 1) q ta x3 ga (nI k) (nI 0) (hp K R n s t) = k28 q ta x3 ga (nI (k + 1)) (hp K R n s t) := by
  show g_R_fill_40 F k28 (f_R_fill_40 F k28 N) q ta x3 ga (nI k) (nI 0) (hp K R n s t) = _
  unfold g_R_fill_40 f_R_fill_150
  have w2 : hm_zld (hp K R n s t) ga (nI k) = some (t ga k) := by rw [hp_zld hga (by omega) (by omega)]
  by_cases z : nI k = x3
  · simp only [hp_gi hq, Option.bind_some, hm, if_neg (nI_ge (show 0 < m by omega) (show m < 2 ^ 31 by omega)), if_pos z, nI_1]
  · simp only [hp_gi hq, Option.bind_some, hm, if_neg (nI_ge (show 0 < m by omega) (show m < 2 ^ 31 by omega)), if_neg z, w2, if_neg (hno.resolve_left z), nI_1]
theorem R_fill {fa : Nat} {T : Nat → Nat → Option Nat} {ok : Nat → Bool} (hF : 300 ≤ F) (hq : K q = some (.inr 4, 25)) (hf : K fa = some (.inl 0, 256)) (ht : K ta = some (.inl 0, 256)) (hga : K ga = some (.inl 2, 16)) (htq : ta ≠ q) (htg : ta ≠ ga) (hft : fa ≠ ta) (hm16 : m ≤ 16) (hm : I q 1 = nI m) (hT : ∀ x y, x < m → y < m → I fa (16 * x + y) = enR (T x y)) (hok : ∀ k, k < m → (ok k = true ↔ ¬ nI k = x3 ∧ I ga k = 0)) (hB : ∀ k, k ≤ m → ∀ x y, x < m → y < m → on_ok 499999 (fwG T ok k x y)) :
    ∃ I', f_R_fill F q fa ta x3 ga (hp K R n s I) = some (hp K R n s I') ∧ (∀ x, x ≠ ta → I' x = I x) ∧ ∀ x y, x < m → y < m → I' ta (16 * x + y) = enR (fwG T ok m x y) := by
  have k2 : ∀ t : Nat → Nat → Int32, (∀ x, x ≠ ta → t x = I x) → (∀ x y, x < m → y < m → t ta (16 * x + y) = enR (T x y)) → ∃ I', f_R_fill_28 F F q ta x3 ga (nI 0) (hp K R n s t) = some (hp K R n s I') ∧ (∀ x, x ≠ ta → I' x = I x) ∧ ∀ x y, x < m → y < m → I' ta (16 * x + y) = enR (fwG T ok m x y) := by
    intro t0 z1 z2
    refine hl_up (fun N k t => f_R_fill_28 F N q ta x3 ga (nI k) (hp K R n s t)) (fun z => ∃ I', z = some (hp K R n s I') ∧ (∀ x, x ≠ ta → I' x = I x) ∧ ∀ x y, x < m → y < m → I' ta (16 * x + y) = enR (fwG T ok m x y)) (fun k t => (∀ x, x ≠ ta → t x = I x) ∧ ∀ x y, x < m → y < m → t ta (16 * x + y) = enR (fwG T ok k x y)) m ?_ ?_ F 0 t0 (by omega) (by omega) ⟨z1, z2⟩
    · intro N k t hk h2
      have w1 : t q 1 = nI m := by rw [h2.1 _ htq.symm]; exact hm
      by_cases z : ok k = true
      · have zz := (hok k hk).mp z
        have hstep : ∀ x y, fwG T ok (k + 1) x y = on_min (fwG T ok k x y) (on_add (fwG T ok k x k) (fwG T ok k k y)) := fun x y => if_pos z
        obtain ⟨t', e1, e2, e3⟩ := rf_a (F := F) (n := n) (s := s) (R := R) (x3 := x3) (N := F) (T := fwG T ok k) (f_R_fill_28 F N) (by omega) hq ht hga htq htg hm16 hm hk (hB k (by omega)) (fun x y hx hy => by rw [← hstep]; exact hB (k + 1) (by omega) x y hx hy) zz.1 zz.2 (by omega) h2
        refine Or.inr ⟨t', ⟨e2, fun x y hx hy => by rw [e3 x y hx hy, hstep]⟩, ?_⟩
        show g_R_fill_28 F (f_R_fill_28 F N) q ta x3 ga (nI k) (hp K R n s t) = _
        unfold g_R_fill_28
        simp only [hp_gi hq, Option.bind_some, w1, if_neg (nI_ge hk (show m < 2 ^ 31 by omega))]
        rw [← nI_0]
        exact e1
      · have hstep : ∀ x y, fwG T ok (k + 1) x y = fwG T ok k x y := fun x y => if_neg z
        refine Or.inr ⟨t, ⟨h2.1, fun x y hx hy => by rw [h2.2 x y hx hy, hstep]⟩, ?_⟩
        show g_R_fill_28 F (f_R_fill_28 F N) q ta x3 ga (nI k) (hp K R n s t) = _
        unfold g_R_fill_28
        simp only [hp_gi hq, Option.bind_some, w1, if_neg (nI_ge hk (show m < 2 ^ 31 by omega))]
        obtain ⟨F', rfl⟩ : ∃ F', F = F' + 1 := ⟨F - 1, by omega⟩
        rw [← nI_0]
        refine rf_skip _ hq hga hm16 w1 hk ?_
        by_cases a1 : nI k = x3
        · exact Or.inl a1
        · exact Or.inr (fun a2 => z ((hok k hk).mpr ⟨a1, by rw [← h2.1 _ htg.symm]; exact a2⟩))
    · intro N t h2
      have w1 : t q 1 = nI m := by rw [h2.1 _ htq.symm]; exact hm
      refine ⟨t, ?_, h2.1, h2.2⟩
      show g_R_fill_28 F (f_R_fill_28 F N) q ta x3 ga (nI m) (hp K R n s t) = _
      unfold g_R_fill_28
      simp only [hp_gi hq, Option.bind_some, w1, if_pos (Int32.le_refl (nI m))]
  unfold f_R_fill
  rw [← nI_0]
  refine hl_up (fun N i t => f_R_fill_3 F N q fa ta x3 ga (nI i) (hp K R n s t)) (fun z => ∃ I', z = some (hp K R n s I') ∧ (∀ x, x ≠ ta → I' x = I x) ∧ ∀ x y, x < m → y < m → I' ta (16 * x + y) = enR (fwG T ok m x y)) (fun i t => (∀ x, x ≠ ta → t x = I x) ∧ ∀ j, j < i → t ta j = I fa j) 256 ?_ ?_ F 0 I (by omega) (by omega) ⟨fun _ _ => rfl, fun j h => by omega⟩
  · intro N i t hi h2
    refine Or.inr ⟨up2 t ta i (I fa i), ⟨fun x hx => by rw [up2_ne hx]; exact h2.1 x hx, fun j hj => ?_⟩, ?_⟩
    · by_cases e : j = i
      · subst e; exact up2_at _ _ _ _
      · rw [up2_nj e]; exact h2.2 j (by omega)
    · show g_R_fill_3 F (f_R_fill_3 F N) q fa ta x3 ga (nI i) (hp K R n s t) = _
      unfold g_R_fill_3
      simp only [if_neg (show ¬ (256 : Int32) ≤ nI i by rw [n_256]; exact nI_ge hi (by omega)), hp_ild hf hi (show 256 < 2 ^ 31 by omega), Option.bind_some, hp_ist ht hi (show 256 < 2 ^ 31 by omega), h2.1 fa hft, nI_1]
  · intro N t h2
    obtain ⟨I', e1, e2, e3⟩ := k2 t h2.1 (fun x y hx hy => by rw [h2.2 _ (by omega)]; exact hT x y hx hy)
    refine ⟨I', ?_, e2, e3⟩
    show g_R_fill_3 F (f_R_fill_3 F N) q fa ta x3 ga (nI 256) (hp K R n s t) = _
    unfold g_R_fill_3 f_R_fill_25
    rw [if_pos (by rw [n_256]; exact Int32.le_refl _), ← nI_0]
    exact e1
end RF
