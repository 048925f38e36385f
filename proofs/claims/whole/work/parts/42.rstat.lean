/-! THE REFERENCE: isStation -/
theorem enR_eq {x y : Option Nat} {c : Nat} (hx : on_ok 499999 x) (hy : on_ok 499999 y) (hc : c ≤ 999999) : enR x + enR y = nI c ↔ on_add x y = some c := by
  cases x with
  | none =>
    cases y with
    | none => simp only [enR, nI_add]; rw [nI_eq (by omega) (by omega)]; simp [on_add]; omega
    | some b => have := hy b rfl; simp only [enR, nI_add]; rw [nI_eq (by omega) (by omega)]; simp [on_add]; omega
  | some a =>
    have := hx a rfl
    cases y with
    | none => simp only [enR, nI_add]; rw [nI_eq (by omega) (by omega)]; simp [on_add]; omega
    | some b => have := hy b rfl; simp only [enR, nI_add]; rw [nI_eq (by omega) (by omega)]; simp [on_add]
theorem enR_far {x : Option Nat} (hx : on_ok 999999 x) : ((1000000 : Int32) ≤ enR x ↔ x = none) := by
  rw [n_far]
  cases x with
  | none => simp only [enR]; rw [nI_leI (by omega) (by omega)]; simp
  | some a => have := hx a rfl; simp only [enR]; rw [nI_leI (by omega) (by omega)]; simp; omega
theorem enR_lt {x : Option Nat} (hx : on_ok 999999 x) : (enR x < (1000000 : Int32) ↔ x ≠ none) := by
  rw [n_far]
  cases x with
  | none => simp only [enR]; rw [nI_ltI (by omega) (by omega)]; simp
  | some a => have := hx a rfl; simp only [enR]; rw [nI_ltI (by omega) (by omega)]; simp; omega
section RS
variable {K : Nat → Option ((Nat ⊕ Nat) × Nat)} {R : Nat → Nat → Option Nat} {n s F q m : Nat} {I : Nat → Nat → Int32} {row rk : Nat → Nat} {D : Nat → Nat → Option Nat}
/-- the reference's nodes, row and distances -/
def rD (q m : Nat) (I : Nat → Nat → Int32) (row rk : Nat → Nat) (D : Nat → Nat → Option Nat) : Prop :=
  I q 1 = nI m ∧ prm m row rk ∧ (∀ i, i < m → I (q + 2) i = nI (row i)) ∧ ∀ x y, x < m → y < m → I (q + 4) (16 * x + y) = enR (D x y) ∧ on_ok 499999 (D x y)
theorem rD.far {x y : Nat} (S : shR K R q) (H : rD q m I row rk D) (hx : x < m) (hy : y < m) : hm_ild (hp K R n s I) (q + 4) ((16 : Int32) * nI x + nI y) = some (enR (D x y)) := by
  have := H.2.1.1
  rw [ix16, hp_ild S.K4 (by omega) (by omega), (H.2.2.2 x y hx hy).1]
theorem rD.rw1 {i : Nat} (S : shR K R q) (H : rD q m I row rk D) (hi : i < m) : hm_ild (hp K R n s I) (q + 2) (nI i) = some (nI (row i)) := by
  have := H.2.1.1
  rw [hp_ild S.K2 (by omega) (by omega), H.2.2.1 i hi]
theorem rs_loop {a b h : Nat} (hF : 20 ≤ F) (S : shR K R q) (H : rD q m I row rk D) (ha : a < m) (hb : b < m) (hh : h < m) : f_R_isStation_20 F q (nI h) (nI a) (nI b) (hp K R n s I) = some (if D a b ≠ none ∧ ∀ k, k < rk h → on_add (D a (row k)) (D (row k) b) ≠ D a b then 1 else 0, hp K R n s I) := by
  have h16 := H.2.1.1
  have hrh := H.2.1.2.2 h hh
  unfold f_R_isStation_20 f_R_isStation_45
  simp only [eR_r6 S, Option.bind_some, H.far S ha hb]
  by_cases hc : D a b = none
  · rw [if_pos ((enR_far (on_ok_mono (H.2.2.2 a b ha hb).2 (by omega))).mpr hc), if_neg (fun z => z.1 hc)]
    obtain ⟨F', rfl⟩ : ∃ F', F = F' + 1 := ⟨F - 1, by omega⟩
    show g_R_isStation_50 (F' + 1) (f_R_isStation_50 (F' + 1) F') q (nI h) (nI a) (nI b) (0 : Int32) (0 : Int32) (hp K R n s I) = _
    unfold g_R_isStation_50
    have l0 : hm_ild (hp K R n s I) (q + 2) (0 : Int32) = some (nI (row 0)) := by
      have := H.rw1 (n := n) (s := s) S (show 0 < m by omega)
      rw [nI_0] at this; exact this
    simp only [eR_r3 S, Option.bind_some, l0, zr_0, if_true, ite_self]
  · obtain ⟨c, hcc⟩ : ∃ c, D a b = some c := by
      cases e : D a b with
      | none => exact absurd e hc
      | some c => exact ⟨c, rfl⟩
    have hcb := (H.2.2.2 a b ha hb).2 c hcc
    rw [if_neg (fun z => hc ((enR_far (on_ok_mono (H.2.2.2 a b ha hb).2 (by omega))).mp z)), ← nI_0]
    refine hl_up (fun N k (x6 : Int32) => f_R_isStation_50 F N q (nI h) (nI a) (nI b) x6 (nI k) (hp K R n s I)) (fun z => z = some (if D a b ≠ none ∧ ∀ k, k < rk h → on_add (D a (row k)) (D (row k) b) ≠ D a b then 1 else 0, hp K R n s I)) (fun k x6 => (x6 = 1 ∧ ∀ k', k' < k → on_add (D a (row k')) (D (row k') b) ≠ D a b) ∨ (x6 = 0 ∧ ∃ k', k' < rk h ∧ on_add (D a (row k')) (D (row k') b) = D a b)) (rk h) ?_ ?_ F 0 1 (by omega) (by omega) (Or.inl ⟨rfl, fun k' z => by omega⟩)
    · intro N k x6 hk hP
      have hkm : k < m := by omega
      have hrk := H.2.1.2.1 k hkm
      have hne : ¬ nI (row k) = nI h := by
        rw [nI_eq (by omega) (by omega)]
        intro e
        rw [e] at hrk
        omega
      rcases hP with ⟨rfl, hP⟩ | ⟨rfl, k', hk', he⟩
      · refine Or.inr ?_
        show ∃ t', _ ∧ g_R_isStation_50 F (f_R_isStation_50 F N) q (nI h) (nI a) (nI b) 1 (nI k) (hp K R n s I) = _
        have hiff := enR_eq (H.2.2.2 a (row k) ha hrk.1).2 (H.2.2.2 (row k) b hrk.1 hb).2 (show c ≤ 999999 by omega)
        have eab : enR (D a b) = nI c := by rw [hcc]; rfl
        by_cases z : on_add (D a (row k)) (D (row k) b) = D a b
        · refine ⟨0, Or.inr ⟨rfl, k, hk, z⟩, ?_⟩
          unfold g_R_isStation_50 f_R_isStation_123
          simp only [eR_r3 S, Option.bind_some, H.rw1 S hkm, if_neg hne, if_neg (show ¬ (1 : Int32) = 0 by decide), eR_r6 S, H.far S ha hrk.1, H.far S hrk.1 hb, H.far S ha hb, eab, if_pos (hiff.mpr (z.trans hcc)), nI_1]
        · refine ⟨1, Or.inl ⟨rfl, fun k' hk' => ?_⟩, ?_⟩
          · by_cases e : k' = k
            · subst e; exact z
            · exact hP k' (by omega)
          · unfold g_R_isStation_50 f_R_isStation_123
            simp only [eR_r3 S, Option.bind_some, H.rw1 S hkm, if_neg hne, if_neg (show ¬ (1 : Int32) = 0 by decide), eR_r6 S, H.far S ha hrk.1, H.far S hrk.1 hb, H.far S ha hb, eab, if_neg (fun w => z ((hiff.mp w).trans hcc.symm)), nI_1]
      · refine Or.inl ?_
        show g_R_isStation_50 F (f_R_isStation_50 F N) q (nI h) (nI a) (nI b) 0 (nI k) (hp K R n s I) = _
        rw [if_neg (fun w => w.2 k' hk' he)]
        unfold g_R_isStation_50
        simp only [eR_r3 S, Option.bind_some, H.rw1 S hkm, zr_0, if_true, ite_self]
    · intro N x6 hP
      show g_R_isStation_50 F (f_R_isStation_50 F N) q (nI h) (nI a) (nI b) x6 (nI (rk h)) (hp K R n s I) = _
      have hr : nI (row (rk h)) = nI h := by rw [hrh.2]
      rcases hP with ⟨rfl, hP⟩ | ⟨rfl, k', hk', he⟩
      · rw [if_pos ⟨hc, hP⟩]
        unfold g_R_isStation_50
        simp only [eR_r3 S, Option.bind_some, H.rw1 S hrh.1, if_pos hr, zr_1]
      · rw [if_neg (fun w => w.2 k' hk' he)]
        unfold g_R_isStation_50
        simp only [eR_r3 S, Option.bind_some, H.rw1 S hrh.1, if_pos hr, zr_0]
theorem sO_none {a b : Nat} : sO D row rk a b = none ↔ ¬ (D a b ≠ none ∧ ∀ k, k < rk b → on_add (D a (row k)) (D (row k) b) ≠ D a b) := by
  unfold sO
  by_cases h : ∀ k, k < rk b → on_add (D a (row k)) (D (row k) b) ≠ D a b
  · rw [if_pos h]
    exact ⟨fun z w => w.1 z, fun z => Classical.byContradiction (fun w => z ⟨w, h⟩)⟩
  · rw [if_neg h]
    exact ⟨fun _ w => h w.2, fun _ => rfl⟩
theorem sI_none {a b : Nat} : sI D row rk b a = none ↔ ¬ (D a b ≠ none ∧ ∀ k, k < rk a → on_add (D a (row k)) (D (row k) b) ≠ D a b) := by
  unfold sI
  by_cases h : ∀ k, k < rk a → on_add (D a (row k)) (D (row k) b) ≠ D a b
  · rw [if_pos h]
    exact ⟨fun z w => w.1 z, fun z => Classical.byContradiction (fun w => z ⟨w, h⟩)⟩
  · rw [if_neg h]
    exact ⟨fun _ w => h w.2, fun _ => rfl⟩
theorem R_st0 {v h : Nat} (hF : 20 ≤ F) (S : shR K R q) (H : rD q m I row rk D) (hv : v < m) (hh : h < m) : f_R_isStation F q (nI 0) (nI v) (nI h) (hp K R n s I) = some (if sO D row rk v h = none then 0 else 1, hp K R n s I) := by
  unfold f_R_isStation f_R_isStation_9
  rw [if_pos nI_0, if_pos nI_0, rs_loop hF S H hv hh hh]
  by_cases z : sO D row rk v h = none
  · rw [if_pos z, if_neg (sO_none.mp z)]
  · rw [if_neg z, if_pos (Classical.byContradiction (fun w => z (sO_none.mpr w)))]
theorem R_st1 {v h : Nat} (hF : 20 ≤ F) (S : shR K R q) (H : rD q m I row rk D) (hv : v < m) (hh : h < m) : f_R_isStation F q (nI 1) (nI v) (nI h) (hp K R n s I) = some (if sI D row rk v h = none then 0 else 1, hp K R n s I) := by
  unfold f_R_isStation f_R_isStation_9
  rw [if_neg (by decide +kernel), if_neg (by decide +kernel), rs_loop hF S H hh hv hh]
  by_cases z : sI D row rk v h = none
  · rw [if_pos z, if_neg (sI_none.mp z)]
  · rw [if_neg z, if_pos (Classical.byContradiction (fun w => z (sI_none.mpr w)))]
end RS
