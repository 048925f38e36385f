theorem ra_ok {K : Nat → Option ((Nat ⊕ Nat) × Nat)} {R : Nat → Nat → Option Nat} {n s F N x g : Nat} {I : Nat → Nat → Int32} (hN : 300 ≤ N) (hx : K x = some (.inr 4, 25)) (hr : R x 2 = some g) (hk : K g = some (.inl 0, 256)) : ∃ I', f_R_init_170 F N x (0 : Int32) (hp K R n s I) = some (hp K R n s I') ∧ (∀ a, a ≠ g → I' a = I a) ∧ ∀ k, k < 256 → I' g k = nI 1000000 := by
  rw [← nI_0]
  refine hl_up (fun N i t => f_R_init_170 F N x (nI i) (hp K R n s t)) (fun b => ∃ I', b = some (hp K R n s I') ∧ (∀ a, a ≠ g → I' a = I a) ∧ ∀ k, k < 256 → I' g k = nI 1000000) (fun i t => (∀ a, a ≠ g → t a = I a) ∧ ∀ k, k < i → t g k = nI 1000000) 256 ?_ ?_ N 0 I (by omega) (by omega) ⟨fun _ _ => rfl, fun i h => by omega⟩
  · intro N i t hi ⟨h1, h2⟩
    refine Or.inr ⟨up2 t g i (1000000 : Int32), ⟨fun a ha => by rw [up2_ne ha]; exact h1 a ha, fun k hk' => ?_⟩, ?_⟩
    · by_cases e : k = i
      · subst e; rw [up2_at]; exact n_far
      · rw [up2_nj e]; exact h2 k (by omega)
    · show g_R_init_170 F (f_R_init_170 F N) x (nI i) (hp K R n s t) = _
      unfold g_R_init_170
      rw [if_neg (by rw [n_256, nI_leI (by omega) (by omega)]; omega), hp_gr hx hr, Option.bind_some, hp_ist hk hi (by omega), Option.bind_some, nI_1]
  · intro N t ⟨h1, h2⟩
    refine ⟨t, ?_, h1, h2⟩
    show g_R_init_170 F (f_R_init_170 F N) x (nI 256) (hp K R n s t) = _
    unfold g_R_init_170
    rw [if_pos (by rw [n_256]; exact Int32.le_refl _)]
set_option maxHeartbeats 4000000 in
theorem R_ok {K : Nat → Option ((Nat ⊕ Nat) × Nat)} {R : Nat → Nat → Option Nat} {n s F x : Nat} {I : Nat → Nat → Int32} (hF : 300 ≤ F) (hxn : x < n) (hx : K x = some (.inr 4, 25)) (hx1 : I x 1 = (0 : Int32)) (hx5 : I x 5 = (0 : Int32)) : ∃ K' R' I', f_R_init F x (hp K R n s I) = some (hp K' R' (n + 18) (s + 20016) I') ∧ (∀ a, a < n → K' a = K a) ∧ (∀ a, a < n → a ≠ x → R' a = R a ∧ I' a = I a) ∧ K' (x) = some (.inr 4, 25) ∧ I' (x) 1 = (0 : Int32) ∧ I' (x) 5 = (0 : Int32) ∧ K' (n) = some (.inl 0, 256) ∧ R' (x) 2 = some (n) ∧ K' (n + 1) = some (.inl 0, 16) ∧ (∀ i, I' (n + 1) i = 0) ∧ R' (x) 3 = some (n + 1) ∧ K' (n + 2) = some (.inl 2, 16) ∧ (∀ i, I' (n + 2) i = 0) ∧ R' (x) 4 = some (n + 2) ∧ K' (n + 3) = some (.inl 0, 256) ∧ (∀ i, I' (n + 3) i = 0) ∧ R' (x) 6 = some (n + 3) ∧ K' (n + 4) = some (.inl 0, 512) ∧ (∀ i, I' (n + 4) i = 0) ∧ R' (x) 7 = some (n + 4) ∧ K' (n + 5) = some (.inl 0, 512) ∧ (∀ i, I' (n + 5) i = 0) ∧ R' (x) 8 = some (n + 5) ∧ K' (n + 6) = some (.inl 0, 512) ∧ (∀ i, I' (n + 6) i = 0) ∧ R' (x) 9 = some (n + 6) ∧ K' (n + 7) = some (.inl 2, 16) ∧ (∀ i, I' (n + 7) i = 0) ∧ R' (x) 11 = some (n + 7) ∧ K' (n + 8) = some (.inl 0, 256) ∧ (∀ i, I' (n + 8) i = 0) ∧ R' (x) 12 = some (n + 8) ∧ K' (n + 9) = some (.inl 0, 256) ∧ (∀ i, I' (n + 9) i = 0) ∧ R' (x) 13 = some (n + 9) ∧ K' (n + 10) = some (.inl 0, 256) ∧ (∀ i, I' (n + 10) i = 0) ∧ R' (x) 14 = some (n + 10) ∧ K' (n + 11) = some (.inl 0, 256) ∧ (∀ i, I' (n + 11) i = 0) ∧ R' (x) 15 = some (n + 11) ∧ K' (n + 12) = some (.inl 0, 4096) ∧ (∀ i, I' (n + 12) i = 0) ∧ R' (x) 17 = some (n + 12) ∧ K' (n + 13) = some (.inl 0, 4096) ∧ (∀ i, I' (n + 13) i = 0) ∧ R' (x) 18 = some (n + 13) ∧ K' (n + 14) = some (.inl 0, 4096) ∧ (∀ i, I' (n + 14) i = 0) ∧ R' (x) 19 = some (n + 14) ∧ K' (n + 15) = some (.inl 0, 4096) ∧ (∀ i, I' (n + 15) i = 0) ∧ R' (x) 20 = some (n + 15) ∧ K' (n + 16) = some (.inl 0, 256) ∧ (∀ i, I' (n + 16) i = 0) ∧ R' (x) 21 = some (n + 16) ∧ K' (n + 17) = some (.inl 0, 256) ∧ (∀ i, I' (n + 17) i = 0) ∧ R' (x) 22 = some (n + 17) ∧ I' (x) 0 = (0 : Int32) ∧ (∀ k, k < 256 → I' (n) k = nI 1000000) := by
  have fK : ∀ a, a < n → K a = K a := fun _ _ => rfl
  have fX : ∀ a, a < n → a ≠ x → R a = R a ∧ I a = I a := fun _ _ _ => ⟨rfl, rfl⟩
  obtain ⟨K1, R1, I1, et0, ut0, qt0⟩ := na_ok (K := K) (R := R) (I := I) (n := n) (s := s) 0 256 (256 : Int32) (by decide +kernel) (by decide)
  have hx : K1 (x) = some (.inr 4, 25) := ((fun a h => (ut0 a h).1) _ (by omega)).trans hx
  have hx1 : I1 (x) 1 = (0 : Int32) := (congrFun ((fun a h => (ut0 a h).2.2) _ (by omega)) _).trans hx1
  have hx5 : I1 (x) 5 = (0 : Int32) := (congrFun ((fun a h => (ut0 a h).2.2) _ (by omega)) _).trans hx5
  have fK : ∀ a, a < n → K1 a = K a := fun a h => ((fun a h => (ut0 a h).1) a (by omega)).trans (fK a h)
  have fX : ∀ a, a < n → a ≠ x → R1 a = R a ∧ I1 a = I a := fun a h hx => ⟨((fun a h => (ut0 a h).2.1) a (by omega)).trans (fX a h hx).1, ((fun a h => (ut0 a h).2.2) a (by omega)).trans (fX a h hx).2⟩
  have k1 : K1 (n) = some (.inl 0, 256) := qt0.1
  have z1 : (∀ i, I1 (n) i = 0) := qt0.2
  obtain ⟨R2, e9⟩ : ∃ Z, Z = upR R1 x 2 (some (n)) := ⟨_, rfl⟩
  obtain ⟨K2, ek⟩ : ∃ Z, Z = K1 := ⟨_, rfl⟩
  obtain ⟨I2, ei⟩ : ∃ Z, Z = I1 := ⟨_, rfl⟩
  have e_2 : hm_pr 4 25 2 (hp K1 R1 (n + 1) (s + 256) I1) x (n) = some (hp K2 R2 (n + 1) (s + 256) I2) := by rw [hp_pr hx, ← e9, ← ek, ← ei]
  have hx : K2 (x) = some (.inr 4, 25) := by rw [ek]; exact hx
  have hx1 : I2 (x) 1 = (0 : Int32) := by rw [ei]; exact hx1
  have hx5 : I2 (x) 5 = (0 : Int32) := by rw [ei]; exact hx5
  have k1 : K2 (n) = some (.inl 0, 256) := by rw [ek]; exact k1
  have z1 : (∀ i, I2 (n) i = 0) := by rw [ei]; exact z1
  have r2 : R2 (x) 2 = some (n) := by rw [e9, upR_at]
  have fK : ∀ a, a < n → K2 a = K a := by rw [ek]; exact fK
  have fX : ∀ a, a < n → a ≠ x → R2 a = R a ∧ I2 a = I a := fun a h hx => ⟨(show R2 a = R1 a by rw [e9, upR_ne hx]).trans (fX a h hx).1, (congrFun ei a).trans (fX a h hx).2⟩
  clear e9 ek ei
  obtain ⟨K3, R3, I3, et2, ut2, qt2⟩ := na_ok (K := K2) (R := R2) (I := I2) (n := n + 1) (s := s + 256) 0 16 (16 : Int32) (by decide +kernel) (by decide)
  have hx : K3 (x) = some (.inr 4, 25) := ((fun a h => (ut2 a h).1) _ (by omega)).trans hx
  have hx1 : I3 (x) 1 = (0 : Int32) := (congrFun ((fun a h => (ut2 a h).2.2) _ (by omega)) _).trans hx1
  have hx5 : I3 (x) 5 = (0 : Int32) := (congrFun ((fun a h => (ut2 a h).2.2) _ (by omega)) _).trans hx5
  have k1 : K3 (n) = some (.inl 0, 256) := ((fun a h => (ut2 a h).1) _ (by omega)).trans k1
  have z1 : (∀ i, I3 (n) i = 0) := fun i => (congrFun ((fun a h => (ut2 a h).2.2) _ (by omega)) i).trans (z1 i)
  have r2 : R3 (x) 2 = some (n) := (congrFun ((fun a h => (ut2 a h).2.1) _ (by omega)) _).trans r2
  have fK : ∀ a, a < n → K3 a = K a := fun a h => ((fun a h => (ut2 a h).1) a (by omega)).trans (fK a h)
  have fX : ∀ a, a < n → a ≠ x → R3 a = R a ∧ I3 a = I a := fun a h hx => ⟨((fun a h => (ut2 a h).2.1) a (by omega)).trans (fX a h hx).1, ((fun a h => (ut2 a h).2.2) a (by omega)).trans (fX a h hx).2⟩
  have k3 : K3 (n + 1) = some (.inl 0, 16) := qt2.1
  have z3 : (∀ i, I3 (n + 1) i = 0) := qt2.2
  obtain ⟨R4, e9⟩ : ∃ Z, Z = upR R3 x 3 (some (n + 1)) := ⟨_, rfl⟩
  obtain ⟨K4, ek⟩ : ∃ Z, Z = K3 := ⟨_, rfl⟩
  obtain ⟨I4, ei⟩ : ∃ Z, Z = I3 := ⟨_, rfl⟩
  have e_4 : hm_pr 4 25 3 (hp K3 R3 (n + 2) (s + 272) I3) x (n + 1) = some (hp K4 R4 (n + 2) (s + 272) I4) := by rw [hp_pr hx, ← e9, ← ek, ← ei]
  have hx : K4 (x) = some (.inr 4, 25) := by rw [ek]; exact hx
  have hx1 : I4 (x) 1 = (0 : Int32) := by rw [ei]; exact hx1
  have hx5 : I4 (x) 5 = (0 : Int32) := by rw [ei]; exact hx5
  have k1 : K4 (n) = some (.inl 0, 256) := by rw [ek]; exact k1
  have z1 : (∀ i, I4 (n) i = 0) := by rw [ei]; exact z1
  have r2 : R4 (x) 2 = some (n) := by rw [e9, upR_nj (by decide)]; exact r2
  have k3 : K4 (n + 1) = some (.inl 0, 16) := by rw [ek]; exact k3
  have z3 : (∀ i, I4 (n + 1) i = 0) := by rw [ei]; exact z3
  have r3 : R4 (x) 3 = some (n + 1) := by rw [e9, upR_at]
  have fK : ∀ a, a < n → K4 a = K a := by rw [ek]; exact fK
  have fX : ∀ a, a < n → a ≠ x → R4 a = R a ∧ I4 a = I a := fun a h hx => ⟨(show R4 a = R3 a by rw [e9, upR_ne hx]).trans (fX a h hx).1, (congrFun ei a).trans (fX a h hx).2⟩
  clear e9 ek ei
  obtain ⟨K5, R5, I5, et4, ut4, qt4⟩ := na_ok (K := K4) (R := R4) (I := I4) (n := n + 2) (s := s + 272) 2 16 (16 : Int32) (by decide +kernel) (by decide)
  have hx : K5 (x) = some (.inr 4, 25) := ((fun a h => (ut4 a h).1) _ (by omega)).trans hx
  have hx1 : I5 (x) 1 = (0 : Int32) := (congrFun ((fun a h => (ut4 a h).2.2) _ (by omega)) _).trans hx1
  have hx5 : I5 (x) 5 = (0 : Int32) := (congrFun ((fun a h => (ut4 a h).2.2) _ (by omega)) _).trans hx5
  have k1 : K5 (n) = some (.inl 0, 256) := ((fun a h => (ut4 a h).1) _ (by omega)).trans k1
  have z1 : (∀ i, I5 (n) i = 0) := fun i => (congrFun ((fun a h => (ut4 a h).2.2) _ (by omega)) i).trans (z1 i)
  have r2 : R5 (x) 2 = some (n) := (congrFun ((fun a h => (ut4 a h).2.1) _ (by omega)) _).trans r2
  have k3 : K5 (n + 1) = some (.inl 0, 16) := ((fun a h => (ut4 a h).1) _ (by omega)).trans k3
  have z3 : (∀ i, I5 (n + 1) i = 0) := fun i => (congrFun ((fun a h => (ut4 a h).2.2) _ (by omega)) i).trans (z3 i)
  have r3 : R5 (x) 3 = some (n + 1) := (congrFun ((fun a h => (ut4 a h).2.1) _ (by omega)) _).trans r3
  have fK : ∀ a, a < n → K5 a = K a := fun a h => ((fun a h => (ut4 a h).1) a (by omega)).trans (fK a h)
  have fX : ∀ a, a < n → a ≠ x → R5 a = R a ∧ I5 a = I a := fun a h hx => ⟨((fun a h => (ut4 a h).2.1) a (by omega)).trans (fX a h hx).1, ((fun a h => (ut4 a h).2.2) a (by omega)).trans (fX a h hx).2⟩
  have k5 : K5 (n + 2) = some (.inl 2, 16) := qt4.1
  have z5 : (∀ i, I5 (n + 2) i = 0) := qt4.2
  obtain ⟨R6, e9⟩ : ∃ Z, Z = upR R5 x 4 (some (n + 2)) := ⟨_, rfl⟩
  obtain ⟨K6, ek⟩ : ∃ Z, Z = K5 := ⟨_, rfl⟩
  obtain ⟨I6, ei⟩ : ∃ Z, Z = I5 := ⟨_, rfl⟩
  have e_6 : hm_pr 4 25 4 (hp K5 R5 (n + 3) (s + 288) I5) x (n + 2) = some (hp K6 R6 (n + 3) (s + 288) I6) := by rw [hp_pr hx, ← e9, ← ek, ← ei]
  have hx : K6 (x) = some (.inr 4, 25) := by rw [ek]; exact hx
  have hx1 : I6 (x) 1 = (0 : Int32) := by rw [ei]; exact hx1
  have hx5 : I6 (x) 5 = (0 : Int32) := by rw [ei]; exact hx5
  have k1 : K6 (n) = some (.inl 0, 256) := by rw [ek]; exact k1
  have z1 : (∀ i, I6 (n) i = 0) := by rw [ei]; exact z1
  have r2 : R6 (x) 2 = some (n) := by rw [e9, upR_nj (by decide)]; exact r2
  have k3 : K6 (n + 1) = some (.inl 0, 16) := by rw [ek]; exact k3
  have z3 : (∀ i, I6 (n + 1) i = 0) := by rw [ei]; exact z3
  have r3 : R6 (x) 3 = some (n + 1) := by rw [e9, upR_nj (by decide)]; exact r3
  have k5 : K6 (n + 2) = some (.inl 2, 16) := by rw [ek]; exact k5
  have z5 : (∀ i, I6 (n + 2) i = 0) := by rw [ei]; exact z5
  have r4 : R6 (x) 4 = some (n + 2) := by rw [e9, upR_at]
  have fK : ∀ a, a < n → K6 a = K a := by rw [ek]; exact fK
  have fX : ∀ a, a < n → a ≠ x → R6 a = R a ∧ I6 a = I a := fun a h hx => ⟨(show R6 a = R5 a by rw [e9, upR_ne hx]).trans (fX a h hx).1, (congrFun ei a).trans (fX a h hx).2⟩
  clear e9 ek ei
  obtain ⟨K7, R7, I7, et6, ut6, qt6⟩ := na_ok (K := K6) (R := R6) (I := I6) (n := n + 3) (s := s + 288) 0 256 (256 : Int32) (by decide +kernel) (by decide)
  have hx : K7 (x) = some (.inr 4, 25) := ((fun a h => (ut6 a h).1) _ (by omega)).trans hx
  have hx1 : I7 (x) 1 = (0 : Int32) := (congrFun ((fun a h => (ut6 a h).2.2) _ (by omega)) _).trans hx1
  have hx5 : I7 (x) 5 = (0 : Int32) := (congrFun ((fun a h => (ut6 a h).2.2) _ (by omega)) _).trans hx5
  have k1 : K7 (n) = some (.inl 0, 256) := ((fun a h => (ut6 a h).1) _ (by omega)).trans k1
  have z1 : (∀ i, I7 (n) i = 0) := fun i => (congrFun ((fun a h => (ut6 a h).2.2) _ (by omega)) i).trans (z1 i)
  have r2 : R7 (x) 2 = some (n) := (congrFun ((fun a h => (ut6 a h).2.1) _ (by omega)) _).trans r2
  have k3 : K7 (n + 1) = some (.inl 0, 16) := ((fun a h => (ut6 a h).1) _ (by omega)).trans k3
  have z3 : (∀ i, I7 (n + 1) i = 0) := fun i => (congrFun ((fun a h => (ut6 a h).2.2) _ (by omega)) i).trans (z3 i)
  have r3 : R7 (x) 3 = some (n + 1) := (congrFun ((fun a h => (ut6 a h).2.1) _ (by omega)) _).trans r3
  have k5 : K7 (n + 2) = some (.inl 2, 16) := ((fun a h => (ut6 a h).1) _ (by omega)).trans k5
  have z5 : (∀ i, I7 (n + 2) i = 0) := fun i => (congrFun ((fun a h => (ut6 a h).2.2) _ (by omega)) i).trans (z5 i)
  have r4 : R7 (x) 4 = some (n + 2) := (congrFun ((fun a h => (ut6 a h).2.1) _ (by omega)) _).trans r4
  have fK : ∀ a, a < n → K7 a = K a := fun a h => ((fun a h => (ut6 a h).1) a (by omega)).trans (fK a h)
  have fX : ∀ a, a < n → a ≠ x → R7 a = R a ∧ I7 a = I a := fun a h hx => ⟨((fun a h => (ut6 a h).2.1) a (by omega)).trans (fX a h hx).1, ((fun a h => (ut6 a h).2.2) a (by omega)).trans (fX a h hx).2⟩
  have k7 : K7 (n + 3) = some (.inl 0, 256) := qt6.1
  have z7 : (∀ i, I7 (n + 3) i = 0) := qt6.2
  obtain ⟨R8, e9⟩ : ∃ Z, Z = upR R7 x 6 (some (n + 3)) := ⟨_, rfl⟩
  obtain ⟨K8, ek⟩ : ∃ Z, Z = K7 := ⟨_, rfl⟩
  obtain ⟨I8, ei⟩ : ∃ Z, Z = I7 := ⟨_, rfl⟩
  have e_8 : hm_pr 4 25 6 (hp K7 R7 (n + 4) (s + 544) I7) x (n + 3) = some (hp K8 R8 (n + 4) (s + 544) I8) := by rw [hp_pr hx, ← e9, ← ek, ← ei]
  have hx : K8 (x) = some (.inr 4, 25) := by rw [ek]; exact hx
  have hx1 : I8 (x) 1 = (0 : Int32) := by rw [ei]; exact hx1
  have hx5 : I8 (x) 5 = (0 : Int32) := by rw [ei]; exact hx5
  have k1 : K8 (n) = some (.inl 0, 256) := by rw [ek]; exact k1
  have z1 : (∀ i, I8 (n) i = 0) := by rw [ei]; exact z1
  have r2 : R8 (x) 2 = some (n) := by rw [e9, upR_nj (by decide)]; exact r2
  have k3 : K8 (n + 1) = some (.inl 0, 16) := by rw [ek]; exact k3
  have z3 : (∀ i, I8 (n + 1) i = 0) := by rw [ei]; exact z3
  have r3 : R8 (x) 3 = some (n + 1) := by rw [e9, upR_nj (by decide)]; exact r3
  have k5 : K8 (n + 2) = some (.inl 2, 16) := by rw [ek]; exact k5
  have z5 : (∀ i, I8 (n + 2) i = 0) := by rw [ei]; exact z5
  have r4 : R8 (x) 4 = some (n + 2) := by rw [e9, upR_nj (by decide)]; exact r4
  have k7 : K8 (n + 3) = some (.inl 0, 256) := by rw [ek]; exact k7
  have z7 : (∀ i, I8 (n + 3) i = 0) := by rw [ei]; exact z7
  have r6 : R8 (x) 6 = some (n + 3) := by rw [e9, upR_at]
  have fK : ∀ a, a < n → K8 a = K a := by rw [ek]; exact fK
  have fX : ∀ a, a < n → a ≠ x → R8 a = R a ∧ I8 a = I a := fun a h hx => ⟨(show R8 a = R7 a by rw [e9, upR_ne hx]).trans (fX a h hx).1, (congrFun ei a).trans (fX a h hx).2⟩
  clear e9 ek ei
  obtain ⟨K9, R9, I9, et8, ut8, qt8⟩ := na_ok (K := K8) (R := R8) (I := I8) (n := n + 4) (s := s + 544) 0 512 (512 : Int32) (by decide +kernel) (by decide)
  have hx : K9 (x) = some (.inr 4, 25) := ((fun a h => (ut8 a h).1) _ (by omega)).trans hx
  have hx1 : I9 (x) 1 = (0 : Int32) := (congrFun ((fun a h => (ut8 a h).2.2) _ (by omega)) _).trans hx1
  have hx5 : I9 (x) 5 = (0 : Int32) := (congrFun ((fun a h => (ut8 a h).2.2) _ (by omega)) _).trans hx5
  have k1 : K9 (n) = some (.inl 0, 256) := ((fun a h => (ut8 a h).1) _ (by omega)).trans k1
  have z1 : (∀ i, I9 (n) i = 0) := fun i => (congrFun ((fun a h => (ut8 a h).2.2) _ (by omega)) i).trans (z1 i)
  have r2 : R9 (x) 2 = some (n) := (congrFun ((fun a h => (ut8 a h).2.1) _ (by omega)) _).trans r2
  have k3 : K9 (n + 1) = some (.inl 0, 16) := ((fun a h => (ut8 a h).1) _ (by omega)).trans k3
  have z3 : (∀ i, I9 (n + 1) i = 0) := fun i => (congrFun ((fun a h => (ut8 a h).2.2) _ (by omega)) i).trans (z3 i)
  have r3 : R9 (x) 3 = some (n + 1) := (congrFun ((fun a h => (ut8 a h).2.1) _ (by omega)) _).trans r3
  have k5 : K9 (n + 2) = some (.inl 2, 16) := ((fun a h => (ut8 a h).1) _ (by omega)).trans k5
  have z5 : (∀ i, I9 (n + 2) i = 0) := fun i => (congrFun ((fun a h => (ut8 a h).2.2) _ (by omega)) i).trans (z5 i)
  have r4 : R9 (x) 4 = some (n + 2) := (congrFun ((fun a h => (ut8 a h).2.1) _ (by omega)) _).trans r4
  have k7 : K9 (n + 3) = some (.inl 0, 256) := ((fun a h => (ut8 a h).1) _ (by omega)).trans k7
  have z7 : (∀ i, I9 (n + 3) i = 0) := fun i => (congrFun ((fun a h => (ut8 a h).2.2) _ (by omega)) i).trans (z7 i)
  have r6 : R9 (x) 6 = some (n + 3) := (congrFun ((fun a h => (ut8 a h).2.1) _ (by omega)) _).trans r6
  have fK : ∀ a, a < n → K9 a = K a := fun a h => ((fun a h => (ut8 a h).1) a (by omega)).trans (fK a h)
  have fX : ∀ a, a < n → a ≠ x → R9 a = R a ∧ I9 a = I a := fun a h hx => ⟨((fun a h => (ut8 a h).2.1) a (by omega)).trans (fX a h hx).1, ((fun a h => (ut8 a h).2.2) a (by omega)).trans (fX a h hx).2⟩
  have k9 : K9 (n + 4) = some (.inl 0, 512) := qt8.1
  have z9 : (∀ i, I9 (n + 4) i = 0) := qt8.2
  obtain ⟨R10, e9⟩ : ∃ Z, Z = upR R9 x 7 (some (n + 4)) := ⟨_, rfl⟩
  obtain ⟨K10, ek⟩ : ∃ Z, Z = K9 := ⟨_, rfl⟩
  obtain ⟨I10, ei⟩ : ∃ Z, Z = I9 := ⟨_, rfl⟩
  have e_10 : hm_pr 4 25 7 (hp K9 R9 (n + 5) (s + 1056) I9) x (n + 4) = some (hp K10 R10 (n + 5) (s + 1056) I10) := by rw [hp_pr hx, ← e9, ← ek, ← ei]
  have hx : K10 (x) = some (.inr 4, 25) := by rw [ek]; exact hx
  have hx1 : I10 (x) 1 = (0 : Int32) := by rw [ei]; exact hx1
  have hx5 : I10 (x) 5 = (0 : Int32) := by rw [ei]; exact hx5
  have k1 : K10 (n) = some (.inl 0, 256) := by rw [ek]; exact k1
  have z1 : (∀ i, I10 (n) i = 0) := by rw [ei]; exact z1
  have r2 : R10 (x) 2 = some (n) := by rw [e9, upR_nj (by decide)]; exact r2
  have k3 : K10 (n + 1) = some (.inl 0, 16) := by rw [ek]; exact k3
  have z3 : (∀ i, I10 (n + 1) i = 0) := by rw [ei]; exact z3
  have r3 : R10 (x) 3 = some (n + 1) := by rw [e9, upR_nj (by decide)]; exact r3
  have k5 : K10 (n + 2) = some (.inl 2, 16) := by rw [ek]; exact k5
  have z5 : (∀ i, I10 (n + 2) i = 0) := by rw [ei]; exact z5
  have r4 : R10 (x) 4 = some (n + 2) := by rw [e9, upR_nj (by decide)]; exact r4
  have k7 : K10 (n + 3) = some (.inl 0, 256) := by rw [ek]; exact k7
  have z7 : (∀ i, I10 (n + 3) i = 0) := by rw [ei]; exact z7
  have r6 : R10 (x) 6 = some (n + 3) := by rw [e9, upR_nj (by decide)]; exact r6
  have k9 : K10 (n + 4) = some (.inl 0, 512) := by rw [ek]; exact k9
  have z9 : (∀ i, I10 (n + 4) i = 0) := by rw [ei]; exact z9
  have r7 : R10 (x) 7 = some (n + 4) := by rw [e9, upR_at]
  have fK : ∀ a, a < n → K10 a = K a := by rw [ek]; exact fK
  have fX : ∀ a, a < n → a ≠ x → R10 a = R a ∧ I10 a = I a := fun a h hx => ⟨(show R10 a = R9 a by rw [e9, upR_ne hx]).trans (fX a h hx).1, (congrFun ei a).trans (fX a h hx).2⟩
  clear e9 ek ei
  obtain ⟨K11, R11, I11, et10, ut10, qt10⟩ := na_ok (K := K10) (R := R10) (I := I10) (n := n + 5) (s := s + 1056) 0 512 (512 : Int32) (by decide +kernel) (by decide)
  have hx : K11 (x) = some (.inr 4, 25) := ((fun a h => (ut10 a h).1) _ (by omega)).trans hx
  have hx1 : I11 (x) 1 = (0 : Int32) := (congrFun ((fun a h => (ut10 a h).2.2) _ (by omega)) _).trans hx1
  have hx5 : I11 (x) 5 = (0 : Int32) := (congrFun ((fun a h => (ut10 a h).2.2) _ (by omega)) _).trans hx5
  have k1 : K11 (n) = some (.inl 0, 256) := ((fun a h => (ut10 a h).1) _ (by omega)).trans k1
  have z1 : (∀ i, I11 (n) i = 0) := fun i => (congrFun ((fun a h => (ut10 a h).2.2) _ (by omega)) i).trans (z1 i)
  have r2 : R11 (x) 2 = some (n) := (congrFun ((fun a h => (ut10 a h).2.1) _ (by omega)) _).trans r2
  have k3 : K11 (n + 1) = some (.inl 0, 16) := ((fun a h => (ut10 a h).1) _ (by omega)).trans k3
  have z3 : (∀ i, I11 (n + 1) i = 0) := fun i => (congrFun ((fun a h => (ut10 a h).2.2) _ (by omega)) i).trans (z3 i)
  have r3 : R11 (x) 3 = some (n + 1) := (congrFun ((fun a h => (ut10 a h).2.1) _ (by omega)) _).trans r3
  have k5 : K11 (n + 2) = some (.inl 2, 16) := ((fun a h => (ut10 a h).1) _ (by omega)).trans k5
  have z5 : (∀ i, I11 (n + 2) i = 0) := fun i => (congrFun ((fun a h => (ut10 a h).2.2) _ (by omega)) i).trans (z5 i)
  have r4 : R11 (x) 4 = some (n + 2) := (congrFun ((fun a h => (ut10 a h).2.1) _ (by omega)) _).trans r4
  have k7 : K11 (n + 3) = some (.inl 0, 256) := ((fun a h => (ut10 a h).1) _ (by omega)).trans k7
  have z7 : (∀ i, I11 (n + 3) i = 0) := fun i => (congrFun ((fun a h => (ut10 a h).2.2) _ (by omega)) i).trans (z7 i)
  have r6 : R11 (x) 6 = some (n + 3) := (congrFun ((fun a h => (ut10 a h).2.1) _ (by omega)) _).trans r6
  have k9 : K11 (n + 4) = some (.inl 0, 512) := ((fun a h => (ut10 a h).1) _ (by omega)).trans k9
  have z9 : (∀ i, I11 (n + 4) i = 0) := fun i => (congrFun ((fun a h => (ut10 a h).2.2) _ (by omega)) i).trans (z9 i)
  have r7 : R11 (x) 7 = some (n + 4) := (congrFun ((fun a h => (ut10 a h).2.1) _ (by omega)) _).trans r7
  have fK : ∀ a, a < n → K11 a = K a := fun a h => ((fun a h => (ut10 a h).1) a (by omega)).trans (fK a h)
  have fX : ∀ a, a < n → a ≠ x → R11 a = R a ∧ I11 a = I a := fun a h hx => ⟨((fun a h => (ut10 a h).2.1) a (by omega)).trans (fX a h hx).1, ((fun a h => (ut10 a h).2.2) a (by omega)).trans (fX a h hx).2⟩
  have k11 : K11 (n + 5) = some (.inl 0, 512) := qt10.1
  have z11 : (∀ i, I11 (n + 5) i = 0) := qt10.2
  obtain ⟨R12, e9⟩ : ∃ Z, Z = upR R11 x 8 (some (n + 5)) := ⟨_, rfl⟩
  obtain ⟨K12, ek⟩ : ∃ Z, Z = K11 := ⟨_, rfl⟩
  obtain ⟨I12, ei⟩ : ∃ Z, Z = I11 := ⟨_, rfl⟩
  have e_12 : hm_pr 4 25 8 (hp K11 R11 (n + 6) (s + 1568) I11) x (n + 5) = some (hp K12 R12 (n + 6) (s + 1568) I12) := by rw [hp_pr hx, ← e9, ← ek, ← ei]
  have hx : K12 (x) = some (.inr 4, 25) := by rw [ek]; exact hx
  have hx1 : I12 (x) 1 = (0 : Int32) := by rw [ei]; exact hx1
  have hx5 : I12 (x) 5 = (0 : Int32) := by rw [ei]; exact hx5
  have k1 : K12 (n) = some (.inl 0, 256) := by rw [ek]; exact k1
  have z1 : (∀ i, I12 (n) i = 0) := by rw [ei]; exact z1
  have r2 : R12 (x) 2 = some (n) := by rw [e9, upR_nj (by decide)]; exact r2
  have k3 : K12 (n + 1) = some (.inl 0, 16) := by rw [ek]; exact k3
  have z3 : (∀ i, I12 (n + 1) i = 0) := by rw [ei]; exact z3
  have r3 : R12 (x) 3 = some (n + 1) := by rw [e9, upR_nj (by decide)]; exact r3
  have k5 : K12 (n + 2) = some (.inl 2, 16) := by rw [ek]; exact k5
  have z5 : (∀ i, I12 (n + 2) i = 0) := by rw [ei]; exact z5
  have r4 : R12 (x) 4 = some (n + 2) := by rw [e9, upR_nj (by decide)]; exact r4
  have k7 : K12 (n + 3) = some (.inl 0, 256) := by rw [ek]; exact k7
  have z7 : (∀ i, I12 (n + 3) i = 0) := by rw [ei]; exact z7
  have r6 : R12 (x) 6 = some (n + 3) := by rw [e9, upR_nj (by decide)]; exact r6
  have k9 : K12 (n + 4) = some (.inl 0, 512) := by rw [ek]; exact k9
  have z9 : (∀ i, I12 (n + 4) i = 0) := by rw [ei]; exact z9
  have r7 : R12 (x) 7 = some (n + 4) := by rw [e9, upR_nj (by decide)]; exact r7
  have k11 : K12 (n + 5) = some (.inl 0, 512) := by rw [ek]; exact k11
  have z11 : (∀ i, I12 (n + 5) i = 0) := by rw [ei]; exact z11
  have r8 : R12 (x) 8 = some (n + 5) := by rw [e9, upR_at]
  have fK : ∀ a, a < n → K12 a = K a := by rw [ek]; exact fK
  have fX : ∀ a, a < n → a ≠ x → R12 a = R a ∧ I12 a = I a := fun a h hx => ⟨(show R12 a = R11 a by rw [e9, upR_ne hx]).trans (fX a h hx).1, (congrFun ei a).trans (fX a h hx).2⟩
  clear e9 ek ei
  obtain ⟨K13, R13, I13, et12, ut12, qt12⟩ := na_ok (K := K12) (R := R12) (I := I12) (n := n + 6) (s := s + 1568) 0 512 (512 : Int32) (by decide +kernel) (by decide)
  have hx : K13 (x) = some (.inr 4, 25) := ((fun a h => (ut12 a h).1) _ (by omega)).trans hx
  have hx1 : I13 (x) 1 = (0 : Int32) := (congrFun ((fun a h => (ut12 a h).2.2) _ (by omega)) _).trans hx1
  have hx5 : I13 (x) 5 = (0 : Int32) := (congrFun ((fun a h => (ut12 a h).2.2) _ (by omega)) _).trans hx5
  have k1 : K13 (n) = some (.inl 0, 256) := ((fun a h => (ut12 a h).1) _ (by omega)).trans k1
  have z1 : (∀ i, I13 (n) i = 0) := fun i => (congrFun ((fun a h => (ut12 a h).2.2) _ (by omega)) i).trans (z1 i)
  have r2 : R13 (x) 2 = some (n) := (congrFun ((fun a h => (ut12 a h).2.1) _ (by omega)) _).trans r2
  have k3 : K13 (n + 1) = some (.inl 0, 16) := ((fun a h => (ut12 a h).1) _ (by omega)).trans k3
  have z3 : (∀ i, I13 (n + 1) i = 0) := fun i => (congrFun ((fun a h => (ut12 a h).2.2) _ (by omega)) i).trans (z3 i)
  have r3 : R13 (x) 3 = some (n + 1) := (congrFun ((fun a h => (ut12 a h).2.1) _ (by omega)) _).trans r3
  have k5 : K13 (n + 2) = some (.inl 2, 16) := ((fun a h => (ut12 a h).1) _ (by omega)).trans k5
  have z5 : (∀ i, I13 (n + 2) i = 0) := fun i => (congrFun ((fun a h => (ut12 a h).2.2) _ (by omega)) i).trans (z5 i)
  have r4 : R13 (x) 4 = some (n + 2) := (congrFun ((fun a h => (ut12 a h).2.1) _ (by omega)) _).trans r4
  have k7 : K13 (n + 3) = some (.inl 0, 256) := ((fun a h => (ut12 a h).1) _ (by omega)).trans k7
  have z7 : (∀ i, I13 (n + 3) i = 0) := fun i => (congrFun ((fun a h => (ut12 a h).2.2) _ (by omega)) i).trans (z7 i)
  have r6 : R13 (x) 6 = some (n + 3) := (congrFun ((fun a h => (ut12 a h).2.1) _ (by omega)) _).trans r6
  have k9 : K13 (n + 4) = some (.inl 0, 512) := ((fun a h => (ut12 a h).1) _ (by omega)).trans k9
  have z9 : (∀ i, I13 (n + 4) i = 0) := fun i => (congrFun ((fun a h => (ut12 a h).2.2) _ (by omega)) i).trans (z9 i)
  have r7 : R13 (x) 7 = some (n + 4) := (congrFun ((fun a h => (ut12 a h).2.1) _ (by omega)) _).trans r7
  have k11 : K13 (n + 5) = some (.inl 0, 512) := ((fun a h => (ut12 a h).1) _ (by omega)).trans k11
  have z11 : (∀ i, I13 (n + 5) i = 0) := fun i => (congrFun ((fun a h => (ut12 a h).2.2) _ (by omega)) i).trans (z11 i)
  have r8 : R13 (x) 8 = some (n + 5) := (congrFun ((fun a h => (ut12 a h).2.1) _ (by omega)) _).trans r8
  have fK : ∀ a, a < n → K13 a = K a := fun a h => ((fun a h => (ut12 a h).1) a (by omega)).trans (fK a h)
  have fX : ∀ a, a < n → a ≠ x → R13 a = R a ∧ I13 a = I a := fun a h hx => ⟨((fun a h => (ut12 a h).2.1) a (by omega)).trans (fX a h hx).1, ((fun a h => (ut12 a h).2.2) a (by omega)).trans (fX a h hx).2⟩
  have k13 : K13 (n + 6) = some (.inl 0, 512) := qt12.1
  have z13 : (∀ i, I13 (n + 6) i = 0) := qt12.2
  obtain ⟨R14, e9⟩ : ∃ Z, Z = upR R13 x 9 (some (n + 6)) := ⟨_, rfl⟩
  obtain ⟨K14, ek⟩ : ∃ Z, Z = K13 := ⟨_, rfl⟩
  obtain ⟨I14, ei⟩ : ∃ Z, Z = I13 := ⟨_, rfl⟩
  have e_14 : hm_pr 4 25 9 (hp K13 R13 (n + 7) (s + 2080) I13) x (n + 6) = some (hp K14 R14 (n + 7) (s + 2080) I14) := by rw [hp_pr hx, ← e9, ← ek, ← ei]
  have hx : K14 (x) = some (.inr 4, 25) := by rw [ek]; exact hx
  have hx1 : I14 (x) 1 = (0 : Int32) := by rw [ei]; exact hx1
  have hx5 : I14 (x) 5 = (0 : Int32) := by rw [ei]; exact hx5
  have k1 : K14 (n) = some (.inl 0, 256) := by rw [ek]; exact k1
  have z1 : (∀ i, I14 (n) i = 0) := by rw [ei]; exact z1
  have r2 : R14 (x) 2 = some (n) := by rw [e9, upR_nj (by decide)]; exact r2
  have k3 : K14 (n + 1) = some (.inl 0, 16) := by rw [ek]; exact k3
  have z3 : (∀ i, I14 (n + 1) i = 0) := by rw [ei]; exact z3
  have r3 : R14 (x) 3 = some (n + 1) := by rw [e9, upR_nj (by decide)]; exact r3
  have k5 : K14 (n + 2) = some (.inl 2, 16) := by rw [ek]; exact k5
  have z5 : (∀ i, I14 (n + 2) i = 0) := by rw [ei]; exact z5
  have r4 : R14 (x) 4 = some (n + 2) := by rw [e9, upR_nj (by decide)]; exact r4
  have k7 : K14 (n + 3) = some (.inl 0, 256) := by rw [ek]; exact k7
  have z7 : (∀ i, I14 (n + 3) i = 0) := by rw [ei]; exact z7
  have r6 : R14 (x) 6 = some (n + 3) := by rw [e9, upR_nj (by decide)]; exact r6
  have k9 : K14 (n + 4) = some (.inl 0, 512) := by rw [ek]; exact k9
  have z9 : (∀ i, I14 (n + 4) i = 0) := by rw [ei]; exact z9
  have r7 : R14 (x) 7 = some (n + 4) := by rw [e9, upR_nj (by decide)]; exact r7
  have k11 : K14 (n + 5) = some (.inl 0, 512) := by rw [ek]; exact k11
  have z11 : (∀ i, I14 (n + 5) i = 0) := by rw [ei]; exact z11
  have r8 : R14 (x) 8 = some (n + 5) := by rw [e9, upR_nj (by decide)]; exact r8
  have k13 : K14 (n + 6) = some (.inl 0, 512) := by rw [ek]; exact k13
  have z13 : (∀ i, I14 (n + 6) i = 0) := by rw [ei]; exact z13
  have r9 : R14 (x) 9 = some (n + 6) := by rw [e9, upR_at]
  have fK : ∀ a, a < n → K14 a = K a := by rw [ek]; exact fK
  have fX : ∀ a, a < n → a ≠ x → R14 a = R a ∧ I14 a = I a := fun a h hx => ⟨(show R14 a = R13 a by rw [e9, upR_ne hx]).trans (fX a h hx).1, (congrFun ei a).trans (fX a h hx).2⟩
  clear e9 ek ei
  obtain ⟨K15, R15, I15, et14, ut14, qt14⟩ := na_ok (K := K14) (R := R14) (I := I14) (n := n + 7) (s := s + 2080) 2 16 (16 : Int32) (by decide +kernel) (by decide)
  have hx : K15 (x) = some (.inr 4, 25) := ((fun a h => (ut14 a h).1) _ (by omega)).trans hx
  have hx1 : I15 (x) 1 = (0 : Int32) := (congrFun ((fun a h => (ut14 a h).2.2) _ (by omega)) _).trans hx1
  have hx5 : I15 (x) 5 = (0 : Int32) := (congrFun ((fun a h => (ut14 a h).2.2) _ (by omega)) _).trans hx5
  have k1 : K15 (n) = some (.inl 0, 256) := ((fun a h => (ut14 a h).1) _ (by omega)).trans k1
  have z1 : (∀ i, I15 (n) i = 0) := fun i => (congrFun ((fun a h => (ut14 a h).2.2) _ (by omega)) i).trans (z1 i)
  have r2 : R15 (x) 2 = some (n) := (congrFun ((fun a h => (ut14 a h).2.1) _ (by omega)) _).trans r2
  have k3 : K15 (n + 1) = some (.inl 0, 16) := ((fun a h => (ut14 a h).1) _ (by omega)).trans k3
  have z3 : (∀ i, I15 (n + 1) i = 0) := fun i => (congrFun ((fun a h => (ut14 a h).2.2) _ (by omega)) i).trans (z3 i)
  have r3 : R15 (x) 3 = some (n + 1) := (congrFun ((fun a h => (ut14 a h).2.1) _ (by omega)) _).trans r3
  have k5 : K15 (n + 2) = some (.inl 2, 16) := ((fun a h => (ut14 a h).1) _ (by omega)).trans k5
  have z5 : (∀ i, I15 (n + 2) i = 0) := fun i => (congrFun ((fun a h => (ut14 a h).2.2) _ (by omega)) i).trans (z5 i)
  have r4 : R15 (x) 4 = some (n + 2) := (congrFun ((fun a h => (ut14 a h).2.1) _ (by omega)) _).trans r4
  have k7 : K15 (n + 3) = some (.inl 0, 256) := ((fun a h => (ut14 a h).1) _ (by omega)).trans k7
  have z7 : (∀ i, I15 (n + 3) i = 0) := fun i => (congrFun ((fun a h => (ut14 a h).2.2) _ (by omega)) i).trans (z7 i)
  have r6 : R15 (x) 6 = some (n + 3) := (congrFun ((fun a h => (ut14 a h).2.1) _ (by omega)) _).trans r6
  have k9 : K15 (n + 4) = some (.inl 0, 512) := ((fun a h => (ut14 a h).1) _ (by omega)).trans k9
  have z9 : (∀ i, I15 (n + 4) i = 0) := fun i => (congrFun ((fun a h => (ut14 a h).2.2) _ (by omega)) i).trans (z9 i)
  have r7 : R15 (x) 7 = some (n + 4) := (congrFun ((fun a h => (ut14 a h).2.1) _ (by omega)) _).trans r7
  have k11 : K15 (n + 5) = some (.inl 0, 512) := ((fun a h => (ut14 a h).1) _ (by omega)).trans k11
  have z11 : (∀ i, I15 (n + 5) i = 0) := fun i => (congrFun ((fun a h => (ut14 a h).2.2) _ (by omega)) i).trans (z11 i)
  have r8 : R15 (x) 8 = some (n + 5) := (congrFun ((fun a h => (ut14 a h).2.1) _ (by omega)) _).trans r8
  have k13 : K15 (n + 6) = some (.inl 0, 512) := ((fun a h => (ut14 a h).1) _ (by omega)).trans k13
  have z13 : (∀ i, I15 (n + 6) i = 0) := fun i => (congrFun ((fun a h => (ut14 a h).2.2) _ (by omega)) i).trans (z13 i)
  have r9 : R15 (x) 9 = some (n + 6) := (congrFun ((fun a h => (ut14 a h).2.1) _ (by omega)) _).trans r9
  have fK : ∀ a, a < n → K15 a = K a := fun a h => ((fun a h => (ut14 a h).1) a (by omega)).trans (fK a h)
  have fX : ∀ a, a < n → a ≠ x → R15 a = R a ∧ I15 a = I a := fun a h hx => ⟨((fun a h => (ut14 a h).2.1) a (by omega)).trans (fX a h hx).1, ((fun a h => (ut14 a h).2.2) a (by omega)).trans (fX a h hx).2⟩
  have k15 : K15 (n + 7) = some (.inl 2, 16) := qt14.1
  have z15 : (∀ i, I15 (n + 7) i = 0) := qt14.2
  obtain ⟨R16, e9⟩ : ∃ Z, Z = upR R15 x 11 (some (n + 7)) := ⟨_, rfl⟩
  obtain ⟨K16, ek⟩ : ∃ Z, Z = K15 := ⟨_, rfl⟩
  obtain ⟨I16, ei⟩ : ∃ Z, Z = I15 := ⟨_, rfl⟩
  have e_16 : hm_pr 4 25 11 (hp K15 R15 (n + 8) (s + 2096) I15) x (n + 7) = some (hp K16 R16 (n + 8) (s + 2096) I16) := by rw [hp_pr hx, ← e9, ← ek, ← ei]
  have hx : K16 (x) = some (.inr 4, 25) := by rw [ek]; exact hx
  have hx1 : I16 (x) 1 = (0 : Int32) := by rw [ei]; exact hx1
  have hx5 : I16 (x) 5 = (0 : Int32) := by rw [ei]; exact hx5
  have k1 : K16 (n) = some (.inl 0, 256) := by rw [ek]; exact k1
  have z1 : (∀ i, I16 (n) i = 0) := by rw [ei]; exact z1
  have r2 : R16 (x) 2 = some (n) := by rw [e9, upR_nj (by decide)]; exact r2
  have k3 : K16 (n + 1) = some (.inl 0, 16) := by rw [ek]; exact k3
  have z3 : (∀ i, I16 (n + 1) i = 0) := by rw [ei]; exact z3
  have r3 : R16 (x) 3 = some (n + 1) := by rw [e9, upR_nj (by decide)]; exact r3
  have k5 : K16 (n + 2) = some (.inl 2, 16) := by rw [ek]; exact k5
  have z5 : (∀ i, I16 (n + 2) i = 0) := by rw [ei]; exact z5
  have r4 : R16 (x) 4 = some (n + 2) := by rw [e9, upR_nj (by decide)]; exact r4
  have k7 : K16 (n + 3) = some (.inl 0, 256) := by rw [ek]; exact k7
  have z7 : (∀ i, I16 (n + 3) i = 0) := by rw [ei]; exact z7
  have r6 : R16 (x) 6 = some (n + 3) := by rw [e9, upR_nj (by decide)]; exact r6
  have k9 : K16 (n + 4) = some (.inl 0, 512) := by rw [ek]; exact k9
  have z9 : (∀ i, I16 (n + 4) i = 0) := by rw [ei]; exact z9
  have r7 : R16 (x) 7 = some (n + 4) := by rw [e9, upR_nj (by decide)]; exact r7
  have k11 : K16 (n + 5) = some (.inl 0, 512) := by rw [ek]; exact k11
  have z11 : (∀ i, I16 (n + 5) i = 0) := by rw [ei]; exact z11
  have r8 : R16 (x) 8 = some (n + 5) := by rw [e9, upR_nj (by decide)]; exact r8
  have k13 : K16 (n + 6) = some (.inl 0, 512) := by rw [ek]; exact k13
  have z13 : (∀ i, I16 (n + 6) i = 0) := by rw [ei]; exact z13
  have r9 : R16 (x) 9 = some (n + 6) := by rw [e9, upR_nj (by decide)]; exact r9
  have k15 : K16 (n + 7) = some (.inl 2, 16) := by rw [ek]; exact k15
  have z15 : (∀ i, I16 (n + 7) i = 0) := by rw [ei]; exact z15
  have r11 : R16 (x) 11 = some (n + 7) := by rw [e9, upR_at]
  have fK : ∀ a, a < n → K16 a = K a := by rw [ek]; exact fK
  have fX : ∀ a, a < n → a ≠ x → R16 a = R a ∧ I16 a = I a := fun a h hx => ⟨(show R16 a = R15 a by rw [e9, upR_ne hx]).trans (fX a h hx).1, (congrFun ei a).trans (fX a h hx).2⟩
  clear e9 ek ei
  obtain ⟨K17, R17, I17, et16, ut16, qt16⟩ := na_ok (K := K16) (R := R16) (I := I16) (n := n + 8) (s := s + 2096) 0 256 (256 : Int32) (by decide +kernel) (by decide)
  have hx : K17 (x) = some (.inr 4, 25) := ((fun a h => (ut16 a h).1) _ (by omega)).trans hx
  have hx1 : I17 (x) 1 = (0 : Int32) := (congrFun ((fun a h => (ut16 a h).2.2) _ (by omega)) _).trans hx1
  have hx5 : I17 (x) 5 = (0 : Int32) := (congrFun ((fun a h => (ut16 a h).2.2) _ (by omega)) _).trans hx5
  have k1 : K17 (n) = some (.inl 0, 256) := ((fun a h => (ut16 a h).1) _ (by omega)).trans k1
  have z1 : (∀ i, I17 (n) i = 0) := fun i => (congrFun ((fun a h => (ut16 a h).2.2) _ (by omega)) i).trans (z1 i)
  have r2 : R17 (x) 2 = some (n) := (congrFun ((fun a h => (ut16 a h).2.1) _ (by omega)) _).trans r2
  have k3 : K17 (n + 1) = some (.inl 0, 16) := ((fun a h => (ut16 a h).1) _ (by omega)).trans k3
  have z3 : (∀ i, I17 (n + 1) i = 0) := fun i => (congrFun ((fun a h => (ut16 a h).2.2) _ (by omega)) i).trans (z3 i)
  have r3 : R17 (x) 3 = some (n + 1) := (congrFun ((fun a h => (ut16 a h).2.1) _ (by omega)) _).trans r3
  have k5 : K17 (n + 2) = some (.inl 2, 16) := ((fun a h => (ut16 a h).1) _ (by omega)).trans k5
  have z5 : (∀ i, I17 (n + 2) i = 0) := fun i => (congrFun ((fun a h => (ut16 a h).2.2) _ (by omega)) i).trans (z5 i)
  have r4 : R17 (x) 4 = some (n + 2) := (congrFun ((fun a h => (ut16 a h).2.1) _ (by omega)) _).trans r4
  have k7 : K17 (n + 3) = some (.inl 0, 256) := ((fun a h => (ut16 a h).1) _ (by omega)).trans k7
  have z7 : (∀ i, I17 (n + 3) i = 0) := fun i => (congrFun ((fun a h => (ut16 a h).2.2) _ (by omega)) i).trans (z7 i)
  have r6 : R17 (x) 6 = some (n + 3) := (congrFun ((fun a h => (ut16 a h).2.1) _ (by omega)) _).trans r6
  have k9 : K17 (n + 4) = some (.inl 0, 512) := ((fun a h => (ut16 a h).1) _ (by omega)).trans k9
  have z9 : (∀ i, I17 (n + 4) i = 0) := fun i => (congrFun ((fun a h => (ut16 a h).2.2) _ (by omega)) i).trans (z9 i)
  have r7 : R17 (x) 7 = some (n + 4) := (congrFun ((fun a h => (ut16 a h).2.1) _ (by omega)) _).trans r7
  have k11 : K17 (n + 5) = some (.inl 0, 512) := ((fun a h => (ut16 a h).1) _ (by omega)).trans k11
  have z11 : (∀ i, I17 (n + 5) i = 0) := fun i => (congrFun ((fun a h => (ut16 a h).2.2) _ (by omega)) i).trans (z11 i)
  have r8 : R17 (x) 8 = some (n + 5) := (congrFun ((fun a h => (ut16 a h).2.1) _ (by omega)) _).trans r8
  have k13 : K17 (n + 6) = some (.inl 0, 512) := ((fun a h => (ut16 a h).1) _ (by omega)).trans k13
  have z13 : (∀ i, I17 (n + 6) i = 0) := fun i => (congrFun ((fun a h => (ut16 a h).2.2) _ (by omega)) i).trans (z13 i)
  have r9 : R17 (x) 9 = some (n + 6) := (congrFun ((fun a h => (ut16 a h).2.1) _ (by omega)) _).trans r9
  have k15 : K17 (n + 7) = some (.inl 2, 16) := ((fun a h => (ut16 a h).1) _ (by omega)).trans k15
  have z15 : (∀ i, I17 (n + 7) i = 0) := fun i => (congrFun ((fun a h => (ut16 a h).2.2) _ (by omega)) i).trans (z15 i)
  have r11 : R17 (x) 11 = some (n + 7) := (congrFun ((fun a h => (ut16 a h).2.1) _ (by omega)) _).trans r11
  have fK : ∀ a, a < n → K17 a = K a := fun a h => ((fun a h => (ut16 a h).1) a (by omega)).trans (fK a h)
  have fX : ∀ a, a < n → a ≠ x → R17 a = R a ∧ I17 a = I a := fun a h hx => ⟨((fun a h => (ut16 a h).2.1) a (by omega)).trans (fX a h hx).1, ((fun a h => (ut16 a h).2.2) a (by omega)).trans (fX a h hx).2⟩
  have k17 : K17 (n + 8) = some (.inl 0, 256) := qt16.1
  have z17 : (∀ i, I17 (n + 8) i = 0) := qt16.2
  obtain ⟨R18, e9⟩ : ∃ Z, Z = upR R17 x 12 (some (n + 8)) := ⟨_, rfl⟩
  obtain ⟨K18, ek⟩ : ∃ Z, Z = K17 := ⟨_, rfl⟩
  obtain ⟨I18, ei⟩ : ∃ Z, Z = I17 := ⟨_, rfl⟩
  have e_18 : hm_pr 4 25 12 (hp K17 R17 (n + 9) (s + 2352) I17) x (n + 8) = some (hp K18 R18 (n + 9) (s + 2352) I18) := by rw [hp_pr hx, ← e9, ← ek, ← ei]
  have hx : K18 (x) = some (.inr 4, 25) := by rw [ek]; exact hx
  have hx1 : I18 (x) 1 = (0 : Int32) := by rw [ei]; exact hx1
  have hx5 : I18 (x) 5 = (0 : Int32) := by rw [ei]; exact hx5
  have k1 : K18 (n) = some (.inl 0, 256) := by rw [ek]; exact k1
  have z1 : (∀ i, I18 (n) i = 0) := by rw [ei]; exact z1
  have r2 : R18 (x) 2 = some (n) := by rw [e9, upR_nj (by decide)]; exact r2
  have k3 : K18 (n + 1) = some (.inl 0, 16) := by rw [ek]; exact k3
  have z3 : (∀ i, I18 (n + 1) i = 0) := by rw [ei]; exact z3
  have r3 : R18 (x) 3 = some (n + 1) := by rw [e9, upR_nj (by decide)]; exact r3
  have k5 : K18 (n + 2) = some (.inl 2, 16) := by rw [ek]; exact k5
  have z5 : (∀ i, I18 (n + 2) i = 0) := by rw [ei]; exact z5
  have r4 : R18 (x) 4 = some (n + 2) := by rw [e9, upR_nj (by decide)]; exact r4
  have k7 : K18 (n + 3) = some (.inl 0, 256) := by rw [ek]; exact k7
  have z7 : (∀ i, I18 (n + 3) i = 0) := by rw [ei]; exact z7
  have r6 : R18 (x) 6 = some (n + 3) := by rw [e9, upR_nj (by decide)]; exact r6
  have k9 : K18 (n + 4) = some (.inl 0, 512) := by rw [ek]; exact k9
  have z9 : (∀ i, I18 (n + 4) i = 0) := by rw [ei]; exact z9
  have r7 : R18 (x) 7 = some (n + 4) := by rw [e9, upR_nj (by decide)]; exact r7
  have k11 : K18 (n + 5) = some (.inl 0, 512) := by rw [ek]; exact k11
  have z11 : (∀ i, I18 (n + 5) i = 0) := by rw [ei]; exact z11
  have r8 : R18 (x) 8 = some (n + 5) := by rw [e9, upR_nj (by decide)]; exact r8
  have k13 : K18 (n + 6) = some (.inl 0, 512) := by rw [ek]; exact k13
  have z13 : (∀ i, I18 (n + 6) i = 0) := by rw [ei]; exact z13
  have r9 : R18 (x) 9 = some (n + 6) := by rw [e9, upR_nj (by decide)]; exact r9
  have k15 : K18 (n + 7) = some (.inl 2, 16) := by rw [ek]; exact k15
  have z15 : (∀ i, I18 (n + 7) i = 0) := by rw [ei]; exact z15
  have r11 : R18 (x) 11 = some (n + 7) := by rw [e9, upR_nj (by decide)]; exact r11
  have k17 : K18 (n + 8) = some (.inl 0, 256) := by rw [ek]; exact k17
  have z17 : (∀ i, I18 (n + 8) i = 0) := by rw [ei]; exact z17
  have r12 : R18 (x) 12 = some (n + 8) := by rw [e9, upR_at]
  have fK : ∀ a, a < n → K18 a = K a := by rw [ek]; exact fK
  have fX : ∀ a, a < n → a ≠ x → R18 a = R a ∧ I18 a = I a := fun a h hx => ⟨(show R18 a = R17 a by rw [e9, upR_ne hx]).trans (fX a h hx).1, (congrFun ei a).trans (fX a h hx).2⟩
  clear e9 ek ei
  obtain ⟨K19, R19, I19, et18, ut18, qt18⟩ := na_ok (K := K18) (R := R18) (I := I18) (n := n + 9) (s := s + 2352) 0 256 (256 : Int32) (by decide +kernel) (by decide)
  have hx : K19 (x) = some (.inr 4, 25) := ((fun a h => (ut18 a h).1) _ (by omega)).trans hx
  have hx1 : I19 (x) 1 = (0 : Int32) := (congrFun ((fun a h => (ut18 a h).2.2) _ (by omega)) _).trans hx1
  have hx5 : I19 (x) 5 = (0 : Int32) := (congrFun ((fun a h => (ut18 a h).2.2) _ (by omega)) _).trans hx5
  have k1 : K19 (n) = some (.inl 0, 256) := ((fun a h => (ut18 a h).1) _ (by omega)).trans k1
  have z1 : (∀ i, I19 (n) i = 0) := fun i => (congrFun ((fun a h => (ut18 a h).2.2) _ (by omega)) i).trans (z1 i)
  have r2 : R19 (x) 2 = some (n) := (congrFun ((fun a h => (ut18 a h).2.1) _ (by omega)) _).trans r2
  have k3 : K19 (n + 1) = some (.inl 0, 16) := ((fun a h => (ut18 a h).1) _ (by omega)).trans k3
  have z3 : (∀ i, I19 (n + 1) i = 0) := fun i => (congrFun ((fun a h => (ut18 a h).2.2) _ (by omega)) i).trans (z3 i)
  have r3 : R19 (x) 3 = some (n + 1) := (congrFun ((fun a h => (ut18 a h).2.1) _ (by omega)) _).trans r3
  have k5 : K19 (n + 2) = some (.inl 2, 16) := ((fun a h => (ut18 a h).1) _ (by omega)).trans k5
  have z5 : (∀ i, I19 (n + 2) i = 0) := fun i => (congrFun ((fun a h => (ut18 a h).2.2) _ (by omega)) i).trans (z5 i)
  have r4 : R19 (x) 4 = some (n + 2) := (congrFun ((fun a h => (ut18 a h).2.1) _ (by omega)) _).trans r4
  have k7 : K19 (n + 3) = some (.inl 0, 256) := ((fun a h => (ut18 a h).1) _ (by omega)).trans k7
  have z7 : (∀ i, I19 (n + 3) i = 0) := fun i => (congrFun ((fun a h => (ut18 a h).2.2) _ (by omega)) i).trans (z7 i)
  have r6 : R19 (x) 6 = some (n + 3) := (congrFun ((fun a h => (ut18 a h).2.1) _ (by omega)) _).trans r6
  have k9 : K19 (n + 4) = some (.inl 0, 512) := ((fun a h => (ut18 a h).1) _ (by omega)).trans k9
  have z9 : (∀ i, I19 (n + 4) i = 0) := fun i => (congrFun ((fun a h => (ut18 a h).2.2) _ (by omega)) i).trans (z9 i)
  have r7 : R19 (x) 7 = some (n + 4) := (congrFun ((fun a h => (ut18 a h).2.1) _ (by omega)) _).trans r7
  have k11 : K19 (n + 5) = some (.inl 0, 512) := ((fun a h => (ut18 a h).1) _ (by omega)).trans k11
  have z11 : (∀ i, I19 (n + 5) i = 0) := fun i => (congrFun ((fun a h => (ut18 a h).2.2) _ (by omega)) i).trans (z11 i)
  have r8 : R19 (x) 8 = some (n + 5) := (congrFun ((fun a h => (ut18 a h).2.1) _ (by omega)) _).trans r8
  have k13 : K19 (n + 6) = some (.inl 0, 512) := ((fun a h => (ut18 a h).1) _ (by omega)).trans k13
  have z13 : (∀ i, I19 (n + 6) i = 0) := fun i => (congrFun ((fun a h => (ut18 a h).2.2) _ (by omega)) i).trans (z13 i)
  have r9 : R19 (x) 9 = some (n + 6) := (congrFun ((fun a h => (ut18 a h).2.1) _ (by omega)) _).trans r9
  have k15 : K19 (n + 7) = some (.inl 2, 16) := ((fun a h => (ut18 a h).1) _ (by omega)).trans k15
  have z15 : (∀ i, I19 (n + 7) i = 0) := fun i => (congrFun ((fun a h => (ut18 a h).2.2) _ (by omega)) i).trans (z15 i)
  have r11 : R19 (x) 11 = some (n + 7) := (congrFun ((fun a h => (ut18 a h).2.1) _ (by omega)) _).trans r11
  have k17 : K19 (n + 8) = some (.inl 0, 256) := ((fun a h => (ut18 a h).1) _ (by omega)).trans k17
  have z17 : (∀ i, I19 (n + 8) i = 0) := fun i => (congrFun ((fun a h => (ut18 a h).2.2) _ (by omega)) i).trans (z17 i)
  have r12 : R19 (x) 12 = some (n + 8) := (congrFun ((fun a h => (ut18 a h).2.1) _ (by omega)) _).trans r12
  have fK : ∀ a, a < n → K19 a = K a := fun a h => ((fun a h => (ut18 a h).1) a (by omega)).trans (fK a h)
  have fX : ∀ a, a < n → a ≠ x → R19 a = R a ∧ I19 a = I a := fun a h hx => ⟨((fun a h => (ut18 a h).2.1) a (by omega)).trans (fX a h hx).1, ((fun a h => (ut18 a h).2.2) a (by omega)).trans (fX a h hx).2⟩
  have k19 : K19 (n + 9) = some (.inl 0, 256) := qt18.1
  have z19 : (∀ i, I19 (n + 9) i = 0) := qt18.2
  obtain ⟨R20, e9⟩ : ∃ Z, Z = upR R19 x 13 (some (n + 9)) := ⟨_, rfl⟩
  obtain ⟨K20, ek⟩ : ∃ Z, Z = K19 := ⟨_, rfl⟩
  obtain ⟨I20, ei⟩ : ∃ Z, Z = I19 := ⟨_, rfl⟩
  have e_20 : hm_pr 4 25 13 (hp K19 R19 (n + 10) (s + 2608) I19) x (n + 9) = some (hp K20 R20 (n + 10) (s + 2608) I20) := by rw [hp_pr hx, ← e9, ← ek, ← ei]
  have hx : K20 (x) = some (.inr 4, 25) := by rw [ek]; exact hx
  have hx1 : I20 (x) 1 = (0 : Int32) := by rw [ei]; exact hx1
  have hx5 : I20 (x) 5 = (0 : Int32) := by rw [ei]; exact hx5
  have k1 : K20 (n) = some (.inl 0, 256) := by rw [ek]; exact k1
  have z1 : (∀ i, I20 (n) i = 0) := by rw [ei]; exact z1
  have r2 : R20 (x) 2 = some (n) := by rw [e9, upR_nj (by decide)]; exact r2
  have k3 : K20 (n + 1) = some (.inl 0, 16) := by rw [ek]; exact k3
  have z3 : (∀ i, I20 (n + 1) i = 0) := by rw [ei]; exact z3
  have r3 : R20 (x) 3 = some (n + 1) := by rw [e9, upR_nj (by decide)]; exact r3
  have k5 : K20 (n + 2) = some (.inl 2, 16) := by rw [ek]; exact k5
  have z5 : (∀ i, I20 (n + 2) i = 0) := by rw [ei]; exact z5
  have r4 : R20 (x) 4 = some (n + 2) := by rw [e9, upR_nj (by decide)]; exact r4
  have k7 : K20 (n + 3) = some (.inl 0, 256) := by rw [ek]; exact k7
  have z7 : (∀ i, I20 (n + 3) i = 0) := by rw [ei]; exact z7
  have r6 : R20 (x) 6 = some (n + 3) := by rw [e9, upR_nj (by decide)]; exact r6
  have k9 : K20 (n + 4) = some (.inl 0, 512) := by rw [ek]; exact k9
  have z9 : (∀ i, I20 (n + 4) i = 0) := by rw [ei]; exact z9
  have r7 : R20 (x) 7 = some (n + 4) := by rw [e9, upR_nj (by decide)]; exact r7
  have k11 : K20 (n + 5) = some (.inl 0, 512) := by rw [ek]; exact k11
  have z11 : (∀ i, I20 (n + 5) i = 0) := by rw [ei]; exact z11
  have r8 : R20 (x) 8 = some (n + 5) := by rw [e9, upR_nj (by decide)]; exact r8
  have k13 : K20 (n + 6) = some (.inl 0, 512) := by rw [ek]; exact k13
  have z13 : (∀ i, I20 (n + 6) i = 0) := by rw [ei]; exact z13
  have r9 : R20 (x) 9 = some (n + 6) := by rw [e9, upR_nj (by decide)]; exact r9
  have k15 : K20 (n + 7) = some (.inl 2, 16) := by rw [ek]; exact k15
  have z15 : (∀ i, I20 (n + 7) i = 0) := by rw [ei]; exact z15
  have r11 : R20 (x) 11 = some (n + 7) := by rw [e9, upR_nj (by decide)]; exact r11
  have k17 : K20 (n + 8) = some (.inl 0, 256) := by rw [ek]; exact k17
  have z17 : (∀ i, I20 (n + 8) i = 0) := by rw [ei]; exact z17
  have r12 : R20 (x) 12 = some (n + 8) := by rw [e9, upR_nj (by decide)]; exact r12
  have k19 : K20 (n + 9) = some (.inl 0, 256) := by rw [ek]; exact k19
  have z19 : (∀ i, I20 (n + 9) i = 0) := by rw [ei]; exact z19
  have r13 : R20 (x) 13 = some (n + 9) := by rw [e9, upR_at]
  have fK : ∀ a, a < n → K20 a = K a := by rw [ek]; exact fK
  have fX : ∀ a, a < n → a ≠ x → R20 a = R a ∧ I20 a = I a := fun a h hx => ⟨(show R20 a = R19 a by rw [e9, upR_ne hx]).trans (fX a h hx).1, (congrFun ei a).trans (fX a h hx).2⟩
  clear e9 ek ei
  obtain ⟨K21, R21, I21, et20, ut20, qt20⟩ := na_ok (K := K20) (R := R20) (I := I20) (n := n + 10) (s := s + 2608) 0 256 (256 : Int32) (by decide +kernel) (by decide)
  have hx : K21 (x) = some (.inr 4, 25) := ((fun a h => (ut20 a h).1) _ (by omega)).trans hx
  have hx1 : I21 (x) 1 = (0 : Int32) := (congrFun ((fun a h => (ut20 a h).2.2) _ (by omega)) _).trans hx1
  have hx5 : I21 (x) 5 = (0 : Int32) := (congrFun ((fun a h => (ut20 a h).2.2) _ (by omega)) _).trans hx5
  have k1 : K21 (n) = some (.inl 0, 256) := ((fun a h => (ut20 a h).1) _ (by omega)).trans k1
  have z1 : (∀ i, I21 (n) i = 0) := fun i => (congrFun ((fun a h => (ut20 a h).2.2) _ (by omega)) i).trans (z1 i)
  have r2 : R21 (x) 2 = some (n) := (congrFun ((fun a h => (ut20 a h).2.1) _ (by omega)) _).trans r2
  have k3 : K21 (n + 1) = some (.inl 0, 16) := ((fun a h => (ut20 a h).1) _ (by omega)).trans k3
  have z3 : (∀ i, I21 (n + 1) i = 0) := fun i => (congrFun ((fun a h => (ut20 a h).2.2) _ (by omega)) i).trans (z3 i)
  have r3 : R21 (x) 3 = some (n + 1) := (congrFun ((fun a h => (ut20 a h).2.1) _ (by omega)) _).trans r3
  have k5 : K21 (n + 2) = some (.inl 2, 16) := ((fun a h => (ut20 a h).1) _ (by omega)).trans k5
  have z5 : (∀ i, I21 (n + 2) i = 0) := fun i => (congrFun ((fun a h => (ut20 a h).2.2) _ (by omega)) i).trans (z5 i)
  have r4 : R21 (x) 4 = some (n + 2) := (congrFun ((fun a h => (ut20 a h).2.1) _ (by omega)) _).trans r4
  have k7 : K21 (n + 3) = some (.inl 0, 256) := ((fun a h => (ut20 a h).1) _ (by omega)).trans k7
  have z7 : (∀ i, I21 (n + 3) i = 0) := fun i => (congrFun ((fun a h => (ut20 a h).2.2) _ (by omega)) i).trans (z7 i)
  have r6 : R21 (x) 6 = some (n + 3) := (congrFun ((fun a h => (ut20 a h).2.1) _ (by omega)) _).trans r6
  have k9 : K21 (n + 4) = some (.inl 0, 512) := ((fun a h => (ut20 a h).1) _ (by omega)).trans k9
  have z9 : (∀ i, I21 (n + 4) i = 0) := fun i => (congrFun ((fun a h => (ut20 a h).2.2) _ (by omega)) i).trans (z9 i)
  have r7 : R21 (x) 7 = some (n + 4) := (congrFun ((fun a h => (ut20 a h).2.1) _ (by omega)) _).trans r7
  have k11 : K21 (n + 5) = some (.inl 0, 512) := ((fun a h => (ut20 a h).1) _ (by omega)).trans k11
  have z11 : (∀ i, I21 (n + 5) i = 0) := fun i => (congrFun ((fun a h => (ut20 a h).2.2) _ (by omega)) i).trans (z11 i)
  have r8 : R21 (x) 8 = some (n + 5) := (congrFun ((fun a h => (ut20 a h).2.1) _ (by omega)) _).trans r8
  have k13 : K21 (n + 6) = some (.inl 0, 512) := ((fun a h => (ut20 a h).1) _ (by omega)).trans k13
  have z13 : (∀ i, I21 (n + 6) i = 0) := fun i => (congrFun ((fun a h => (ut20 a h).2.2) _ (by omega)) i).trans (z13 i)
  have r9 : R21 (x) 9 = some (n + 6) := (congrFun ((fun a h => (ut20 a h).2.1) _ (by omega)) _).trans r9
  have k15 : K21 (n + 7) = some (.inl 2, 16) := ((fun a h => (ut20 a h).1) _ (by omega)).trans k15
  have z15 : (∀ i, I21 (n + 7) i = 0) := fun i => (congrFun ((fun a h => (ut20 a h).2.2) _ (by omega)) i).trans (z15 i)
  have r11 : R21 (x) 11 = some (n + 7) := (congrFun ((fun a h => (ut20 a h).2.1) _ (by omega)) _).trans r11
  have k17 : K21 (n + 8) = some (.inl 0, 256) := ((fun a h => (ut20 a h).1) _ (by omega)).trans k17
  have z17 : (∀ i, I21 (n + 8) i = 0) := fun i => (congrFun ((fun a h => (ut20 a h).2.2) _ (by omega)) i).trans (z17 i)
  have r12 : R21 (x) 12 = some (n + 8) := (congrFun ((fun a h => (ut20 a h).2.1) _ (by omega)) _).trans r12
  have k19 : K21 (n + 9) = some (.inl 0, 256) := ((fun a h => (ut20 a h).1) _ (by omega)).trans k19
  have z19 : (∀ i, I21 (n + 9) i = 0) := fun i => (congrFun ((fun a h => (ut20 a h).2.2) _ (by omega)) i).trans (z19 i)
  have r13 : R21 (x) 13 = some (n + 9) := (congrFun ((fun a h => (ut20 a h).2.1) _ (by omega)) _).trans r13
  have fK : ∀ a, a < n → K21 a = K a := fun a h => ((fun a h => (ut20 a h).1) a (by omega)).trans (fK a h)
  have fX : ∀ a, a < n → a ≠ x → R21 a = R a ∧ I21 a = I a := fun a h hx => ⟨((fun a h => (ut20 a h).2.1) a (by omega)).trans (fX a h hx).1, ((fun a h => (ut20 a h).2.2) a (by omega)).trans (fX a h hx).2⟩
  have k21 : K21 (n + 10) = some (.inl 0, 256) := qt20.1
  have z21 : (∀ i, I21 (n + 10) i = 0) := qt20.2
  obtain ⟨R22, e9⟩ : ∃ Z, Z = upR R21 x 14 (some (n + 10)) := ⟨_, rfl⟩
  obtain ⟨K22, ek⟩ : ∃ Z, Z = K21 := ⟨_, rfl⟩
  obtain ⟨I22, ei⟩ : ∃ Z, Z = I21 := ⟨_, rfl⟩
  have e_22 : hm_pr 4 25 14 (hp K21 R21 (n + 11) (s + 2864) I21) x (n + 10) = some (hp K22 R22 (n + 11) (s + 2864) I22) := by rw [hp_pr hx, ← e9, ← ek, ← ei]
  have hx : K22 (x) = some (.inr 4, 25) := by rw [ek]; exact hx
  have hx1 : I22 (x) 1 = (0 : Int32) := by rw [ei]; exact hx1
  have hx5 : I22 (x) 5 = (0 : Int32) := by rw [ei]; exact hx5
  have k1 : K22 (n) = some (.inl 0, 256) := by rw [ek]; exact k1
  have z1 : (∀ i, I22 (n) i = 0) := by rw [ei]; exact z1
  have r2 : R22 (x) 2 = some (n) := by rw [e9, upR_nj (by decide)]; exact r2
  have k3 : K22 (n + 1) = some (.inl 0, 16) := by rw [ek]; exact k3
  have z3 : (∀ i, I22 (n + 1) i = 0) := by rw [ei]; exact z3
  have r3 : R22 (x) 3 = some (n + 1) := by rw [e9, upR_nj (by decide)]; exact r3
  have k5 : K22 (n + 2) = some (.inl 2, 16) := by rw [ek]; exact k5
  have z5 : (∀ i, I22 (n + 2) i = 0) := by rw [ei]; exact z5
  have r4 : R22 (x) 4 = some (n + 2) := by rw [e9, upR_nj (by decide)]; exact r4
  have k7 : K22 (n + 3) = some (.inl 0, 256) := by rw [ek]; exact k7
  have z7 : (∀ i, I22 (n + 3) i = 0) := by rw [ei]; exact z7
  have r6 : R22 (x) 6 = some (n + 3) := by rw [e9, upR_nj (by decide)]; exact r6
  have k9 : K22 (n + 4) = some (.inl 0, 512) := by rw [ek]; exact k9
  have z9 : (∀ i, I22 (n + 4) i = 0) := by rw [ei]; exact z9
  have r7 : R22 (x) 7 = some (n + 4) := by rw [e9, upR_nj (by decide)]; exact r7
  have k11 : K22 (n + 5) = some (.inl 0, 512) := by rw [ek]; exact k11
  have z11 : (∀ i, I22 (n + 5) i = 0) := by rw [ei]; exact z11
  have r8 : R22 (x) 8 = some (n + 5) := by rw [e9, upR_nj (by decide)]; exact r8
  have k13 : K22 (n + 6) = some (.inl 0, 512) := by rw [ek]; exact k13
  have z13 : (∀ i, I22 (n + 6) i = 0) := by rw [ei]; exact z13
  have r9 : R22 (x) 9 = some (n + 6) := by rw [e9, upR_nj (by decide)]; exact r9
  have k15 : K22 (n + 7) = some (.inl 2, 16) := by rw [ek]; exact k15
  have z15 : (∀ i, I22 (n + 7) i = 0) := by rw [ei]; exact z15
  have r11 : R22 (x) 11 = some (n + 7) := by rw [e9, upR_nj (by decide)]; exact r11
  have k17 : K22 (n + 8) = some (.inl 0, 256) := by rw [ek]; exact k17
  have z17 : (∀ i, I22 (n + 8) i = 0) := by rw [ei]; exact z17
  have r12 : R22 (x) 12 = some (n + 8) := by rw [e9, upR_nj (by decide)]; exact r12
  have k19 : K22 (n + 9) = some (.inl 0, 256) := by rw [ek]; exact k19
  have z19 : (∀ i, I22 (n + 9) i = 0) := by rw [ei]; exact z19
  have r13 : R22 (x) 13 = some (n + 9) := by rw [e9, upR_nj (by decide)]; exact r13
  have k21 : K22 (n + 10) = some (.inl 0, 256) := by rw [ek]; exact k21
  have z21 : (∀ i, I22 (n + 10) i = 0) := by rw [ei]; exact z21
  have r14 : R22 (x) 14 = some (n + 10) := by rw [e9, upR_at]
  have fK : ∀ a, a < n → K22 a = K a := by rw [ek]; exact fK
  have fX : ∀ a, a < n → a ≠ x → R22 a = R a ∧ I22 a = I a := fun a h hx => ⟨(show R22 a = R21 a by rw [e9, upR_ne hx]).trans (fX a h hx).1, (congrFun ei a).trans (fX a h hx).2⟩
  clear e9 ek ei
  obtain ⟨K23, R23, I23, et22, ut22, qt22⟩ := na_ok (K := K22) (R := R22) (I := I22) (n := n + 11) (s := s + 2864) 0 256 (256 : Int32) (by decide +kernel) (by decide)
  have hx : K23 (x) = some (.inr 4, 25) := ((fun a h => (ut22 a h).1) _ (by omega)).trans hx
  have hx1 : I23 (x) 1 = (0 : Int32) := (congrFun ((fun a h => (ut22 a h).2.2) _ (by omega)) _).trans hx1
  have hx5 : I23 (x) 5 = (0 : Int32) := (congrFun ((fun a h => (ut22 a h).2.2) _ (by omega)) _).trans hx5
  have k1 : K23 (n) = some (.inl 0, 256) := ((fun a h => (ut22 a h).1) _ (by omega)).trans k1
  have z1 : (∀ i, I23 (n) i = 0) := fun i => (congrFun ((fun a h => (ut22 a h).2.2) _ (by omega)) i).trans (z1 i)
  have r2 : R23 (x) 2 = some (n) := (congrFun ((fun a h => (ut22 a h).2.1) _ (by omega)) _).trans r2
  have k3 : K23 (n + 1) = some (.inl 0, 16) := ((fun a h => (ut22 a h).1) _ (by omega)).trans k3
  have z3 : (∀ i, I23 (n + 1) i = 0) := fun i => (congrFun ((fun a h => (ut22 a h).2.2) _ (by omega)) i).trans (z3 i)
  have r3 : R23 (x) 3 = some (n + 1) := (congrFun ((fun a h => (ut22 a h).2.1) _ (by omega)) _).trans r3
  have k5 : K23 (n + 2) = some (.inl 2, 16) := ((fun a h => (ut22 a h).1) _ (by omega)).trans k5
  have z5 : (∀ i, I23 (n + 2) i = 0) := fun i => (congrFun ((fun a h => (ut22 a h).2.2) _ (by omega)) i).trans (z5 i)
  have r4 : R23 (x) 4 = some (n + 2) := (congrFun ((fun a h => (ut22 a h).2.1) _ (by omega)) _).trans r4
  have k7 : K23 (n + 3) = some (.inl 0, 256) := ((fun a h => (ut22 a h).1) _ (by omega)).trans k7
  have z7 : (∀ i, I23 (n + 3) i = 0) := fun i => (congrFun ((fun a h => (ut22 a h).2.2) _ (by omega)) i).trans (z7 i)
  have r6 : R23 (x) 6 = some (n + 3) := (congrFun ((fun a h => (ut22 a h).2.1) _ (by omega)) _).trans r6
  have k9 : K23 (n + 4) = some (.inl 0, 512) := ((fun a h => (ut22 a h).1) _ (by omega)).trans k9
  have z9 : (∀ i, I23 (n + 4) i = 0) := fun i => (congrFun ((fun a h => (ut22 a h).2.2) _ (by omega)) i).trans (z9 i)
  have r7 : R23 (x) 7 = some (n + 4) := (congrFun ((fun a h => (ut22 a h).2.1) _ (by omega)) _).trans r7
  have k11 : K23 (n + 5) = some (.inl 0, 512) := ((fun a h => (ut22 a h).1) _ (by omega)).trans k11
  have z11 : (∀ i, I23 (n + 5) i = 0) := fun i => (congrFun ((fun a h => (ut22 a h).2.2) _ (by omega)) i).trans (z11 i)
  have r8 : R23 (x) 8 = some (n + 5) := (congrFun ((fun a h => (ut22 a h).2.1) _ (by omega)) _).trans r8
  have k13 : K23 (n + 6) = some (.inl 0, 512) := ((fun a h => (ut22 a h).1) _ (by omega)).trans k13
  have z13 : (∀ i, I23 (n + 6) i = 0) := fun i => (congrFun ((fun a h => (ut22 a h).2.2) _ (by omega)) i).trans (z13 i)
  have r9 : R23 (x) 9 = some (n + 6) := (congrFun ((fun a h => (ut22 a h).2.1) _ (by omega)) _).trans r9
  have k15 : K23 (n + 7) = some (.inl 2, 16) := ((fun a h => (ut22 a h).1) _ (by omega)).trans k15
  have z15 : (∀ i, I23 (n + 7) i = 0) := fun i => (congrFun ((fun a h => (ut22 a h).2.2) _ (by omega)) i).trans (z15 i)
  have r11 : R23 (x) 11 = some (n + 7) := (congrFun ((fun a h => (ut22 a h).2.1) _ (by omega)) _).trans r11
  have k17 : K23 (n + 8) = some (.inl 0, 256) := ((fun a h => (ut22 a h).1) _ (by omega)).trans k17
  have z17 : (∀ i, I23 (n + 8) i = 0) := fun i => (congrFun ((fun a h => (ut22 a h).2.2) _ (by omega)) i).trans (z17 i)
  have r12 : R23 (x) 12 = some (n + 8) := (congrFun ((fun a h => (ut22 a h).2.1) _ (by omega)) _).trans r12
  have k19 : K23 (n + 9) = some (.inl 0, 256) := ((fun a h => (ut22 a h).1) _ (by omega)).trans k19
  have z19 : (∀ i, I23 (n + 9) i = 0) := fun i => (congrFun ((fun a h => (ut22 a h).2.2) _ (by omega)) i).trans (z19 i)
  have r13 : R23 (x) 13 = some (n + 9) := (congrFun ((fun a h => (ut22 a h).2.1) _ (by omega)) _).trans r13
  have k21 : K23 (n + 10) = some (.inl 0, 256) := ((fun a h => (ut22 a h).1) _ (by omega)).trans k21
  have z21 : (∀ i, I23 (n + 10) i = 0) := fun i => (congrFun ((fun a h => (ut22 a h).2.2) _ (by omega)) i).trans (z21 i)
  have r14 : R23 (x) 14 = some (n + 10) := (congrFun ((fun a h => (ut22 a h).2.1) _ (by omega)) _).trans r14
  have fK : ∀ a, a < n → K23 a = K a := fun a h => ((fun a h => (ut22 a h).1) a (by omega)).trans (fK a h)
  have fX : ∀ a, a < n → a ≠ x → R23 a = R a ∧ I23 a = I a := fun a h hx => ⟨((fun a h => (ut22 a h).2.1) a (by omega)).trans (fX a h hx).1, ((fun a h => (ut22 a h).2.2) a (by omega)).trans (fX a h hx).2⟩
  have k23 : K23 (n + 11) = some (.inl 0, 256) := qt22.1
  have z23 : (∀ i, I23 (n + 11) i = 0) := qt22.2
  obtain ⟨R24, e9⟩ : ∃ Z, Z = upR R23 x 15 (some (n + 11)) := ⟨_, rfl⟩
  obtain ⟨K24, ek⟩ : ∃ Z, Z = K23 := ⟨_, rfl⟩
  obtain ⟨I24, ei⟩ : ∃ Z, Z = I23 := ⟨_, rfl⟩
  have e_24 : hm_pr 4 25 15 (hp K23 R23 (n + 12) (s + 3120) I23) x (n + 11) = some (hp K24 R24 (n + 12) (s + 3120) I24) := by rw [hp_pr hx, ← e9, ← ek, ← ei]
  have hx : K24 (x) = some (.inr 4, 25) := by rw [ek]; exact hx
  have hx1 : I24 (x) 1 = (0 : Int32) := by rw [ei]; exact hx1
  have hx5 : I24 (x) 5 = (0 : Int32) := by rw [ei]; exact hx5
  have k1 : K24 (n) = some (.inl 0, 256) := by rw [ek]; exact k1
  have z1 : (∀ i, I24 (n) i = 0) := by rw [ei]; exact z1
  have r2 : R24 (x) 2 = some (n) := by rw [e9, upR_nj (by decide)]; exact r2
  have k3 : K24 (n + 1) = some (.inl 0, 16) := by rw [ek]; exact k3
  have z3 : (∀ i, I24 (n + 1) i = 0) := by rw [ei]; exact z3
  have r3 : R24 (x) 3 = some (n + 1) := by rw [e9, upR_nj (by decide)]; exact r3
  have k5 : K24 (n + 2) = some (.inl 2, 16) := by rw [ek]; exact k5
  have z5 : (∀ i, I24 (n + 2) i = 0) := by rw [ei]; exact z5
  have r4 : R24 (x) 4 = some (n + 2) := by rw [e9, upR_nj (by decide)]; exact r4
  have k7 : K24 (n + 3) = some (.inl 0, 256) := by rw [ek]; exact k7
  have z7 : (∀ i, I24 (n + 3) i = 0) := by rw [ei]; exact z7
  have r6 : R24 (x) 6 = some (n + 3) := by rw [e9, upR_nj (by decide)]; exact r6
  have k9 : K24 (n + 4) = some (.inl 0, 512) := by rw [ek]; exact k9
  have z9 : (∀ i, I24 (n + 4) i = 0) := by rw [ei]; exact z9
  have r7 : R24 (x) 7 = some (n + 4) := by rw [e9, upR_nj (by decide)]; exact r7
  have k11 : K24 (n + 5) = some (.inl 0, 512) := by rw [ek]; exact k11
  have z11 : (∀ i, I24 (n + 5) i = 0) := by rw [ei]; exact z11
  have r8 : R24 (x) 8 = some (n + 5) := by rw [e9, upR_nj (by decide)]; exact r8
  have k13 : K24 (n + 6) = some (.inl 0, 512) := by rw [ek]; exact k13
  have z13 : (∀ i, I24 (n + 6) i = 0) := by rw [ei]; exact z13
  have r9 : R24 (x) 9 = some (n + 6) := by rw [e9, upR_nj (by decide)]; exact r9
  have k15 : K24 (n + 7) = some (.inl 2, 16) := by rw [ek]; exact k15
  have z15 : (∀ i, I24 (n + 7) i = 0) := by rw [ei]; exact z15
  have r11 : R24 (x) 11 = some (n + 7) := by rw [e9, upR_nj (by decide)]; exact r11
  have k17 : K24 (n + 8) = some (.inl 0, 256) := by rw [ek]; exact k17
  have z17 : (∀ i, I24 (n + 8) i = 0) := by rw [ei]; exact z17
  have r12 : R24 (x) 12 = some (n + 8) := by rw [e9, upR_nj (by decide)]; exact r12
  have k19 : K24 (n + 9) = some (.inl 0, 256) := by rw [ek]; exact k19
  have z19 : (∀ i, I24 (n + 9) i = 0) := by rw [ei]; exact z19
  have r13 : R24 (x) 13 = some (n + 9) := by rw [e9, upR_nj (by decide)]; exact r13
  have k21 : K24 (n + 10) = some (.inl 0, 256) := by rw [ek]; exact k21
  have z21 : (∀ i, I24 (n + 10) i = 0) := by rw [ei]; exact z21
  have r14 : R24 (x) 14 = some (n + 10) := by rw [e9, upR_nj (by decide)]; exact r14
  have k23 : K24 (n + 11) = some (.inl 0, 256) := by rw [ek]; exact k23
  have z23 : (∀ i, I24 (n + 11) i = 0) := by rw [ei]; exact z23
  have r15 : R24 (x) 15 = some (n + 11) := by rw [e9, upR_at]
  have fK : ∀ a, a < n → K24 a = K a := by rw [ek]; exact fK
  have fX : ∀ a, a < n → a ≠ x → R24 a = R a ∧ I24 a = I a := fun a h hx => ⟨(show R24 a = R23 a by rw [e9, upR_ne hx]).trans (fX a h hx).1, (congrFun ei a).trans (fX a h hx).2⟩
  clear e9 ek ei
  obtain ⟨K25, R25, I25, et24, ut24, qt24⟩ := na_ok (K := K24) (R := R24) (I := I24) (n := n + 12) (s := s + 3120) 0 4096 (4096 : Int32) (by decide +kernel) (by decide)
  have hx : K25 (x) = some (.inr 4, 25) := ((fun a h => (ut24 a h).1) _ (by omega)).trans hx
  have hx1 : I25 (x) 1 = (0 : Int32) := (congrFun ((fun a h => (ut24 a h).2.2) _ (by omega)) _).trans hx1
  have hx5 : I25 (x) 5 = (0 : Int32) := (congrFun ((fun a h => (ut24 a h).2.2) _ (by omega)) _).trans hx5
  have k1 : K25 (n) = some (.inl 0, 256) := ((fun a h => (ut24 a h).1) _ (by omega)).trans k1
  have z1 : (∀ i, I25 (n) i = 0) := fun i => (congrFun ((fun a h => (ut24 a h).2.2) _ (by omega)) i).trans (z1 i)
  have r2 : R25 (x) 2 = some (n) := (congrFun ((fun a h => (ut24 a h).2.1) _ (by omega)) _).trans r2
  have k3 : K25 (n + 1) = some (.inl 0, 16) := ((fun a h => (ut24 a h).1) _ (by omega)).trans k3
  have z3 : (∀ i, I25 (n + 1) i = 0) := fun i => (congrFun ((fun a h => (ut24 a h).2.2) _ (by omega)) i).trans (z3 i)
  have r3 : R25 (x) 3 = some (n + 1) := (congrFun ((fun a h => (ut24 a h).2.1) _ (by omega)) _).trans r3
  have k5 : K25 (n + 2) = some (.inl 2, 16) := ((fun a h => (ut24 a h).1) _ (by omega)).trans k5
  have z5 : (∀ i, I25 (n + 2) i = 0) := fun i => (congrFun ((fun a h => (ut24 a h).2.2) _ (by omega)) i).trans (z5 i)
  have r4 : R25 (x) 4 = some (n + 2) := (congrFun ((fun a h => (ut24 a h).2.1) _ (by omega)) _).trans r4
  have k7 : K25 (n + 3) = some (.inl 0, 256) := ((fun a h => (ut24 a h).1) _ (by omega)).trans k7
  have z7 : (∀ i, I25 (n + 3) i = 0) := fun i => (congrFun ((fun a h => (ut24 a h).2.2) _ (by omega)) i).trans (z7 i)
  have r6 : R25 (x) 6 = some (n + 3) := (congrFun ((fun a h => (ut24 a h).2.1) _ (by omega)) _).trans r6
  have k9 : K25 (n + 4) = some (.inl 0, 512) := ((fun a h => (ut24 a h).1) _ (by omega)).trans k9
  have z9 : (∀ i, I25 (n + 4) i = 0) := fun i => (congrFun ((fun a h => (ut24 a h).2.2) _ (by omega)) i).trans (z9 i)
  have r7 : R25 (x) 7 = some (n + 4) := (congrFun ((fun a h => (ut24 a h).2.1) _ (by omega)) _).trans r7
  have k11 : K25 (n + 5) = some (.inl 0, 512) := ((fun a h => (ut24 a h).1) _ (by omega)).trans k11
  have z11 : (∀ i, I25 (n + 5) i = 0) := fun i => (congrFun ((fun a h => (ut24 a h).2.2) _ (by omega)) i).trans (z11 i)
  have r8 : R25 (x) 8 = some (n + 5) := (congrFun ((fun a h => (ut24 a h).2.1) _ (by omega)) _).trans r8
  have k13 : K25 (n + 6) = some (.inl 0, 512) := ((fun a h => (ut24 a h).1) _ (by omega)).trans k13
  have z13 : (∀ i, I25 (n + 6) i = 0) := fun i => (congrFun ((fun a h => (ut24 a h).2.2) _ (by omega)) i).trans (z13 i)
  have r9 : R25 (x) 9 = some (n + 6) := (congrFun ((fun a h => (ut24 a h).2.1) _ (by omega)) _).trans r9
  have k15 : K25 (n + 7) = some (.inl 2, 16) := ((fun a h => (ut24 a h).1) _ (by omega)).trans k15
  have z15 : (∀ i, I25 (n + 7) i = 0) := fun i => (congrFun ((fun a h => (ut24 a h).2.2) _ (by omega)) i).trans (z15 i)
  have r11 : R25 (x) 11 = some (n + 7) := (congrFun ((fun a h => (ut24 a h).2.1) _ (by omega)) _).trans r11
  have k17 : K25 (n + 8) = some (.inl 0, 256) := ((fun a h => (ut24 a h).1) _ (by omega)).trans k17
  have z17 : (∀ i, I25 (n + 8) i = 0) := fun i => (congrFun ((fun a h => (ut24 a h).2.2) _ (by omega)) i).trans (z17 i)
  have r12 : R25 (x) 12 = some (n + 8) := (congrFun ((fun a h => (ut24 a h).2.1) _ (by omega)) _).trans r12
  have k19 : K25 (n + 9) = some (.inl 0, 256) := ((fun a h => (ut24 a h).1) _ (by omega)).trans k19
  have z19 : (∀ i, I25 (n + 9) i = 0) := fun i => (congrFun ((fun a h => (ut24 a h).2.2) _ (by omega)) i).trans (z19 i)
  have r13 : R25 (x) 13 = some (n + 9) := (congrFun ((fun a h => (ut24 a h).2.1) _ (by omega)) _).trans r13
  have k21 : K25 (n + 10) = some (.inl 0, 256) := ((fun a h => (ut24 a h).1) _ (by omega)).trans k21
  have z21 : (∀ i, I25 (n + 10) i = 0) := fun i => (congrFun ((fun a h => (ut24 a h).2.2) _ (by omega)) i).trans (z21 i)
  have r14 : R25 (x) 14 = some (n + 10) := (congrFun ((fun a h => (ut24 a h).2.1) _ (by omega)) _).trans r14
  have k23 : K25 (n + 11) = some (.inl 0, 256) := ((fun a h => (ut24 a h).1) _ (by omega)).trans k23
  have z23 : (∀ i, I25 (n + 11) i = 0) := fun i => (congrFun ((fun a h => (ut24 a h).2.2) _ (by omega)) i).trans (z23 i)
  have r15 : R25 (x) 15 = some (n + 11) := (congrFun ((fun a h => (ut24 a h).2.1) _ (by omega)) _).trans r15
  have fK : ∀ a, a < n → K25 a = K a := fun a h => ((fun a h => (ut24 a h).1) a (by omega)).trans (fK a h)
  have fX : ∀ a, a < n → a ≠ x → R25 a = R a ∧ I25 a = I a := fun a h hx => ⟨((fun a h => (ut24 a h).2.1) a (by omega)).trans (fX a h hx).1, ((fun a h => (ut24 a h).2.2) a (by omega)).trans (fX a h hx).2⟩
  have k25 : K25 (n + 12) = some (.inl 0, 4096) := qt24.1
  have z25 : (∀ i, I25 (n + 12) i = 0) := qt24.2
  obtain ⟨R26, e9⟩ : ∃ Z, Z = upR R25 x 17 (some (n + 12)) := ⟨_, rfl⟩
  obtain ⟨K26, ek⟩ : ∃ Z, Z = K25 := ⟨_, rfl⟩
  obtain ⟨I26, ei⟩ : ∃ Z, Z = I25 := ⟨_, rfl⟩
  have e_26 : hm_pr 4 25 17 (hp K25 R25 (n + 13) (s + 7216) I25) x (n + 12) = some (hp K26 R26 (n + 13) (s + 7216) I26) := by rw [hp_pr hx, ← e9, ← ek, ← ei]
  have hx : K26 (x) = some (.inr 4, 25) := by rw [ek]; exact hx
  have hx1 : I26 (x) 1 = (0 : Int32) := by rw [ei]; exact hx1
  have hx5 : I26 (x) 5 = (0 : Int32) := by rw [ei]; exact hx5
  have k1 : K26 (n) = some (.inl 0, 256) := by rw [ek]; exact k1
  have z1 : (∀ i, I26 (n) i = 0) := by rw [ei]; exact z1
  have r2 : R26 (x) 2 = some (n) := by rw [e9, upR_nj (by decide)]; exact r2
  have k3 : K26 (n + 1) = some (.inl 0, 16) := by rw [ek]; exact k3
  have z3 : (∀ i, I26 (n + 1) i = 0) := by rw [ei]; exact z3
  have r3 : R26 (x) 3 = some (n + 1) := by rw [e9, upR_nj (by decide)]; exact r3
  have k5 : K26 (n + 2) = some (.inl 2, 16) := by rw [ek]; exact k5
  have z5 : (∀ i, I26 (n + 2) i = 0) := by rw [ei]; exact z5
  have r4 : R26 (x) 4 = some (n + 2) := by rw [e9, upR_nj (by decide)]; exact r4
  have k7 : K26 (n + 3) = some (.inl 0, 256) := by rw [ek]; exact k7
  have z7 : (∀ i, I26 (n + 3) i = 0) := by rw [ei]; exact z7
  have r6 : R26 (x) 6 = some (n + 3) := by rw [e9, upR_nj (by decide)]; exact r6
  have k9 : K26 (n + 4) = some (.inl 0, 512) := by rw [ek]; exact k9
  have z9 : (∀ i, I26 (n + 4) i = 0) := by rw [ei]; exact z9
  have r7 : R26 (x) 7 = some (n + 4) := by rw [e9, upR_nj (by decide)]; exact r7
  have k11 : K26 (n + 5) = some (.inl 0, 512) := by rw [ek]; exact k11
  have z11 : (∀ i, I26 (n + 5) i = 0) := by rw [ei]; exact z11
  have r8 : R26 (x) 8 = some (n + 5) := by rw [e9, upR_nj (by decide)]; exact r8
  have k13 : K26 (n + 6) = some (.inl 0, 512) := by rw [ek]; exact k13
  have z13 : (∀ i, I26 (n + 6) i = 0) := by rw [ei]; exact z13
  have r9 : R26 (x) 9 = some (n + 6) := by rw [e9, upR_nj (by decide)]; exact r9
  have k15 : K26 (n + 7) = some (.inl 2, 16) := by rw [ek]; exact k15
  have z15 : (∀ i, I26 (n + 7) i = 0) := by rw [ei]; exact z15
  have r11 : R26 (x) 11 = some (n + 7) := by rw [e9, upR_nj (by decide)]; exact r11
  have k17 : K26 (n + 8) = some (.inl 0, 256) := by rw [ek]; exact k17
  have z17 : (∀ i, I26 (n + 8) i = 0) := by rw [ei]; exact z17
  have r12 : R26 (x) 12 = some (n + 8) := by rw [e9, upR_nj (by decide)]; exact r12
  have k19 : K26 (n + 9) = some (.inl 0, 256) := by rw [ek]; exact k19
  have z19 : (∀ i, I26 (n + 9) i = 0) := by rw [ei]; exact z19
  have r13 : R26 (x) 13 = some (n + 9) := by rw [e9, upR_nj (by decide)]; exact r13
  have k21 : K26 (n + 10) = some (.inl 0, 256) := by rw [ek]; exact k21
  have z21 : (∀ i, I26 (n + 10) i = 0) := by rw [ei]; exact z21
  have r14 : R26 (x) 14 = some (n + 10) := by rw [e9, upR_nj (by decide)]; exact r14
  have k23 : K26 (n + 11) = some (.inl 0, 256) := by rw [ek]; exact k23
  have z23 : (∀ i, I26 (n + 11) i = 0) := by rw [ei]; exact z23
  have r15 : R26 (x) 15 = some (n + 11) := by rw [e9, upR_nj (by decide)]; exact r15
  have k25 : K26 (n + 12) = some (.inl 0, 4096) := by rw [ek]; exact k25
  have z25 : (∀ i, I26 (n + 12) i = 0) := by rw [ei]; exact z25
  have r17 : R26 (x) 17 = some (n + 12) := by rw [e9, upR_at]
  have fK : ∀ a, a < n → K26 a = K a := by rw [ek]; exact fK
  have fX : ∀ a, a < n → a ≠ x → R26 a = R a ∧ I26 a = I a := fun a h hx => ⟨(show R26 a = R25 a by rw [e9, upR_ne hx]).trans (fX a h hx).1, (congrFun ei a).trans (fX a h hx).2⟩
  clear e9 ek ei
  obtain ⟨K27, R27, I27, et26, ut26, qt26⟩ := na_ok (K := K26) (R := R26) (I := I26) (n := n + 13) (s := s + 7216) 0 4096 (4096 : Int32) (by decide +kernel) (by decide)
  have hx : K27 (x) = some (.inr 4, 25) := ((fun a h => (ut26 a h).1) _ (by omega)).trans hx
  have hx1 : I27 (x) 1 = (0 : Int32) := (congrFun ((fun a h => (ut26 a h).2.2) _ (by omega)) _).trans hx1
  have hx5 : I27 (x) 5 = (0 : Int32) := (congrFun ((fun a h => (ut26 a h).2.2) _ (by omega)) _).trans hx5
  have k1 : K27 (n) = some (.inl 0, 256) := ((fun a h => (ut26 a h).1) _ (by omega)).trans k1
  have z1 : (∀ i, I27 (n) i = 0) := fun i => (congrFun ((fun a h => (ut26 a h).2.2) _ (by omega)) i).trans (z1 i)
  have r2 : R27 (x) 2 = some (n) := (congrFun ((fun a h => (ut26 a h).2.1) _ (by omega)) _).trans r2
  have k3 : K27 (n + 1) = some (.inl 0, 16) := ((fun a h => (ut26 a h).1) _ (by omega)).trans k3
  have z3 : (∀ i, I27 (n + 1) i = 0) := fun i => (congrFun ((fun a h => (ut26 a h).2.2) _ (by omega)) i).trans (z3 i)
  have r3 : R27 (x) 3 = some (n + 1) := (congrFun ((fun a h => (ut26 a h).2.1) _ (by omega)) _).trans r3
  have k5 : K27 (n + 2) = some (.inl 2, 16) := ((fun a h => (ut26 a h).1) _ (by omega)).trans k5
  have z5 : (∀ i, I27 (n + 2) i = 0) := fun i => (congrFun ((fun a h => (ut26 a h).2.2) _ (by omega)) i).trans (z5 i)
  have r4 : R27 (x) 4 = some (n + 2) := (congrFun ((fun a h => (ut26 a h).2.1) _ (by omega)) _).trans r4
  have k7 : K27 (n + 3) = some (.inl 0, 256) := ((fun a h => (ut26 a h).1) _ (by omega)).trans k7
  have z7 : (∀ i, I27 (n + 3) i = 0) := fun i => (congrFun ((fun a h => (ut26 a h).2.2) _ (by omega)) i).trans (z7 i)
  have r6 : R27 (x) 6 = some (n + 3) := (congrFun ((fun a h => (ut26 a h).2.1) _ (by omega)) _).trans r6
  have k9 : K27 (n + 4) = some (.inl 0, 512) := ((fun a h => (ut26 a h).1) _ (by omega)).trans k9
  have z9 : (∀ i, I27 (n + 4) i = 0) := fun i => (congrFun ((fun a h => (ut26 a h).2.2) _ (by omega)) i).trans (z9 i)
  have r7 : R27 (x) 7 = some (n + 4) := (congrFun ((fun a h => (ut26 a h).2.1) _ (by omega)) _).trans r7
  have k11 : K27 (n + 5) = some (.inl 0, 512) := ((fun a h => (ut26 a h).1) _ (by omega)).trans k11
  have z11 : (∀ i, I27 (n + 5) i = 0) := fun i => (congrFun ((fun a h => (ut26 a h).2.2) _ (by omega)) i).trans (z11 i)
  have r8 : R27 (x) 8 = some (n + 5) := (congrFun ((fun a h => (ut26 a h).2.1) _ (by omega)) _).trans r8
  have k13 : K27 (n + 6) = some (.inl 0, 512) := ((fun a h => (ut26 a h).1) _ (by omega)).trans k13
  have z13 : (∀ i, I27 (n + 6) i = 0) := fun i => (congrFun ((fun a h => (ut26 a h).2.2) _ (by omega)) i).trans (z13 i)
  have r9 : R27 (x) 9 = some (n + 6) := (congrFun ((fun a h => (ut26 a h).2.1) _ (by omega)) _).trans r9
  have k15 : K27 (n + 7) = some (.inl 2, 16) := ((fun a h => (ut26 a h).1) _ (by omega)).trans k15
  have z15 : (∀ i, I27 (n + 7) i = 0) := fun i => (congrFun ((fun a h => (ut26 a h).2.2) _ (by omega)) i).trans (z15 i)
  have r11 : R27 (x) 11 = some (n + 7) := (congrFun ((fun a h => (ut26 a h).2.1) _ (by omega)) _).trans r11
  have k17 : K27 (n + 8) = some (.inl 0, 256) := ((fun a h => (ut26 a h).1) _ (by omega)).trans k17
  have z17 : (∀ i, I27 (n + 8) i = 0) := fun i => (congrFun ((fun a h => (ut26 a h).2.2) _ (by omega)) i).trans (z17 i)
  have r12 : R27 (x) 12 = some (n + 8) := (congrFun ((fun a h => (ut26 a h).2.1) _ (by omega)) _).trans r12
  have k19 : K27 (n + 9) = some (.inl 0, 256) := ((fun a h => (ut26 a h).1) _ (by omega)).trans k19
  have z19 : (∀ i, I27 (n + 9) i = 0) := fun i => (congrFun ((fun a h => (ut26 a h).2.2) _ (by omega)) i).trans (z19 i)
  have r13 : R27 (x) 13 = some (n + 9) := (congrFun ((fun a h => (ut26 a h).2.1) _ (by omega)) _).trans r13
  have k21 : K27 (n + 10) = some (.inl 0, 256) := ((fun a h => (ut26 a h).1) _ (by omega)).trans k21
  have z21 : (∀ i, I27 (n + 10) i = 0) := fun i => (congrFun ((fun a h => (ut26 a h).2.2) _ (by omega)) i).trans (z21 i)
  have r14 : R27 (x) 14 = some (n + 10) := (congrFun ((fun a h => (ut26 a h).2.1) _ (by omega)) _).trans r14
  have k23 : K27 (n + 11) = some (.inl 0, 256) := ((fun a h => (ut26 a h).1) _ (by omega)).trans k23
  have z23 : (∀ i, I27 (n + 11) i = 0) := fun i => (congrFun ((fun a h => (ut26 a h).2.2) _ (by omega)) i).trans (z23 i)
  have r15 : R27 (x) 15 = some (n + 11) := (congrFun ((fun a h => (ut26 a h).2.1) _ (by omega)) _).trans r15
  have k25 : K27 (n + 12) = some (.inl 0, 4096) := ((fun a h => (ut26 a h).1) _ (by omega)).trans k25
  have z25 : (∀ i, I27 (n + 12) i = 0) := fun i => (congrFun ((fun a h => (ut26 a h).2.2) _ (by omega)) i).trans (z25 i)
  have r17 : R27 (x) 17 = some (n + 12) := (congrFun ((fun a h => (ut26 a h).2.1) _ (by omega)) _).trans r17
  have fK : ∀ a, a < n → K27 a = K a := fun a h => ((fun a h => (ut26 a h).1) a (by omega)).trans (fK a h)
  have fX : ∀ a, a < n → a ≠ x → R27 a = R a ∧ I27 a = I a := fun a h hx => ⟨((fun a h => (ut26 a h).2.1) a (by omega)).trans (fX a h hx).1, ((fun a h => (ut26 a h).2.2) a (by omega)).trans (fX a h hx).2⟩
  have k27 : K27 (n + 13) = some (.inl 0, 4096) := qt26.1
  have z27 : (∀ i, I27 (n + 13) i = 0) := qt26.2
  obtain ⟨R28, e9⟩ : ∃ Z, Z = upR R27 x 18 (some (n + 13)) := ⟨_, rfl⟩
  obtain ⟨K28, ek⟩ : ∃ Z, Z = K27 := ⟨_, rfl⟩
  obtain ⟨I28, ei⟩ : ∃ Z, Z = I27 := ⟨_, rfl⟩
  have e_28 : hm_pr 4 25 18 (hp K27 R27 (n + 14) (s + 11312) I27) x (n + 13) = some (hp K28 R28 (n + 14) (s + 11312) I28) := by rw [hp_pr hx, ← e9, ← ek, ← ei]
  have hx : K28 (x) = some (.inr 4, 25) := by rw [ek]; exact hx
  have hx1 : I28 (x) 1 = (0 : Int32) := by rw [ei]; exact hx1
  have hx5 : I28 (x) 5 = (0 : Int32) := by rw [ei]; exact hx5
  have k1 : K28 (n) = some (.inl 0, 256) := by rw [ek]; exact k1
  have z1 : (∀ i, I28 (n) i = 0) := by rw [ei]; exact z1
  have r2 : R28 (x) 2 = some (n) := by rw [e9, upR_nj (by decide)]; exact r2
  have k3 : K28 (n + 1) = some (.inl 0, 16) := by rw [ek]; exact k3
  have z3 : (∀ i, I28 (n + 1) i = 0) := by rw [ei]; exact z3
  have r3 : R28 (x) 3 = some (n + 1) := by rw [e9, upR_nj (by decide)]; exact r3
  have k5 : K28 (n + 2) = some (.inl 2, 16) := by rw [ek]; exact k5
  have z5 : (∀ i, I28 (n + 2) i = 0) := by rw [ei]; exact z5
  have r4 : R28 (x) 4 = some (n + 2) := by rw [e9, upR_nj (by decide)]; exact r4
  have k7 : K28 (n + 3) = some (.inl 0, 256) := by rw [ek]; exact k7
  have z7 : (∀ i, I28 (n + 3) i = 0) := by rw [ei]; exact z7
  have r6 : R28 (x) 6 = some (n + 3) := by rw [e9, upR_nj (by decide)]; exact r6
  have k9 : K28 (n + 4) = some (.inl 0, 512) := by rw [ek]; exact k9
  have z9 : (∀ i, I28 (n + 4) i = 0) := by rw [ei]; exact z9
  have r7 : R28 (x) 7 = some (n + 4) := by rw [e9, upR_nj (by decide)]; exact r7
  have k11 : K28 (n + 5) = some (.inl 0, 512) := by rw [ek]; exact k11
  have z11 : (∀ i, I28 (n + 5) i = 0) := by rw [ei]; exact z11
  have r8 : R28 (x) 8 = some (n + 5) := by rw [e9, upR_nj (by decide)]; exact r8
  have k13 : K28 (n + 6) = some (.inl 0, 512) := by rw [ek]; exact k13
  have z13 : (∀ i, I28 (n + 6) i = 0) := by rw [ei]; exact z13
  have r9 : R28 (x) 9 = some (n + 6) := by rw [e9, upR_nj (by decide)]; exact r9
  have k15 : K28 (n + 7) = some (.inl 2, 16) := by rw [ek]; exact k15
  have z15 : (∀ i, I28 (n + 7) i = 0) := by rw [ei]; exact z15
  have r11 : R28 (x) 11 = some (n + 7) := by rw [e9, upR_nj (by decide)]; exact r11
  have k17 : K28 (n + 8) = some (.inl 0, 256) := by rw [ek]; exact k17
  have z17 : (∀ i, I28 (n + 8) i = 0) := by rw [ei]; exact z17
  have r12 : R28 (x) 12 = some (n + 8) := by rw [e9, upR_nj (by decide)]; exact r12
  have k19 : K28 (n + 9) = some (.inl 0, 256) := by rw [ek]; exact k19
  have z19 : (∀ i, I28 (n + 9) i = 0) := by rw [ei]; exact z19
  have r13 : R28 (x) 13 = some (n + 9) := by rw [e9, upR_nj (by decide)]; exact r13
  have k21 : K28 (n + 10) = some (.inl 0, 256) := by rw [ek]; exact k21
  have z21 : (∀ i, I28 (n + 10) i = 0) := by rw [ei]; exact z21
  have r14 : R28 (x) 14 = some (n + 10) := by rw [e9, upR_nj (by decide)]; exact r14
  have k23 : K28 (n + 11) = some (.inl 0, 256) := by rw [ek]; exact k23
  have z23 : (∀ i, I28 (n + 11) i = 0) := by rw [ei]; exact z23
  have r15 : R28 (x) 15 = some (n + 11) := by rw [e9, upR_nj (by decide)]; exact r15
  have k25 : K28 (n + 12) = some (.inl 0, 4096) := by rw [ek]; exact k25
  have z25 : (∀ i, I28 (n + 12) i = 0) := by rw [ei]; exact z25
  have r17 : R28 (x) 17 = some (n + 12) := by rw [e9, upR_nj (by decide)]; exact r17
  have k27 : K28 (n + 13) = some (.inl 0, 4096) := by rw [ek]; exact k27
  have z27 : (∀ i, I28 (n + 13) i = 0) := by rw [ei]; exact z27
  have r18 : R28 (x) 18 = some (n + 13) := by rw [e9, upR_at]
  have fK : ∀ a, a < n → K28 a = K a := by rw [ek]; exact fK
  have fX : ∀ a, a < n → a ≠ x → R28 a = R a ∧ I28 a = I a := fun a h hx => ⟨(show R28 a = R27 a by rw [e9, upR_ne hx]).trans (fX a h hx).1, (congrFun ei a).trans (fX a h hx).2⟩
  clear e9 ek ei
  obtain ⟨K29, R29, I29, et28, ut28, qt28⟩ := na_ok (K := K28) (R := R28) (I := I28) (n := n + 14) (s := s + 11312) 0 4096 (4096 : Int32) (by decide +kernel) (by decide)
  have hx : K29 (x) = some (.inr 4, 25) := ((fun a h => (ut28 a h).1) _ (by omega)).trans hx
  have hx1 : I29 (x) 1 = (0 : Int32) := (congrFun ((fun a h => (ut28 a h).2.2) _ (by omega)) _).trans hx1
  have hx5 : I29 (x) 5 = (0 : Int32) := (congrFun ((fun a h => (ut28 a h).2.2) _ (by omega)) _).trans hx5
  have k1 : K29 (n) = some (.inl 0, 256) := ((fun a h => (ut28 a h).1) _ (by omega)).trans k1
  have z1 : (∀ i, I29 (n) i = 0) := fun i => (congrFun ((fun a h => (ut28 a h).2.2) _ (by omega)) i).trans (z1 i)
  have r2 : R29 (x) 2 = some (n) := (congrFun ((fun a h => (ut28 a h).2.1) _ (by omega)) _).trans r2
  have k3 : K29 (n + 1) = some (.inl 0, 16) := ((fun a h => (ut28 a h).1) _ (by omega)).trans k3
  have z3 : (∀ i, I29 (n + 1) i = 0) := fun i => (congrFun ((fun a h => (ut28 a h).2.2) _ (by omega)) i).trans (z3 i)
  have r3 : R29 (x) 3 = some (n + 1) := (congrFun ((fun a h => (ut28 a h).2.1) _ (by omega)) _).trans r3
  have k5 : K29 (n + 2) = some (.inl 2, 16) := ((fun a h => (ut28 a h).1) _ (by omega)).trans k5
  have z5 : (∀ i, I29 (n + 2) i = 0) := fun i => (congrFun ((fun a h => (ut28 a h).2.2) _ (by omega)) i).trans (z5 i)
  have r4 : R29 (x) 4 = some (n + 2) := (congrFun ((fun a h => (ut28 a h).2.1) _ (by omega)) _).trans r4
  have k7 : K29 (n + 3) = some (.inl 0, 256) := ((fun a h => (ut28 a h).1) _ (by omega)).trans k7
  have z7 : (∀ i, I29 (n + 3) i = 0) := fun i => (congrFun ((fun a h => (ut28 a h).2.2) _ (by omega)) i).trans (z7 i)
  have r6 : R29 (x) 6 = some (n + 3) := (congrFun ((fun a h => (ut28 a h).2.1) _ (by omega)) _).trans r6
  have k9 : K29 (n + 4) = some (.inl 0, 512) := ((fun a h => (ut28 a h).1) _ (by omega)).trans k9
  have z9 : (∀ i, I29 (n + 4) i = 0) := fun i => (congrFun ((fun a h => (ut28 a h).2.2) _ (by omega)) i).trans (z9 i)
  have r7 : R29 (x) 7 = some (n + 4) := (congrFun ((fun a h => (ut28 a h).2.1) _ (by omega)) _).trans r7
  have k11 : K29 (n + 5) = some (.inl 0, 512) := ((fun a h => (ut28 a h).1) _ (by omega)).trans k11
  have z11 : (∀ i, I29 (n + 5) i = 0) := fun i => (congrFun ((fun a h => (ut28 a h).2.2) _ (by omega)) i).trans (z11 i)
  have r8 : R29 (x) 8 = some (n + 5) := (congrFun ((fun a h => (ut28 a h).2.1) _ (by omega)) _).trans r8
  have k13 : K29 (n + 6) = some (.inl 0, 512) := ((fun a h => (ut28 a h).1) _ (by omega)).trans k13
  have z13 : (∀ i, I29 (n + 6) i = 0) := fun i => (congrFun ((fun a h => (ut28 a h).2.2) _ (by omega)) i).trans (z13 i)
  have r9 : R29 (x) 9 = some (n + 6) := (congrFun ((fun a h => (ut28 a h).2.1) _ (by omega)) _).trans r9
  have k15 : K29 (n + 7) = some (.inl 2, 16) := ((fun a h => (ut28 a h).1) _ (by omega)).trans k15
  have z15 : (∀ i, I29 (n + 7) i = 0) := fun i => (congrFun ((fun a h => (ut28 a h).2.2) _ (by omega)) i).trans (z15 i)
  have r11 : R29 (x) 11 = some (n + 7) := (congrFun ((fun a h => (ut28 a h).2.1) _ (by omega)) _).trans r11
  have k17 : K29 (n + 8) = some (.inl 0, 256) := ((fun a h => (ut28 a h).1) _ (by omega)).trans k17
  have z17 : (∀ i, I29 (n + 8) i = 0) := fun i => (congrFun ((fun a h => (ut28 a h).2.2) _ (by omega)) i).trans (z17 i)
  have r12 : R29 (x) 12 = some (n + 8) := (congrFun ((fun a h => (ut28 a h).2.1) _ (by omega)) _).trans r12
  have k19 : K29 (n + 9) = some (.inl 0, 256) := ((fun a h => (ut28 a h).1) _ (by omega)).trans k19
  have z19 : (∀ i, I29 (n + 9) i = 0) := fun i => (congrFun ((fun a h => (ut28 a h).2.2) _ (by omega)) i).trans (z19 i)
  have r13 : R29 (x) 13 = some (n + 9) := (congrFun ((fun a h => (ut28 a h).2.1) _ (by omega)) _).trans r13
  have k21 : K29 (n + 10) = some (.inl 0, 256) := ((fun a h => (ut28 a h).1) _ (by omega)).trans k21
  have z21 : (∀ i, I29 (n + 10) i = 0) := fun i => (congrFun ((fun a h => (ut28 a h).2.2) _ (by omega)) i).trans (z21 i)
  have r14 : R29 (x) 14 = some (n + 10) := (congrFun ((fun a h => (ut28 a h).2.1) _ (by omega)) _).trans r14
  have k23 : K29 (n + 11) = some (.inl 0, 256) := ((fun a h => (ut28 a h).1) _ (by omega)).trans k23
  have z23 : (∀ i, I29 (n + 11) i = 0) := fun i => (congrFun ((fun a h => (ut28 a h).2.2) _ (by omega)) i).trans (z23 i)
  have r15 : R29 (x) 15 = some (n + 11) := (congrFun ((fun a h => (ut28 a h).2.1) _ (by omega)) _).trans r15
  have k25 : K29 (n + 12) = some (.inl 0, 4096) := ((fun a h => (ut28 a h).1) _ (by omega)).trans k25
  have z25 : (∀ i, I29 (n + 12) i = 0) := fun i => (congrFun ((fun a h => (ut28 a h).2.2) _ (by omega)) i).trans (z25 i)
  have r17 : R29 (x) 17 = some (n + 12) := (congrFun ((fun a h => (ut28 a h).2.1) _ (by omega)) _).trans r17
  have k27 : K29 (n + 13) = some (.inl 0, 4096) := ((fun a h => (ut28 a h).1) _ (by omega)).trans k27
  have z27 : (∀ i, I29 (n + 13) i = 0) := fun i => (congrFun ((fun a h => (ut28 a h).2.2) _ (by omega)) i).trans (z27 i)
  have r18 : R29 (x) 18 = some (n + 13) := (congrFun ((fun a h => (ut28 a h).2.1) _ (by omega)) _).trans r18
  have fK : ∀ a, a < n → K29 a = K a := fun a h => ((fun a h => (ut28 a h).1) a (by omega)).trans (fK a h)
  have fX : ∀ a, a < n → a ≠ x → R29 a = R a ∧ I29 a = I a := fun a h hx => ⟨((fun a h => (ut28 a h).2.1) a (by omega)).trans (fX a h hx).1, ((fun a h => (ut28 a h).2.2) a (by omega)).trans (fX a h hx).2⟩
  have k29 : K29 (n + 14) = some (.inl 0, 4096) := qt28.1
  have z29 : (∀ i, I29 (n + 14) i = 0) := qt28.2
  obtain ⟨R30, e9⟩ : ∃ Z, Z = upR R29 x 19 (some (n + 14)) := ⟨_, rfl⟩
  obtain ⟨K30, ek⟩ : ∃ Z, Z = K29 := ⟨_, rfl⟩
  obtain ⟨I30, ei⟩ : ∃ Z, Z = I29 := ⟨_, rfl⟩
  have e_30 : hm_pr 4 25 19 (hp K29 R29 (n + 15) (s + 15408) I29) x (n + 14) = some (hp K30 R30 (n + 15) (s + 15408) I30) := by rw [hp_pr hx, ← e9, ← ek, ← ei]
  have hx : K30 (x) = some (.inr 4, 25) := by rw [ek]; exact hx
  have hx1 : I30 (x) 1 = (0 : Int32) := by rw [ei]; exact hx1
  have hx5 : I30 (x) 5 = (0 : Int32) := by rw [ei]; exact hx5
  have k1 : K30 (n) = some (.inl 0, 256) := by rw [ek]; exact k1
  have z1 : (∀ i, I30 (n) i = 0) := by rw [ei]; exact z1
  have r2 : R30 (x) 2 = some (n) := by rw [e9, upR_nj (by decide)]; exact r2
  have k3 : K30 (n + 1) = some (.inl 0, 16) := by rw [ek]; exact k3
  have z3 : (∀ i, I30 (n + 1) i = 0) := by rw [ei]; exact z3
  have r3 : R30 (x) 3 = some (n + 1) := by rw [e9, upR_nj (by decide)]; exact r3
  have k5 : K30 (n + 2) = some (.inl 2, 16) := by rw [ek]; exact k5
  have z5 : (∀ i, I30 (n + 2) i = 0) := by rw [ei]; exact z5
  have r4 : R30 (x) 4 = some (n + 2) := by rw [e9, upR_nj (by decide)]; exact r4
  have k7 : K30 (n + 3) = some (.inl 0, 256) := by rw [ek]; exact k7
  have z7 : (∀ i, I30 (n + 3) i = 0) := by rw [ei]; exact z7
  have r6 : R30 (x) 6 = some (n + 3) := by rw [e9, upR_nj (by decide)]; exact r6
  have k9 : K30 (n + 4) = some (.inl 0, 512) := by rw [ek]; exact k9
  have z9 : (∀ i, I30 (n + 4) i = 0) := by rw [ei]; exact z9
  have r7 : R30 (x) 7 = some (n + 4) := by rw [e9, upR_nj (by decide)]; exact r7
  have k11 : K30 (n + 5) = some (.inl 0, 512) := by rw [ek]; exact k11
  have z11 : (∀ i, I30 (n + 5) i = 0) := by rw [ei]; exact z11
  have r8 : R30 (x) 8 = some (n + 5) := by rw [e9, upR_nj (by decide)]; exact r8
  have k13 : K30 (n + 6) = some (.inl 0, 512) := by rw [ek]; exact k13
  have z13 : (∀ i, I30 (n + 6) i = 0) := by rw [ei]; exact z13
  have r9 : R30 (x) 9 = some (n + 6) := by rw [e9, upR_nj (by decide)]; exact r9
  have k15 : K30 (n + 7) = some (.inl 2, 16) := by rw [ek]; exact k15
  have z15 : (∀ i, I30 (n + 7) i = 0) := by rw [ei]; exact z15
  have r11 : R30 (x) 11 = some (n + 7) := by rw [e9, upR_nj (by decide)]; exact r11
  have k17 : K30 (n + 8) = some (.inl 0, 256) := by rw [ek]; exact k17
  have z17 : (∀ i, I30 (n + 8) i = 0) := by rw [ei]; exact z17
  have r12 : R30 (x) 12 = some (n + 8) := by rw [e9, upR_nj (by decide)]; exact r12
  have k19 : K30 (n + 9) = some (.inl 0, 256) := by rw [ek]; exact k19
  have z19 : (∀ i, I30 (n + 9) i = 0) := by rw [ei]; exact z19
  have r13 : R30 (x) 13 = some (n + 9) := by rw [e9, upR_nj (by decide)]; exact r13
  have k21 : K30 (n + 10) = some (.inl 0, 256) := by rw [ek]; exact k21
  have z21 : (∀ i, I30 (n + 10) i = 0) := by rw [ei]; exact z21
  have r14 : R30 (x) 14 = some (n + 10) := by rw [e9, upR_nj (by decide)]; exact r14
  have k23 : K30 (n + 11) = some (.inl 0, 256) := by rw [ek]; exact k23
  have z23 : (∀ i, I30 (n + 11) i = 0) := by rw [ei]; exact z23
  have r15 : R30 (x) 15 = some (n + 11) := by rw [e9, upR_nj (by decide)]; exact r15
  have k25 : K30 (n + 12) = some (.inl 0, 4096) := by rw [ek]; exact k25
  have z25 : (∀ i, I30 (n + 12) i = 0) := by rw [ei]; exact z25
  have r17 : R30 (x) 17 = some (n + 12) := by rw [e9, upR_nj (by decide)]; exact r17
  have k27 : K30 (n + 13) = some (.inl 0, 4096) := by rw [ek]; exact k27
  have z27 : (∀ i, I30 (n + 13) i = 0) := by rw [ei]; exact z27
  have r18 : R30 (x) 18 = some (n + 13) := by rw [e9, upR_nj (by decide)]; exact r18
  have k29 : K30 (n + 14) = some (.inl 0, 4096) := by rw [ek]; exact k29
  have z29 : (∀ i, I30 (n + 14) i = 0) := by rw [ei]; exact z29
  have r19 : R30 (x) 19 = some (n + 14) := by rw [e9, upR_at]
  have fK : ∀ a, a < n → K30 a = K a := by rw [ek]; exact fK
  have fX : ∀ a, a < n → a ≠ x → R30 a = R a ∧ I30 a = I a := fun a h hx => ⟨(show R30 a = R29 a by rw [e9, upR_ne hx]).trans (fX a h hx).1, (congrFun ei a).trans (fX a h hx).2⟩
  clear e9 ek ei
  obtain ⟨K31, R31, I31, et30, ut30, qt30⟩ := na_ok (K := K30) (R := R30) (I := I30) (n := n + 15) (s := s + 15408) 0 4096 (4096 : Int32) (by decide +kernel) (by decide)
  have hx : K31 (x) = some (.inr 4, 25) := ((fun a h => (ut30 a h).1) _ (by omega)).trans hx
  have hx1 : I31 (x) 1 = (0 : Int32) := (congrFun ((fun a h => (ut30 a h).2.2) _ (by omega)) _).trans hx1
  have hx5 : I31 (x) 5 = (0 : Int32) := (congrFun ((fun a h => (ut30 a h).2.2) _ (by omega)) _).trans hx5
  have k1 : K31 (n) = some (.inl 0, 256) := ((fun a h => (ut30 a h).1) _ (by omega)).trans k1
  have z1 : (∀ i, I31 (n) i = 0) := fun i => (congrFun ((fun a h => (ut30 a h).2.2) _ (by omega)) i).trans (z1 i)
  have r2 : R31 (x) 2 = some (n) := (congrFun ((fun a h => (ut30 a h).2.1) _ (by omega)) _).trans r2
  have k3 : K31 (n + 1) = some (.inl 0, 16) := ((fun a h => (ut30 a h).1) _ (by omega)).trans k3
  have z3 : (∀ i, I31 (n + 1) i = 0) := fun i => (congrFun ((fun a h => (ut30 a h).2.2) _ (by omega)) i).trans (z3 i)
  have r3 : R31 (x) 3 = some (n + 1) := (congrFun ((fun a h => (ut30 a h).2.1) _ (by omega)) _).trans r3
  have k5 : K31 (n + 2) = some (.inl 2, 16) := ((fun a h => (ut30 a h).1) _ (by omega)).trans k5
  have z5 : (∀ i, I31 (n + 2) i = 0) := fun i => (congrFun ((fun a h => (ut30 a h).2.2) _ (by omega)) i).trans (z5 i)
  have r4 : R31 (x) 4 = some (n + 2) := (congrFun ((fun a h => (ut30 a h).2.1) _ (by omega)) _).trans r4
  have k7 : K31 (n + 3) = some (.inl 0, 256) := ((fun a h => (ut30 a h).1) _ (by omega)).trans k7
  have z7 : (∀ i, I31 (n + 3) i = 0) := fun i => (congrFun ((fun a h => (ut30 a h).2.2) _ (by omega)) i).trans (z7 i)
  have r6 : R31 (x) 6 = some (n + 3) := (congrFun ((fun a h => (ut30 a h).2.1) _ (by omega)) _).trans r6
  have k9 : K31 (n + 4) = some (.inl 0, 512) := ((fun a h => (ut30 a h).1) _ (by omega)).trans k9
  have z9 : (∀ i, I31 (n + 4) i = 0) := fun i => (congrFun ((fun a h => (ut30 a h).2.2) _ (by omega)) i).trans (z9 i)
  have r7 : R31 (x) 7 = some (n + 4) := (congrFun ((fun a h => (ut30 a h).2.1) _ (by omega)) _).trans r7
  have k11 : K31 (n + 5) = some (.inl 0, 512) := ((fun a h => (ut30 a h).1) _ (by omega)).trans k11
  have z11 : (∀ i, I31 (n + 5) i = 0) := fun i => (congrFun ((fun a h => (ut30 a h).2.2) _ (by omega)) i).trans (z11 i)
  have r8 : R31 (x) 8 = some (n + 5) := (congrFun ((fun a h => (ut30 a h).2.1) _ (by omega)) _).trans r8
  have k13 : K31 (n + 6) = some (.inl 0, 512) := ((fun a h => (ut30 a h).1) _ (by omega)).trans k13
  have z13 : (∀ i, I31 (n + 6) i = 0) := fun i => (congrFun ((fun a h => (ut30 a h).2.2) _ (by omega)) i).trans (z13 i)
  have r9 : R31 (x) 9 = some (n + 6) := (congrFun ((fun a h => (ut30 a h).2.1) _ (by omega)) _).trans r9
  have k15 : K31 (n + 7) = some (.inl 2, 16) := ((fun a h => (ut30 a h).1) _ (by omega)).trans k15
  have z15 : (∀ i, I31 (n + 7) i = 0) := fun i => (congrFun ((fun a h => (ut30 a h).2.2) _ (by omega)) i).trans (z15 i)
  have r11 : R31 (x) 11 = some (n + 7) := (congrFun ((fun a h => (ut30 a h).2.1) _ (by omega)) _).trans r11
  have k17 : K31 (n + 8) = some (.inl 0, 256) := ((fun a h => (ut30 a h).1) _ (by omega)).trans k17
  have z17 : (∀ i, I31 (n + 8) i = 0) := fun i => (congrFun ((fun a h => (ut30 a h).2.2) _ (by omega)) i).trans (z17 i)
  have r12 : R31 (x) 12 = some (n + 8) := (congrFun ((fun a h => (ut30 a h).2.1) _ (by omega)) _).trans r12
  have k19 : K31 (n + 9) = some (.inl 0, 256) := ((fun a h => (ut30 a h).1) _ (by omega)).trans k19
  have z19 : (∀ i, I31 (n + 9) i = 0) := fun i => (congrFun ((fun a h => (ut30 a h).2.2) _ (by omega)) i).trans (z19 i)
  have r13 : R31 (x) 13 = some (n + 9) := (congrFun ((fun a h => (ut30 a h).2.1) _ (by omega)) _).trans r13
  have k21 : K31 (n + 10) = some (.inl 0, 256) := ((fun a h => (ut30 a h).1) _ (by omega)).trans k21
  have z21 : (∀ i, I31 (n + 10) i = 0) := fun i => (congrFun ((fun a h => (ut30 a h).2.2) _ (by omega)) i).trans (z21 i)
  have r14 : R31 (x) 14 = some (n + 10) := (congrFun ((fun a h => (ut30 a h).2.1) _ (by omega)) _).trans r14
  have k23 : K31 (n + 11) = some (.inl 0, 256) := ((fun a h => (ut30 a h).1) _ (by omega)).trans k23
  have z23 : (∀ i, I31 (n + 11) i = 0) := fun i => (congrFun ((fun a h => (ut30 a h).2.2) _ (by omega)) i).trans (z23 i)
  have r15 : R31 (x) 15 = some (n + 11) := (congrFun ((fun a h => (ut30 a h).2.1) _ (by omega)) _).trans r15
  have k25 : K31 (n + 12) = some (.inl 0, 4096) := ((fun a h => (ut30 a h).1) _ (by omega)).trans k25
  have z25 : (∀ i, I31 (n + 12) i = 0) := fun i => (congrFun ((fun a h => (ut30 a h).2.2) _ (by omega)) i).trans (z25 i)
  have r17 : R31 (x) 17 = some (n + 12) := (congrFun ((fun a h => (ut30 a h).2.1) _ (by omega)) _).trans r17
  have k27 : K31 (n + 13) = some (.inl 0, 4096) := ((fun a h => (ut30 a h).1) _ (by omega)).trans k27
  have z27 : (∀ i, I31 (n + 13) i = 0) := fun i => (congrFun ((fun a h => (ut30 a h).2.2) _ (by omega)) i).trans (z27 i)
  have r18 : R31 (x) 18 = some (n + 13) := (congrFun ((fun a h => (ut30 a h).2.1) _ (by omega)) _).trans r18
  have k29 : K31 (n + 14) = some (.inl 0, 4096) := ((fun a h => (ut30 a h).1) _ (by omega)).trans k29
  have z29 : (∀ i, I31 (n + 14) i = 0) := fun i => (congrFun ((fun a h => (ut30 a h).2.2) _ (by omega)) i).trans (z29 i)
  have r19 : R31 (x) 19 = some (n + 14) := (congrFun ((fun a h => (ut30 a h).2.1) _ (by omega)) _).trans r19
  have fK : ∀ a, a < n → K31 a = K a := fun a h => ((fun a h => (ut30 a h).1) a (by omega)).trans (fK a h)
  have fX : ∀ a, a < n → a ≠ x → R31 a = R a ∧ I31 a = I a := fun a h hx => ⟨((fun a h => (ut30 a h).2.1) a (by omega)).trans (fX a h hx).1, ((fun a h => (ut30 a h).2.2) a (by omega)).trans (fX a h hx).2⟩
  have k31 : K31 (n + 15) = some (.inl 0, 4096) := qt30.1
  have z31 : (∀ i, I31 (n + 15) i = 0) := qt30.2
  obtain ⟨R32, e9⟩ : ∃ Z, Z = upR R31 x 20 (some (n + 15)) := ⟨_, rfl⟩
  obtain ⟨K32, ek⟩ : ∃ Z, Z = K31 := ⟨_, rfl⟩
  obtain ⟨I32, ei⟩ : ∃ Z, Z = I31 := ⟨_, rfl⟩
  have e_32 : hm_pr 4 25 20 (hp K31 R31 (n + 16) (s + 19504) I31) x (n + 15) = some (hp K32 R32 (n + 16) (s + 19504) I32) := by rw [hp_pr hx, ← e9, ← ek, ← ei]
  have hx : K32 (x) = some (.inr 4, 25) := by rw [ek]; exact hx
  have hx1 : I32 (x) 1 = (0 : Int32) := by rw [ei]; exact hx1
  have hx5 : I32 (x) 5 = (0 : Int32) := by rw [ei]; exact hx5
  have k1 : K32 (n) = some (.inl 0, 256) := by rw [ek]; exact k1
  have z1 : (∀ i, I32 (n) i = 0) := by rw [ei]; exact z1
  have r2 : R32 (x) 2 = some (n) := by rw [e9, upR_nj (by decide)]; exact r2
  have k3 : K32 (n + 1) = some (.inl 0, 16) := by rw [ek]; exact k3
  have z3 : (∀ i, I32 (n + 1) i = 0) := by rw [ei]; exact z3
  have r3 : R32 (x) 3 = some (n + 1) := by rw [e9, upR_nj (by decide)]; exact r3
  have k5 : K32 (n + 2) = some (.inl 2, 16) := by rw [ek]; exact k5
  have z5 : (∀ i, I32 (n + 2) i = 0) := by rw [ei]; exact z5
  have r4 : R32 (x) 4 = some (n + 2) := by rw [e9, upR_nj (by decide)]; exact r4
  have k7 : K32 (n + 3) = some (.inl 0, 256) := by rw [ek]; exact k7
  have z7 : (∀ i, I32 (n + 3) i = 0) := by rw [ei]; exact z7
  have r6 : R32 (x) 6 = some (n + 3) := by rw [e9, upR_nj (by decide)]; exact r6
  have k9 : K32 (n + 4) = some (.inl 0, 512) := by rw [ek]; exact k9
  have z9 : (∀ i, I32 (n + 4) i = 0) := by rw [ei]; exact z9
  have r7 : R32 (x) 7 = some (n + 4) := by rw [e9, upR_nj (by decide)]; exact r7
  have k11 : K32 (n + 5) = some (.inl 0, 512) := by rw [ek]; exact k11
  have z11 : (∀ i, I32 (n + 5) i = 0) := by rw [ei]; exact z11
  have r8 : R32 (x) 8 = some (n + 5) := by rw [e9, upR_nj (by decide)]; exact r8
  have k13 : K32 (n + 6) = some (.inl 0, 512) := by rw [ek]; exact k13
  have z13 : (∀ i, I32 (n + 6) i = 0) := by rw [ei]; exact z13
  have r9 : R32 (x) 9 = some (n + 6) := by rw [e9, upR_nj (by decide)]; exact r9
  have k15 : K32 (n + 7) = some (.inl 2, 16) := by rw [ek]; exact k15
  have z15 : (∀ i, I32 (n + 7) i = 0) := by rw [ei]; exact z15
  have r11 : R32 (x) 11 = some (n + 7) := by rw [e9, upR_nj (by decide)]; exact r11
  have k17 : K32 (n + 8) = some (.inl 0, 256) := by rw [ek]; exact k17
  have z17 : (∀ i, I32 (n + 8) i = 0) := by rw [ei]; exact z17
  have r12 : R32 (x) 12 = some (n + 8) := by rw [e9, upR_nj (by decide)]; exact r12
  have k19 : K32 (n + 9) = some (.inl 0, 256) := by rw [ek]; exact k19
  have z19 : (∀ i, I32 (n + 9) i = 0) := by rw [ei]; exact z19
  have r13 : R32 (x) 13 = some (n + 9) := by rw [e9, upR_nj (by decide)]; exact r13
  have k21 : K32 (n + 10) = some (.inl 0, 256) := by rw [ek]; exact k21
  have z21 : (∀ i, I32 (n + 10) i = 0) := by rw [ei]; exact z21
  have r14 : R32 (x) 14 = some (n + 10) := by rw [e9, upR_nj (by decide)]; exact r14
  have k23 : K32 (n + 11) = some (.inl 0, 256) := by rw [ek]; exact k23
  have z23 : (∀ i, I32 (n + 11) i = 0) := by rw [ei]; exact z23
  have r15 : R32 (x) 15 = some (n + 11) := by rw [e9, upR_nj (by decide)]; exact r15
  have k25 : K32 (n + 12) = some (.inl 0, 4096) := by rw [ek]; exact k25
  have z25 : (∀ i, I32 (n + 12) i = 0) := by rw [ei]; exact z25
  have r17 : R32 (x) 17 = some (n + 12) := by rw [e9, upR_nj (by decide)]; exact r17
  have k27 : K32 (n + 13) = some (.inl 0, 4096) := by rw [ek]; exact k27
  have z27 : (∀ i, I32 (n + 13) i = 0) := by rw [ei]; exact z27
  have r18 : R32 (x) 18 = some (n + 13) := by rw [e9, upR_nj (by decide)]; exact r18
  have k29 : K32 (n + 14) = some (.inl 0, 4096) := by rw [ek]; exact k29
  have z29 : (∀ i, I32 (n + 14) i = 0) := by rw [ei]; exact z29
  have r19 : R32 (x) 19 = some (n + 14) := by rw [e9, upR_nj (by decide)]; exact r19
  have k31 : K32 (n + 15) = some (.inl 0, 4096) := by rw [ek]; exact k31
  have z31 : (∀ i, I32 (n + 15) i = 0) := by rw [ei]; exact z31
  have r20 : R32 (x) 20 = some (n + 15) := by rw [e9, upR_at]
  have fK : ∀ a, a < n → K32 a = K a := by rw [ek]; exact fK
  have fX : ∀ a, a < n → a ≠ x → R32 a = R a ∧ I32 a = I a := fun a h hx => ⟨(show R32 a = R31 a by rw [e9, upR_ne hx]).trans (fX a h hx).1, (congrFun ei a).trans (fX a h hx).2⟩
  clear e9 ek ei
  obtain ⟨K33, R33, I33, et32, ut32, qt32⟩ := na_ok (K := K32) (R := R32) (I := I32) (n := n + 16) (s := s + 19504) 0 256 (256 : Int32) (by decide +kernel) (by decide)
  have hx : K33 (x) = some (.inr 4, 25) := ((fun a h => (ut32 a h).1) _ (by omega)).trans hx
  have hx1 : I33 (x) 1 = (0 : Int32) := (congrFun ((fun a h => (ut32 a h).2.2) _ (by omega)) _).trans hx1
  have hx5 : I33 (x) 5 = (0 : Int32) := (congrFun ((fun a h => (ut32 a h).2.2) _ (by omega)) _).trans hx5
  have k1 : K33 (n) = some (.inl 0, 256) := ((fun a h => (ut32 a h).1) _ (by omega)).trans k1
  have z1 : (∀ i, I33 (n) i = 0) := fun i => (congrFun ((fun a h => (ut32 a h).2.2) _ (by omega)) i).trans (z1 i)
  have r2 : R33 (x) 2 = some (n) := (congrFun ((fun a h => (ut32 a h).2.1) _ (by omega)) _).trans r2
  have k3 : K33 (n + 1) = some (.inl 0, 16) := ((fun a h => (ut32 a h).1) _ (by omega)).trans k3
  have z3 : (∀ i, I33 (n + 1) i = 0) := fun i => (congrFun ((fun a h => (ut32 a h).2.2) _ (by omega)) i).trans (z3 i)
  have r3 : R33 (x) 3 = some (n + 1) := (congrFun ((fun a h => (ut32 a h).2.1) _ (by omega)) _).trans r3
  have k5 : K33 (n + 2) = some (.inl 2, 16) := ((fun a h => (ut32 a h).1) _ (by omega)).trans k5
  have z5 : (∀ i, I33 (n + 2) i = 0) := fun i => (congrFun ((fun a h => (ut32 a h).2.2) _ (by omega)) i).trans (z5 i)
  have r4 : R33 (x) 4 = some (n + 2) := (congrFun ((fun a h => (ut32 a h).2.1) _ (by omega)) _).trans r4
  have k7 : K33 (n + 3) = some (.inl 0, 256) := ((fun a h => (ut32 a h).1) _ (by omega)).trans k7
  have z7 : (∀ i, I33 (n + 3) i = 0) := fun i => (congrFun ((fun a h => (ut32 a h).2.2) _ (by omega)) i).trans (z7 i)
  have r6 : R33 (x) 6 = some (n + 3) := (congrFun ((fun a h => (ut32 a h).2.1) _ (by omega)) _).trans r6
  have k9 : K33 (n + 4) = some (.inl 0, 512) := ((fun a h => (ut32 a h).1) _ (by omega)).trans k9
  have z9 : (∀ i, I33 (n + 4) i = 0) := fun i => (congrFun ((fun a h => (ut32 a h).2.2) _ (by omega)) i).trans (z9 i)
  have r7 : R33 (x) 7 = some (n + 4) := (congrFun ((fun a h => (ut32 a h).2.1) _ (by omega)) _).trans r7
  have k11 : K33 (n + 5) = some (.inl 0, 512) := ((fun a h => (ut32 a h).1) _ (by omega)).trans k11
  have z11 : (∀ i, I33 (n + 5) i = 0) := fun i => (congrFun ((fun a h => (ut32 a h).2.2) _ (by omega)) i).trans (z11 i)
  have r8 : R33 (x) 8 = some (n + 5) := (congrFun ((fun a h => (ut32 a h).2.1) _ (by omega)) _).trans r8
  have k13 : K33 (n + 6) = some (.inl 0, 512) := ((fun a h => (ut32 a h).1) _ (by omega)).trans k13
  have z13 : (∀ i, I33 (n + 6) i = 0) := fun i => (congrFun ((fun a h => (ut32 a h).2.2) _ (by omega)) i).trans (z13 i)
  have r9 : R33 (x) 9 = some (n + 6) := (congrFun ((fun a h => (ut32 a h).2.1) _ (by omega)) _).trans r9
  have k15 : K33 (n + 7) = some (.inl 2, 16) := ((fun a h => (ut32 a h).1) _ (by omega)).trans k15
  have z15 : (∀ i, I33 (n + 7) i = 0) := fun i => (congrFun ((fun a h => (ut32 a h).2.2) _ (by omega)) i).trans (z15 i)
  have r11 : R33 (x) 11 = some (n + 7) := (congrFun ((fun a h => (ut32 a h).2.1) _ (by omega)) _).trans r11
  have k17 : K33 (n + 8) = some (.inl 0, 256) := ((fun a h => (ut32 a h).1) _ (by omega)).trans k17
  have z17 : (∀ i, I33 (n + 8) i = 0) := fun i => (congrFun ((fun a h => (ut32 a h).2.2) _ (by omega)) i).trans (z17 i)
  have r12 : R33 (x) 12 = some (n + 8) := (congrFun ((fun a h => (ut32 a h).2.1) _ (by omega)) _).trans r12
  have k19 : K33 (n + 9) = some (.inl 0, 256) := ((fun a h => (ut32 a h).1) _ (by omega)).trans k19
  have z19 : (∀ i, I33 (n + 9) i = 0) := fun i => (congrFun ((fun a h => (ut32 a h).2.2) _ (by omega)) i).trans (z19 i)
  have r13 : R33 (x) 13 = some (n + 9) := (congrFun ((fun a h => (ut32 a h).2.1) _ (by omega)) _).trans r13
  have k21 : K33 (n + 10) = some (.inl 0, 256) := ((fun a h => (ut32 a h).1) _ (by omega)).trans k21
  have z21 : (∀ i, I33 (n + 10) i = 0) := fun i => (congrFun ((fun a h => (ut32 a h).2.2) _ (by omega)) i).trans (z21 i)
  have r14 : R33 (x) 14 = some (n + 10) := (congrFun ((fun a h => (ut32 a h).2.1) _ (by omega)) _).trans r14
  have k23 : K33 (n + 11) = some (.inl 0, 256) := ((fun a h => (ut32 a h).1) _ (by omega)).trans k23
  have z23 : (∀ i, I33 (n + 11) i = 0) := fun i => (congrFun ((fun a h => (ut32 a h).2.2) _ (by omega)) i).trans (z23 i)
  have r15 : R33 (x) 15 = some (n + 11) := (congrFun ((fun a h => (ut32 a h).2.1) _ (by omega)) _).trans r15
  have k25 : K33 (n + 12) = some (.inl 0, 4096) := ((fun a h => (ut32 a h).1) _ (by omega)).trans k25
  have z25 : (∀ i, I33 (n + 12) i = 0) := fun i => (congrFun ((fun a h => (ut32 a h).2.2) _ (by omega)) i).trans (z25 i)
  have r17 : R33 (x) 17 = some (n + 12) := (congrFun ((fun a h => (ut32 a h).2.1) _ (by omega)) _).trans r17
  have k27 : K33 (n + 13) = some (.inl 0, 4096) := ((fun a h => (ut32 a h).1) _ (by omega)).trans k27
  have z27 : (∀ i, I33 (n + 13) i = 0) := fun i => (congrFun ((fun a h => (ut32 a h).2.2) _ (by omega)) i).trans (z27 i)
  have r18 : R33 (x) 18 = some (n + 13) := (congrFun ((fun a h => (ut32 a h).2.1) _ (by omega)) _).trans r18
  have k29 : K33 (n + 14) = some (.inl 0, 4096) := ((fun a h => (ut32 a h).1) _ (by omega)).trans k29
  have z29 : (∀ i, I33 (n + 14) i = 0) := fun i => (congrFun ((fun a h => (ut32 a h).2.2) _ (by omega)) i).trans (z29 i)
  have r19 : R33 (x) 19 = some (n + 14) := (congrFun ((fun a h => (ut32 a h).2.1) _ (by omega)) _).trans r19
  have k31 : K33 (n + 15) = some (.inl 0, 4096) := ((fun a h => (ut32 a h).1) _ (by omega)).trans k31
  have z31 : (∀ i, I33 (n + 15) i = 0) := fun i => (congrFun ((fun a h => (ut32 a h).2.2) _ (by omega)) i).trans (z31 i)
  have r20 : R33 (x) 20 = some (n + 15) := (congrFun ((fun a h => (ut32 a h).2.1) _ (by omega)) _).trans r20
  have fK : ∀ a, a < n → K33 a = K a := fun a h => ((fun a h => (ut32 a h).1) a (by omega)).trans (fK a h)
  have fX : ∀ a, a < n → a ≠ x → R33 a = R a ∧ I33 a = I a := fun a h hx => ⟨((fun a h => (ut32 a h).2.1) a (by omega)).trans (fX a h hx).1, ((fun a h => (ut32 a h).2.2) a (by omega)).trans (fX a h hx).2⟩
  have k33 : K33 (n + 16) = some (.inl 0, 256) := qt32.1
  have z33 : (∀ i, I33 (n + 16) i = 0) := qt32.2
  obtain ⟨R34, e9⟩ : ∃ Z, Z = upR R33 x 21 (some (n + 16)) := ⟨_, rfl⟩
  obtain ⟨K34, ek⟩ : ∃ Z, Z = K33 := ⟨_, rfl⟩
  obtain ⟨I34, ei⟩ : ∃ Z, Z = I33 := ⟨_, rfl⟩
  have e_34 : hm_pr 4 25 21 (hp K33 R33 (n + 17) (s + 19760) I33) x (n + 16) = some (hp K34 R34 (n + 17) (s + 19760) I34) := by rw [hp_pr hx, ← e9, ← ek, ← ei]
  have hx : K34 (x) = some (.inr 4, 25) := by rw [ek]; exact hx
  have hx1 : I34 (x) 1 = (0 : Int32) := by rw [ei]; exact hx1
  have hx5 : I34 (x) 5 = (0 : Int32) := by rw [ei]; exact hx5
  have k1 : K34 (n) = some (.inl 0, 256) := by rw [ek]; exact k1
  have z1 : (∀ i, I34 (n) i = 0) := by rw [ei]; exact z1
  have r2 : R34 (x) 2 = some (n) := by rw [e9, upR_nj (by decide)]; exact r2
  have k3 : K34 (n + 1) = some (.inl 0, 16) := by rw [ek]; exact k3
  have z3 : (∀ i, I34 (n + 1) i = 0) := by rw [ei]; exact z3
  have r3 : R34 (x) 3 = some (n + 1) := by rw [e9, upR_nj (by decide)]; exact r3
  have k5 : K34 (n + 2) = some (.inl 2, 16) := by rw [ek]; exact k5
  have z5 : (∀ i, I34 (n + 2) i = 0) := by rw [ei]; exact z5
  have r4 : R34 (x) 4 = some (n + 2) := by rw [e9, upR_nj (by decide)]; exact r4
  have k7 : K34 (n + 3) = some (.inl 0, 256) := by rw [ek]; exact k7
  have z7 : (∀ i, I34 (n + 3) i = 0) := by rw [ei]; exact z7
  have r6 : R34 (x) 6 = some (n + 3) := by rw [e9, upR_nj (by decide)]; exact r6
  have k9 : K34 (n + 4) = some (.inl 0, 512) := by rw [ek]; exact k9
  have z9 : (∀ i, I34 (n + 4) i = 0) := by rw [ei]; exact z9
  have r7 : R34 (x) 7 = some (n + 4) := by rw [e9, upR_nj (by decide)]; exact r7
  have k11 : K34 (n + 5) = some (.inl 0, 512) := by rw [ek]; exact k11
  have z11 : (∀ i, I34 (n + 5) i = 0) := by rw [ei]; exact z11
  have r8 : R34 (x) 8 = some (n + 5) := by rw [e9, upR_nj (by decide)]; exact r8
  have k13 : K34 (n + 6) = some (.inl 0, 512) := by rw [ek]; exact k13
  have z13 : (∀ i, I34 (n + 6) i = 0) := by rw [ei]; exact z13
  have r9 : R34 (x) 9 = some (n + 6) := by rw [e9, upR_nj (by decide)]; exact r9
  have k15 : K34 (n + 7) = some (.inl 2, 16) := by rw [ek]; exact k15
  have z15 : (∀ i, I34 (n + 7) i = 0) := by rw [ei]; exact z15
  have r11 : R34 (x) 11 = some (n + 7) := by rw [e9, upR_nj (by decide)]; exact r11
  have k17 : K34 (n + 8) = some (.inl 0, 256) := by rw [ek]; exact k17
  have z17 : (∀ i, I34 (n + 8) i = 0) := by rw [ei]; exact z17
  have r12 : R34 (x) 12 = some (n + 8) := by rw [e9, upR_nj (by decide)]; exact r12
  have k19 : K34 (n + 9) = some (.inl 0, 256) := by rw [ek]; exact k19
  have z19 : (∀ i, I34 (n + 9) i = 0) := by rw [ei]; exact z19
  have r13 : R34 (x) 13 = some (n + 9) := by rw [e9, upR_nj (by decide)]; exact r13
  have k21 : K34 (n + 10) = some (.inl 0, 256) := by rw [ek]; exact k21
  have z21 : (∀ i, I34 (n + 10) i = 0) := by rw [ei]; exact z21
  have r14 : R34 (x) 14 = some (n + 10) := by rw [e9, upR_nj (by decide)]; exact r14
  have k23 : K34 (n + 11) = some (.inl 0, 256) := by rw [ek]; exact k23
  have z23 : (∀ i, I34 (n + 11) i = 0) := by rw [ei]; exact z23
  have r15 : R34 (x) 15 = some (n + 11) := by rw [e9, upR_nj (by decide)]; exact r15
  have k25 : K34 (n + 12) = some (.inl 0, 4096) := by rw [ek]; exact k25
  have z25 : (∀ i, I34 (n + 12) i = 0) := by rw [ei]; exact z25
  have r17 : R34 (x) 17 = some (n + 12) := by rw [e9, upR_nj (by decide)]; exact r17
  have k27 : K34 (n + 13) = some (.inl 0, 4096) := by rw [ek]; exact k27
  have z27 : (∀ i, I34 (n + 13) i = 0) := by rw [ei]; exact z27
  have r18 : R34 (x) 18 = some (n + 13) := by rw [e9, upR_nj (by decide)]; exact r18
  have k29 : K34 (n + 14) = some (.inl 0, 4096) := by rw [ek]; exact k29
  have z29 : (∀ i, I34 (n + 14) i = 0) := by rw [ei]; exact z29
  have r19 : R34 (x) 19 = some (n + 14) := by rw [e9, upR_nj (by decide)]; exact r19
  have k31 : K34 (n + 15) = some (.inl 0, 4096) := by rw [ek]; exact k31
  have z31 : (∀ i, I34 (n + 15) i = 0) := by rw [ei]; exact z31
  have r20 : R34 (x) 20 = some (n + 15) := by rw [e9, upR_nj (by decide)]; exact r20
  have k33 : K34 (n + 16) = some (.inl 0, 256) := by rw [ek]; exact k33
  have z33 : (∀ i, I34 (n + 16) i = 0) := by rw [ei]; exact z33
  have r21 : R34 (x) 21 = some (n + 16) := by rw [e9, upR_at]
  have fK : ∀ a, a < n → K34 a = K a := by rw [ek]; exact fK
  have fX : ∀ a, a < n → a ≠ x → R34 a = R a ∧ I34 a = I a := fun a h hx => ⟨(show R34 a = R33 a by rw [e9, upR_ne hx]).trans (fX a h hx).1, (congrFun ei a).trans (fX a h hx).2⟩
  clear e9 ek ei
  obtain ⟨K35, R35, I35, et34, ut34, qt34⟩ := na_ok (K := K34) (R := R34) (I := I34) (n := n + 17) (s := s + 19760) 0 256 (256 : Int32) (by decide +kernel) (by decide)
  have hx : K35 (x) = some (.inr 4, 25) := ((fun a h => (ut34 a h).1) _ (by omega)).trans hx
  have hx1 : I35 (x) 1 = (0 : Int32) := (congrFun ((fun a h => (ut34 a h).2.2) _ (by omega)) _).trans hx1
  have hx5 : I35 (x) 5 = (0 : Int32) := (congrFun ((fun a h => (ut34 a h).2.2) _ (by omega)) _).trans hx5
  have k1 : K35 (n) = some (.inl 0, 256) := ((fun a h => (ut34 a h).1) _ (by omega)).trans k1
  have z1 : (∀ i, I35 (n) i = 0) := fun i => (congrFun ((fun a h => (ut34 a h).2.2) _ (by omega)) i).trans (z1 i)
  have r2 : R35 (x) 2 = some (n) := (congrFun ((fun a h => (ut34 a h).2.1) _ (by omega)) _).trans r2
  have k3 : K35 (n + 1) = some (.inl 0, 16) := ((fun a h => (ut34 a h).1) _ (by omega)).trans k3
  have z3 : (∀ i, I35 (n + 1) i = 0) := fun i => (congrFun ((fun a h => (ut34 a h).2.2) _ (by omega)) i).trans (z3 i)
  have r3 : R35 (x) 3 = some (n + 1) := (congrFun ((fun a h => (ut34 a h).2.1) _ (by omega)) _).trans r3
  have k5 : K35 (n + 2) = some (.inl 2, 16) := ((fun a h => (ut34 a h).1) _ (by omega)).trans k5
  have z5 : (∀ i, I35 (n + 2) i = 0) := fun i => (congrFun ((fun a h => (ut34 a h).2.2) _ (by omega)) i).trans (z5 i)
  have r4 : R35 (x) 4 = some (n + 2) := (congrFun ((fun a h => (ut34 a h).2.1) _ (by omega)) _).trans r4
  have k7 : K35 (n + 3) = some (.inl 0, 256) := ((fun a h => (ut34 a h).1) _ (by omega)).trans k7
  have z7 : (∀ i, I35 (n + 3) i = 0) := fun i => (congrFun ((fun a h => (ut34 a h).2.2) _ (by omega)) i).trans (z7 i)
  have r6 : R35 (x) 6 = some (n + 3) := (congrFun ((fun a h => (ut34 a h).2.1) _ (by omega)) _).trans r6
  have k9 : K35 (n + 4) = some (.inl 0, 512) := ((fun a h => (ut34 a h).1) _ (by omega)).trans k9
  have z9 : (∀ i, I35 (n + 4) i = 0) := fun i => (congrFun ((fun a h => (ut34 a h).2.2) _ (by omega)) i).trans (z9 i)
  have r7 : R35 (x) 7 = some (n + 4) := (congrFun ((fun a h => (ut34 a h).2.1) _ (by omega)) _).trans r7
  have k11 : K35 (n + 5) = some (.inl 0, 512) := ((fun a h => (ut34 a h).1) _ (by omega)).trans k11
  have z11 : (∀ i, I35 (n + 5) i = 0) := fun i => (congrFun ((fun a h => (ut34 a h).2.2) _ (by omega)) i).trans (z11 i)
  have r8 : R35 (x) 8 = some (n + 5) := (congrFun ((fun a h => (ut34 a h).2.1) _ (by omega)) _).trans r8
  have k13 : K35 (n + 6) = some (.inl 0, 512) := ((fun a h => (ut34 a h).1) _ (by omega)).trans k13
  have z13 : (∀ i, I35 (n + 6) i = 0) := fun i => (congrFun ((fun a h => (ut34 a h).2.2) _ (by omega)) i).trans (z13 i)
  have r9 : R35 (x) 9 = some (n + 6) := (congrFun ((fun a h => (ut34 a h).2.1) _ (by omega)) _).trans r9
  have k15 : K35 (n + 7) = some (.inl 2, 16) := ((fun a h => (ut34 a h).1) _ (by omega)).trans k15
  have z15 : (∀ i, I35 (n + 7) i = 0) := fun i => (congrFun ((fun a h => (ut34 a h).2.2) _ (by omega)) i).trans (z15 i)
  have r11 : R35 (x) 11 = some (n + 7) := (congrFun ((fun a h => (ut34 a h).2.1) _ (by omega)) _).trans r11
  have k17 : K35 (n + 8) = some (.inl 0, 256) := ((fun a h => (ut34 a h).1) _ (by omega)).trans k17
  have z17 : (∀ i, I35 (n + 8) i = 0) := fun i => (congrFun ((fun a h => (ut34 a h).2.2) _ (by omega)) i).trans (z17 i)
  have r12 : R35 (x) 12 = some (n + 8) := (congrFun ((fun a h => (ut34 a h).2.1) _ (by omega)) _).trans r12
  have k19 : K35 (n + 9) = some (.inl 0, 256) := ((fun a h => (ut34 a h).1) _ (by omega)).trans k19
  have z19 : (∀ i, I35 (n + 9) i = 0) := fun i => (congrFun ((fun a h => (ut34 a h).2.2) _ (by omega)) i).trans (z19 i)
  have r13 : R35 (x) 13 = some (n + 9) := (congrFun ((fun a h => (ut34 a h).2.1) _ (by omega)) _).trans r13
  have k21 : K35 (n + 10) = some (.inl 0, 256) := ((fun a h => (ut34 a h).1) _ (by omega)).trans k21
  have z21 : (∀ i, I35 (n + 10) i = 0) := fun i => (congrFun ((fun a h => (ut34 a h).2.2) _ (by omega)) i).trans (z21 i)
  have r14 : R35 (x) 14 = some (n + 10) := (congrFun ((fun a h => (ut34 a h).2.1) _ (by omega)) _).trans r14
  have k23 : K35 (n + 11) = some (.inl 0, 256) := ((fun a h => (ut34 a h).1) _ (by omega)).trans k23
  have z23 : (∀ i, I35 (n + 11) i = 0) := fun i => (congrFun ((fun a h => (ut34 a h).2.2) _ (by omega)) i).trans (z23 i)
  have r15 : R35 (x) 15 = some (n + 11) := (congrFun ((fun a h => (ut34 a h).2.1) _ (by omega)) _).trans r15
  have k25 : K35 (n + 12) = some (.inl 0, 4096) := ((fun a h => (ut34 a h).1) _ (by omega)).trans k25
  have z25 : (∀ i, I35 (n + 12) i = 0) := fun i => (congrFun ((fun a h => (ut34 a h).2.2) _ (by omega)) i).trans (z25 i)
  have r17 : R35 (x) 17 = some (n + 12) := (congrFun ((fun a h => (ut34 a h).2.1) _ (by omega)) _).trans r17
  have k27 : K35 (n + 13) = some (.inl 0, 4096) := ((fun a h => (ut34 a h).1) _ (by omega)).trans k27
  have z27 : (∀ i, I35 (n + 13) i = 0) := fun i => (congrFun ((fun a h => (ut34 a h).2.2) _ (by omega)) i).trans (z27 i)
  have r18 : R35 (x) 18 = some (n + 13) := (congrFun ((fun a h => (ut34 a h).2.1) _ (by omega)) _).trans r18
  have k29 : K35 (n + 14) = some (.inl 0, 4096) := ((fun a h => (ut34 a h).1) _ (by omega)).trans k29
  have z29 : (∀ i, I35 (n + 14) i = 0) := fun i => (congrFun ((fun a h => (ut34 a h).2.2) _ (by omega)) i).trans (z29 i)
  have r19 : R35 (x) 19 = some (n + 14) := (congrFun ((fun a h => (ut34 a h).2.1) _ (by omega)) _).trans r19
  have k31 : K35 (n + 15) = some (.inl 0, 4096) := ((fun a h => (ut34 a h).1) _ (by omega)).trans k31
  have z31 : (∀ i, I35 (n + 15) i = 0) := fun i => (congrFun ((fun a h => (ut34 a h).2.2) _ (by omega)) i).trans (z31 i)
  have r20 : R35 (x) 20 = some (n + 15) := (congrFun ((fun a h => (ut34 a h).2.1) _ (by omega)) _).trans r20
  have k33 : K35 (n + 16) = some (.inl 0, 256) := ((fun a h => (ut34 a h).1) _ (by omega)).trans k33
  have z33 : (∀ i, I35 (n + 16) i = 0) := fun i => (congrFun ((fun a h => (ut34 a h).2.2) _ (by omega)) i).trans (z33 i)
  have r21 : R35 (x) 21 = some (n + 16) := (congrFun ((fun a h => (ut34 a h).2.1) _ (by omega)) _).trans r21
  have fK : ∀ a, a < n → K35 a = K a := fun a h => ((fun a h => (ut34 a h).1) a (by omega)).trans (fK a h)
  have fX : ∀ a, a < n → a ≠ x → R35 a = R a ∧ I35 a = I a := fun a h hx => ⟨((fun a h => (ut34 a h).2.1) a (by omega)).trans (fX a h hx).1, ((fun a h => (ut34 a h).2.2) a (by omega)).trans (fX a h hx).2⟩
  have k35 : K35 (n + 17) = some (.inl 0, 256) := qt34.1
  have z35 : (∀ i, I35 (n + 17) i = 0) := qt34.2
  obtain ⟨R36, e9⟩ : ∃ Z, Z = upR R35 x 22 (some (n + 17)) := ⟨_, rfl⟩
  obtain ⟨K36, ek⟩ : ∃ Z, Z = K35 := ⟨_, rfl⟩
  obtain ⟨I36, ei⟩ : ∃ Z, Z = I35 := ⟨_, rfl⟩
  have e_36 : hm_pr 4 25 22 (hp K35 R35 (n + 18) (s + 20016) I35) x (n + 17) = some (hp K36 R36 (n + 18) (s + 20016) I36) := by rw [hp_pr hx, ← e9, ← ek, ← ei]
  have hx : K36 (x) = some (.inr 4, 25) := by rw [ek]; exact hx
  have hx1 : I36 (x) 1 = (0 : Int32) := by rw [ei]; exact hx1
  have hx5 : I36 (x) 5 = (0 : Int32) := by rw [ei]; exact hx5
  have k1 : K36 (n) = some (.inl 0, 256) := by rw [ek]; exact k1
  have z1 : (∀ i, I36 (n) i = 0) := by rw [ei]; exact z1
  have r2 : R36 (x) 2 = some (n) := by rw [e9, upR_nj (by decide)]; exact r2
  have k3 : K36 (n + 1) = some (.inl 0, 16) := by rw [ek]; exact k3
  have z3 : (∀ i, I36 (n + 1) i = 0) := by rw [ei]; exact z3
  have r3 : R36 (x) 3 = some (n + 1) := by rw [e9, upR_nj (by decide)]; exact r3
  have k5 : K36 (n + 2) = some (.inl 2, 16) := by rw [ek]; exact k5
  have z5 : (∀ i, I36 (n + 2) i = 0) := by rw [ei]; exact z5
  have r4 : R36 (x) 4 = some (n + 2) := by rw [e9, upR_nj (by decide)]; exact r4
  have k7 : K36 (n + 3) = some (.inl 0, 256) := by rw [ek]; exact k7
  have z7 : (∀ i, I36 (n + 3) i = 0) := by rw [ei]; exact z7
  have r6 : R36 (x) 6 = some (n + 3) := by rw [e9, upR_nj (by decide)]; exact r6
  have k9 : K36 (n + 4) = some (.inl 0, 512) := by rw [ek]; exact k9
  have z9 : (∀ i, I36 (n + 4) i = 0) := by rw [ei]; exact z9
  have r7 : R36 (x) 7 = some (n + 4) := by rw [e9, upR_nj (by decide)]; exact r7
  have k11 : K36 (n + 5) = some (.inl 0, 512) := by rw [ek]; exact k11
  have z11 : (∀ i, I36 (n + 5) i = 0) := by rw [ei]; exact z11
  have r8 : R36 (x) 8 = some (n + 5) := by rw [e9, upR_nj (by decide)]; exact r8
  have k13 : K36 (n + 6) = some (.inl 0, 512) := by rw [ek]; exact k13
  have z13 : (∀ i, I36 (n + 6) i = 0) := by rw [ei]; exact z13
  have r9 : R36 (x) 9 = some (n + 6) := by rw [e9, upR_nj (by decide)]; exact r9
  have k15 : K36 (n + 7) = some (.inl 2, 16) := by rw [ek]; exact k15
  have z15 : (∀ i, I36 (n + 7) i = 0) := by rw [ei]; exact z15
  have r11 : R36 (x) 11 = some (n + 7) := by rw [e9, upR_nj (by decide)]; exact r11
  have k17 : K36 (n + 8) = some (.inl 0, 256) := by rw [ek]; exact k17
  have z17 : (∀ i, I36 (n + 8) i = 0) := by rw [ei]; exact z17
  have r12 : R36 (x) 12 = some (n + 8) := by rw [e9, upR_nj (by decide)]; exact r12
  have k19 : K36 (n + 9) = some (.inl 0, 256) := by rw [ek]; exact k19
  have z19 : (∀ i, I36 (n + 9) i = 0) := by rw [ei]; exact z19
  have r13 : R36 (x) 13 = some (n + 9) := by rw [e9, upR_nj (by decide)]; exact r13
  have k21 : K36 (n + 10) = some (.inl 0, 256) := by rw [ek]; exact k21
  have z21 : (∀ i, I36 (n + 10) i = 0) := by rw [ei]; exact z21
  have r14 : R36 (x) 14 = some (n + 10) := by rw [e9, upR_nj (by decide)]; exact r14
  have k23 : K36 (n + 11) = some (.inl 0, 256) := by rw [ek]; exact k23
  have z23 : (∀ i, I36 (n + 11) i = 0) := by rw [ei]; exact z23
  have r15 : R36 (x) 15 = some (n + 11) := by rw [e9, upR_nj (by decide)]; exact r15
  have k25 : K36 (n + 12) = some (.inl 0, 4096) := by rw [ek]; exact k25
  have z25 : (∀ i, I36 (n + 12) i = 0) := by rw [ei]; exact z25
  have r17 : R36 (x) 17 = some (n + 12) := by rw [e9, upR_nj (by decide)]; exact r17
  have k27 : K36 (n + 13) = some (.inl 0, 4096) := by rw [ek]; exact k27
  have z27 : (∀ i, I36 (n + 13) i = 0) := by rw [ei]; exact z27
  have r18 : R36 (x) 18 = some (n + 13) := by rw [e9, upR_nj (by decide)]; exact r18
  have k29 : K36 (n + 14) = some (.inl 0, 4096) := by rw [ek]; exact k29
  have z29 : (∀ i, I36 (n + 14) i = 0) := by rw [ei]; exact z29
  have r19 : R36 (x) 19 = some (n + 14) := by rw [e9, upR_nj (by decide)]; exact r19
  have k31 : K36 (n + 15) = some (.inl 0, 4096) := by rw [ek]; exact k31
  have z31 : (∀ i, I36 (n + 15) i = 0) := by rw [ei]; exact z31
  have r20 : R36 (x) 20 = some (n + 15) := by rw [e9, upR_nj (by decide)]; exact r20
  have k33 : K36 (n + 16) = some (.inl 0, 256) := by rw [ek]; exact k33
  have z33 : (∀ i, I36 (n + 16) i = 0) := by rw [ei]; exact z33
  have r21 : R36 (x) 21 = some (n + 16) := by rw [e9, upR_nj (by decide)]; exact r21
  have k35 : K36 (n + 17) = some (.inl 0, 256) := by rw [ek]; exact k35
  have z35 : (∀ i, I36 (n + 17) i = 0) := by rw [ei]; exact z35
  have r22 : R36 (x) 22 = some (n + 17) := by rw [e9, upR_at]
  have fK : ∀ a, a < n → K36 a = K a := by rw [ek]; exact fK
  have fX : ∀ a, a < n → a ≠ x → R36 a = R a ∧ I36 a = I a := fun a h hx => ⟨(show R36 a = R35 a by rw [e9, upR_ne hx]).trans (fX a h hx).1, (congrFun ei a).trans (fX a h hx).2⟩
  clear e9 ek ei
  obtain ⟨I37, e9⟩ : ∃ Z, Z = up2 I36 x 0 (0 : Int32) := ⟨_, rfl⟩
  obtain ⟨K37, ek⟩ : ∃ Z, Z = K36 := ⟨_, rfl⟩
  obtain ⟨R37, er⟩ : ∃ Z, Z = R36 := ⟨_, rfl⟩
  have e_37 : hm_pi 4 25 0 (hp K36 R36 (n + 18) (s + 20016) I36) x (0 : Int32) = some (hp K37 R37 (n + 18) (s + 20016) I37) := by rw [hp_pi hx, ← e9, ← ek, ← er]
  have hx : K37 (x) = some (.inr 4, 25) := by rw [ek]; exact hx
  have hx1 : I37 (x) 1 = (0 : Int32) := by rw [e9, up2_nj (by decide)]; exact hx1
  have hx5 : I37 (x) 5 = (0 : Int32) := by rw [e9, up2_nj (by decide)]; exact hx5
  have k1 : K37 (n) = some (.inl 0, 256) := by rw [ek]; exact k1
  have z1 : (∀ i, I37 (n) i = 0) := fun i => by rw [e9, up2_ne (by omega)]; exact z1 i
  have r2 : R37 (x) 2 = some (n) := by rw [er]; exact r2
  have k3 : K37 (n + 1) = some (.inl 0, 16) := by rw [ek]; exact k3
  have z3 : (∀ i, I37 (n + 1) i = 0) := fun i => by rw [e9, up2_ne (by omega)]; exact z3 i
  have r3 : R37 (x) 3 = some (n + 1) := by rw [er]; exact r3
  have k5 : K37 (n + 2) = some (.inl 2, 16) := by rw [ek]; exact k5
  have z5 : (∀ i, I37 (n + 2) i = 0) := fun i => by rw [e9, up2_ne (by omega)]; exact z5 i
  have r4 : R37 (x) 4 = some (n + 2) := by rw [er]; exact r4
  have k7 : K37 (n + 3) = some (.inl 0, 256) := by rw [ek]; exact k7
  have z7 : (∀ i, I37 (n + 3) i = 0) := fun i => by rw [e9, up2_ne (by omega)]; exact z7 i
  have r6 : R37 (x) 6 = some (n + 3) := by rw [er]; exact r6
  have k9 : K37 (n + 4) = some (.inl 0, 512) := by rw [ek]; exact k9
  have z9 : (∀ i, I37 (n + 4) i = 0) := fun i => by rw [e9, up2_ne (by omega)]; exact z9 i
  have r7 : R37 (x) 7 = some (n + 4) := by rw [er]; exact r7
  have k11 : K37 (n + 5) = some (.inl 0, 512) := by rw [ek]; exact k11
  have z11 : (∀ i, I37 (n + 5) i = 0) := fun i => by rw [e9, up2_ne (by omega)]; exact z11 i
  have r8 : R37 (x) 8 = some (n + 5) := by rw [er]; exact r8
  have k13 : K37 (n + 6) = some (.inl 0, 512) := by rw [ek]; exact k13
  have z13 : (∀ i, I37 (n + 6) i = 0) := fun i => by rw [e9, up2_ne (by omega)]; exact z13 i
  have r9 : R37 (x) 9 = some (n + 6) := by rw [er]; exact r9
  have k15 : K37 (n + 7) = some (.inl 2, 16) := by rw [ek]; exact k15
  have z15 : (∀ i, I37 (n + 7) i = 0) := fun i => by rw [e9, up2_ne (by omega)]; exact z15 i
  have r11 : R37 (x) 11 = some (n + 7) := by rw [er]; exact r11
  have k17 : K37 (n + 8) = some (.inl 0, 256) := by rw [ek]; exact k17
  have z17 : (∀ i, I37 (n + 8) i = 0) := fun i => by rw [e9, up2_ne (by omega)]; exact z17 i
  have r12 : R37 (x) 12 = some (n + 8) := by rw [er]; exact r12
  have k19 : K37 (n + 9) = some (.inl 0, 256) := by rw [ek]; exact k19
  have z19 : (∀ i, I37 (n + 9) i = 0) := fun i => by rw [e9, up2_ne (by omega)]; exact z19 i
  have r13 : R37 (x) 13 = some (n + 9) := by rw [er]; exact r13
  have k21 : K37 (n + 10) = some (.inl 0, 256) := by rw [ek]; exact k21
  have z21 : (∀ i, I37 (n + 10) i = 0) := fun i => by rw [e9, up2_ne (by omega)]; exact z21 i
  have r14 : R37 (x) 14 = some (n + 10) := by rw [er]; exact r14
  have k23 : K37 (n + 11) = some (.inl 0, 256) := by rw [ek]; exact k23
  have z23 : (∀ i, I37 (n + 11) i = 0) := fun i => by rw [e9, up2_ne (by omega)]; exact z23 i
  have r15 : R37 (x) 15 = some (n + 11) := by rw [er]; exact r15
  have k25 : K37 (n + 12) = some (.inl 0, 4096) := by rw [ek]; exact k25
  have z25 : (∀ i, I37 (n + 12) i = 0) := fun i => by rw [e9, up2_ne (by omega)]; exact z25 i
  have r17 : R37 (x) 17 = some (n + 12) := by rw [er]; exact r17
  have k27 : K37 (n + 13) = some (.inl 0, 4096) := by rw [ek]; exact k27
  have z27 : (∀ i, I37 (n + 13) i = 0) := fun i => by rw [e9, up2_ne (by omega)]; exact z27 i
  have r18 : R37 (x) 18 = some (n + 13) := by rw [er]; exact r18
  have k29 : K37 (n + 14) = some (.inl 0, 4096) := by rw [ek]; exact k29
  have z29 : (∀ i, I37 (n + 14) i = 0) := fun i => by rw [e9, up2_ne (by omega)]; exact z29 i
  have r19 : R37 (x) 19 = some (n + 14) := by rw [er]; exact r19
  have k31 : K37 (n + 15) = some (.inl 0, 4096) := by rw [ek]; exact k31
  have z31 : (∀ i, I37 (n + 15) i = 0) := fun i => by rw [e9, up2_ne (by omega)]; exact z31 i
  have r20 : R37 (x) 20 = some (n + 15) := by rw [er]; exact r20
  have k33 : K37 (n + 16) = some (.inl 0, 256) := by rw [ek]; exact k33
  have z33 : (∀ i, I37 (n + 16) i = 0) := fun i => by rw [e9, up2_ne (by omega)]; exact z33 i
  have r21 : R37 (x) 21 = some (n + 16) := by rw [er]; exact r21
  have k35 : K37 (n + 17) = some (.inl 0, 256) := by rw [ek]; exact k35
  have z35 : (∀ i, I37 (n + 17) i = 0) := fun i => by rw [e9, up2_ne (by omega)]; exact z35 i
  have r22 : R37 (x) 22 = some (n + 17) := by rw [er]; exact r22
  have hx0 : I37 (x) 0 = (0 : Int32) := by rw [e9, up2_at]
  have fK : ∀ a, a < n → K37 a = K a := by rw [ek]; exact fK
  have fX : ∀ a, a < n → a ≠ x → R37 a = R a ∧ I37 a = I a := fun a h hx => ⟨(congrFun er a).trans (fX a h hx).1, (show I37 a = I36 a by rw [e9, up2_ne hx]).trans (fX a h hx).2⟩
  clear e9 ek er
  obtain ⟨I38, ez, e9, ew⟩ := ra_ok (K := K37) (R := R37) (I := I37) (n := n + 18) (s := s + 20016) (F := F) (N := F) hF hx r2 k1
  obtain ⟨K38, ek⟩ : ∃ Z, Z = K37 := ⟨_, rfl⟩
  obtain ⟨R38, er⟩ : ∃ Z, Z = R37 := ⟨_, rfl⟩
  have hx : K38 (x) = some (.inr 4, 25) := by rw [ek]; exact hx
  have hx1 : I38 (x) 1 = (0 : Int32) := by rw [e9 _ (by omega)]; exact hx1
  have hx5 : I38 (x) 5 = (0 : Int32) := by rw [e9 _ (by omega)]; exact hx5
  have k1 : K38 (n) = some (.inl 0, 256) := by rw [ek]; exact k1
  have r2 : R38 (x) 2 = some (n) := by rw [er]; exact r2
  have k3 : K38 (n + 1) = some (.inl 0, 16) := by rw [ek]; exact k3
  have z3 : (∀ i, I38 (n + 1) i = 0) := fun i => by rw [e9 _ (by omega)]; exact z3 i
  have r3 : R38 (x) 3 = some (n + 1) := by rw [er]; exact r3
  have k5 : K38 (n + 2) = some (.inl 2, 16) := by rw [ek]; exact k5
  have z5 : (∀ i, I38 (n + 2) i = 0) := fun i => by rw [e9 _ (by omega)]; exact z5 i
  have r4 : R38 (x) 4 = some (n + 2) := by rw [er]; exact r4
  have k7 : K38 (n + 3) = some (.inl 0, 256) := by rw [ek]; exact k7
  have z7 : (∀ i, I38 (n + 3) i = 0) := fun i => by rw [e9 _ (by omega)]; exact z7 i
  have r6 : R38 (x) 6 = some (n + 3) := by rw [er]; exact r6
  have k9 : K38 (n + 4) = some (.inl 0, 512) := by rw [ek]; exact k9
  have z9 : (∀ i, I38 (n + 4) i = 0) := fun i => by rw [e9 _ (by omega)]; exact z9 i
  have r7 : R38 (x) 7 = some (n + 4) := by rw [er]; exact r7
  have k11 : K38 (n + 5) = some (.inl 0, 512) := by rw [ek]; exact k11
  have z11 : (∀ i, I38 (n + 5) i = 0) := fun i => by rw [e9 _ (by omega)]; exact z11 i
  have r8 : R38 (x) 8 = some (n + 5) := by rw [er]; exact r8
  have k13 : K38 (n + 6) = some (.inl 0, 512) := by rw [ek]; exact k13
  have z13 : (∀ i, I38 (n + 6) i = 0) := fun i => by rw [e9 _ (by omega)]; exact z13 i
  have r9 : R38 (x) 9 = some (n + 6) := by rw [er]; exact r9
  have k15 : K38 (n + 7) = some (.inl 2, 16) := by rw [ek]; exact k15
  have z15 : (∀ i, I38 (n + 7) i = 0) := fun i => by rw [e9 _ (by omega)]; exact z15 i
  have r11 : R38 (x) 11 = some (n + 7) := by rw [er]; exact r11
  have k17 : K38 (n + 8) = some (.inl 0, 256) := by rw [ek]; exact k17
  have z17 : (∀ i, I38 (n + 8) i = 0) := fun i => by rw [e9 _ (by omega)]; exact z17 i
  have r12 : R38 (x) 12 = some (n + 8) := by rw [er]; exact r12
  have k19 : K38 (n + 9) = some (.inl 0, 256) := by rw [ek]; exact k19
  have z19 : (∀ i, I38 (n + 9) i = 0) := fun i => by rw [e9 _ (by omega)]; exact z19 i
  have r13 : R38 (x) 13 = some (n + 9) := by rw [er]; exact r13
  have k21 : K38 (n + 10) = some (.inl 0, 256) := by rw [ek]; exact k21
  have z21 : (∀ i, I38 (n + 10) i = 0) := fun i => by rw [e9 _ (by omega)]; exact z21 i
  have r14 : R38 (x) 14 = some (n + 10) := by rw [er]; exact r14
  have k23 : K38 (n + 11) = some (.inl 0, 256) := by rw [ek]; exact k23
  have z23 : (∀ i, I38 (n + 11) i = 0) := fun i => by rw [e9 _ (by omega)]; exact z23 i
  have r15 : R38 (x) 15 = some (n + 11) := by rw [er]; exact r15
  have k25 : K38 (n + 12) = some (.inl 0, 4096) := by rw [ek]; exact k25
  have z25 : (∀ i, I38 (n + 12) i = 0) := fun i => by rw [e9 _ (by omega)]; exact z25 i
  have r17 : R38 (x) 17 = some (n + 12) := by rw [er]; exact r17
  have k27 : K38 (n + 13) = some (.inl 0, 4096) := by rw [ek]; exact k27
  have z27 : (∀ i, I38 (n + 13) i = 0) := fun i => by rw [e9 _ (by omega)]; exact z27 i
  have r18 : R38 (x) 18 = some (n + 13) := by rw [er]; exact r18
  have k29 : K38 (n + 14) = some (.inl 0, 4096) := by rw [ek]; exact k29
  have z29 : (∀ i, I38 (n + 14) i = 0) := fun i => by rw [e9 _ (by omega)]; exact z29 i
  have r19 : R38 (x) 19 = some (n + 14) := by rw [er]; exact r19
  have k31 : K38 (n + 15) = some (.inl 0, 4096) := by rw [ek]; exact k31
  have z31 : (∀ i, I38 (n + 15) i = 0) := fun i => by rw [e9 _ (by omega)]; exact z31 i
  have r20 : R38 (x) 20 = some (n + 15) := by rw [er]; exact r20
  have k33 : K38 (n + 16) = some (.inl 0, 256) := by rw [ek]; exact k33
  have z33 : (∀ i, I38 (n + 16) i = 0) := fun i => by rw [e9 _ (by omega)]; exact z33 i
  have r21 : R38 (x) 21 = some (n + 16) := by rw [er]; exact r21
  have k35 : K38 (n + 17) = some (.inl 0, 256) := by rw [ek]; exact k35
  have z35 : (∀ i, I38 (n + 17) i = 0) := fun i => by rw [e9 _ (by omega)]; exact z35 i
  have r22 : R38 (x) 22 = some (n + 17) := by rw [er]; exact r22
  have hx0 : I38 (x) 0 = (0 : Int32) := by rw [e9 _ (by omega)]; exact hx0
  have fK : ∀ a, a < n → K38 a = K a := by rw [ek]; exact fK
  have fX : ∀ a, a < n → a ≠ x → R38 a = R a ∧ I38 a = I a := fun a h hx => ⟨(congrFun er a).trans (fX a h hx).1, (e9 a (by omega)).trans (fX a h hx).2⟩
  refine ⟨K38, R38, I38, ?_, fK, fX, hx, hx1, hx5, k1, r2, k3, z3, r3, k5, z5, r4, k7, z7, r6, k9, z9, r7, k11, z11, r8, k13, z13, r9, k15, z15, r11, k17, z17, r12, k19, z19, r13, k21, z21, r14, k23, z23, r15, k25, z25, r17, k27, z27, r18, k29, z29, r19, k31, z31, r20, k33, z33, r21, k35, z35, r22, hx0, ew⟩
  unfold f_R_init
  simp only [et0, e_2, et2, e_4, et4, e_6, et6, e_8, et8, e_10, et10, e_12, et12, e_14, et14, e_16, et16, e_18, et18, e_20, et20, e_22, et22, e_24, et24, e_26, et26, e_28, et28, e_30, et30, e_32, et32, e_34, et34, e_36, e_37, hm_and_some, Option.bind_some]; rw [ek, er]; exact ez
