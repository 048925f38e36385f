theorem gd_mv {K K' : Nat → Option ((Nat ⊕ Nat) × Nat)} {R R' : Nat → Nat → Option Nat} {g : Nat} (h : gd K R g) (hK : ∀ a, g ≤ a → a ≤ g + 16 → K' a = K a) (hR : R' g = R g) : gd K' R' g := ⟨(hK g (by omega) (by omega)).trans h.1, fun i hi => by rw [hR]; exact h.2.1 i hi, fun i hi => (hK _ (by omega) (by omega)).trans (h.2.2 i hi)⟩
set_option maxHeartbeats 4000000 in
theorem N_ok {K : Nat → Option ((Nat ⊕ Nat) × Nat)} {R : Nat → Nat → Option Nat} {n s F x : Nat} {I : Nat → Nat → Int32} (hF : 20 ≤ F) (hxn : x < n) (hx : K x = some (.inr 2, 5)) : ∃ K' R' I', f_N_init F x (hp K R n s I) = some (hp K' R' (n + 19) (s + 304) I') ∧ (∀ a, a < n → K' a = K a) ∧ (∀ a, a < n → a ≠ x → R' a = R a ∧ I' a = I a) ∧ K' (x) = some (.inr 2, 5) ∧ I' (x) 0 = (0 : Int32) ∧ I' (x) 1 = (0 : Int32) ∧ gd K' R' (n) ∧ (∀ i j, i < 16 → j < 16 → I' (n + 1 + i) j = -1) ∧ R' (x) 2 = some (n) ∧ K' (n + 17) = some (.inl 0, 16) ∧ (∀ i, I' (n + 17) i = 0) ∧ R' (x) 3 = some (n + 17) ∧ K' (n + 18) = some (.inl 0, 16) ∧ (∀ i, I' (n + 18) i = 0) ∧ R' (x) 4 = some (n + 18) := by
  have fK : ∀ a, a < n → K a = K a := fun _ _ => rfl
  have fX : ∀ a, a < n → a ≠ x → R a = R a ∧ I a = I a := fun _ _ _ => ⟨rfl, rfl⟩
  obtain ⟨I1, e9⟩ : ∃ Z, Z = up2 I x 0 (0 : Int32) := ⟨_, rfl⟩
  obtain ⟨K1, ek⟩ : ∃ Z, Z = K := ⟨_, rfl⟩
  obtain ⟨R1, er⟩ : ∃ Z, Z = R := ⟨_, rfl⟩
  have e_1 : hm_pi 2 5 0 (hp K R (n) (s) I) x (0 : Int32) = some (hp K1 R1 (n) (s) I1) := by rw [hp_pi hx, ← e9, ← ek, ← er]
  have hx : K1 (x) = some (.inr 2, 5) := by rw [ek]; exact hx
  have hx0 : I1 (x) 0 = (0 : Int32) := by rw [e9, up2_at]
  have fK : ∀ a, a < n → K1 a = K a := by rw [ek]; exact fK
  have fX : ∀ a, a < n → a ≠ x → R1 a = R a ∧ I1 a = I a := fun a h hx => ⟨(congrFun er a).trans (fX a h hx).1, (show I1 a = I a by rw [e9, up2_ne hx]).trans (fX a h hx).2⟩
  clear e9 ek er
  obtain ⟨I2, e9⟩ : ∃ Z, Z = up2 I1 x 1 (0 : Int32) := ⟨_, rfl⟩
  obtain ⟨K2, ek⟩ : ∃ Z, Z = K1 := ⟨_, rfl⟩
  obtain ⟨R2, er⟩ : ∃ Z, Z = R1 := ⟨_, rfl⟩
  have e_2 : hm_pi 2 5 1 (hp K1 R1 (n) (s) I1) x (0 : Int32) = some (hp K2 R2 (n) (s) I2) := by rw [hp_pi hx, ← e9, ← ek, ← er]
  have hx : K2 (x) = some (.inr 2, 5) := by rw [ek]; exact hx
  have hx0 : I2 (x) 0 = (0 : Int32) := by rw [e9, up2_nj (by decide)]; exact hx0
  have hx1 : I2 (x) 1 = (0 : Int32) := by rw [e9, up2_at]
  have fK : ∀ a, a < n → K2 a = K a := by rw [ek]; exact fK
  have fX : ∀ a, a < n → a ≠ x → R2 a = R a ∧ I2 a = I a := fun a h hx => ⟨(congrFun er a).trans (fX a h hx).1, (show I2 a = I1 a by rw [e9, up2_ne hx]).trans (fX a h hx).2⟩
  clear e9 ek er
  obtain ⟨K3, R3, I3, et2, ut2, qt2⟩ := et_ok (K := K2) (R := R2) (I := I2) (n := n) (s := s) hF
  have hx : K3 (x) = some (.inr 2, 5) := ((fun a h => (ut2 a h).1) _ (by omega)).trans hx
  have hx0 : I3 (x) 0 = (0 : Int32) := (congrFun ((fun a h => (ut2 a h).2.2) _ (by omega)) _).trans hx0
  have hx1 : I3 (x) 1 = (0 : Int32) := (congrFun ((fun a h => (ut2 a h).2.2) _ (by omega)) _).trans hx1
  have fK : ∀ a, a < n → K3 a = K a := fun a h => ((fun a h => (ut2 a h).1) a (by omega)).trans (fK a h)
  have fX : ∀ a, a < n → a ≠ x → R3 a = R a ∧ I3 a = I a := fun a h hx => ⟨((fun a h => (ut2 a h).2.1) a (by omega)).trans (fX a h hx).1, ((fun a h => (ut2 a h).2.2) a (by omega)).trans (fX a h hx).2⟩
  have g3 : gd K3 R3 (n) := qt2.1
  have w3 : (∀ i j, i < 16 → j < 16 → I3 (n + 1 + i) j = -1) := qt2.2
  obtain ⟨R4, e9⟩ : ∃ Z, Z = upR R3 x 2 (some (n)) := ⟨_, rfl⟩
  obtain ⟨K4, ek⟩ : ∃ Z, Z = K3 := ⟨_, rfl⟩
  obtain ⟨I4, ei⟩ : ∃ Z, Z = I3 := ⟨_, rfl⟩
  have e_4 : hm_pr 2 5 2 (hp K3 R3 (n + 17) (s + 272) I3) x (n) = some (hp K4 R4 (n + 17) (s + 272) I4) := by rw [hp_pr hx, ← e9, ← ek, ← ei]
  have hx : K4 (x) = some (.inr 2, 5) := by rw [ek]; exact hx
  have hx0 : I4 (x) 0 = (0 : Int32) := by rw [ei]; exact hx0
  have hx1 : I4 (x) 1 = (0 : Int32) := by rw [ei]; exact hx1
  have g3 : gd K4 R4 (n) := by rw [ek]; exact gd_mv g3 (fun a h1 h2 => rfl) (by rw [e9, upR_ne (by omega)])
  have w3 : (∀ i j, i < 16 → j < 16 → I4 (n + 1 + i) j = -1) := by rw [ei]; exact w3
  have r2 : R4 (x) 2 = some (n) := by rw [e9, upR_at]
  have fK : ∀ a, a < n → K4 a = K a := by rw [ek]; exact fK
  have fX : ∀ a, a < n → a ≠ x → R4 a = R a ∧ I4 a = I a := fun a h hx => ⟨(show R4 a = R3 a by rw [e9, upR_ne hx]).trans (fX a h hx).1, (congrFun ei a).trans (fX a h hx).2⟩
  clear e9 ek ei
  obtain ⟨K5, R5, I5, et4, ut4, qt4⟩ := na_ok (K := K4) (R := R4) (I := I4) (n := n + 17) (s := s + 272) 0 16 (16 : Int32) (by decide +kernel) (by decide)
  have hx : K5 (x) = some (.inr 2, 5) := ((fun a h => (ut4 a h).1) _ (by omega)).trans hx
  have hx0 : I5 (x) 0 = (0 : Int32) := (congrFun ((fun a h => (ut4 a h).2.2) _ (by omega)) _).trans hx0
  have hx1 : I5 (x) 1 = (0 : Int32) := (congrFun ((fun a h => (ut4 a h).2.2) _ (by omega)) _).trans hx1
  have g3 : gd K5 R5 (n) := gd_mv g3 (fun a h1 h2 => (fun a h => (ut4 a h).1) a (by omega)) ((fun a h => (ut4 a h).2.1) _ (by omega))
  have w3 : (∀ i j, i < 16 → j < 16 → I5 (n + 1 + i) j = -1) := fun i j hi hj => (congrFun ((fun a h => (ut4 a h).2.2) _ (by omega)) j).trans (w3 i j hi hj)
  have r2 : R5 (x) 2 = some (n) := (congrFun ((fun a h => (ut4 a h).2.1) _ (by omega)) _).trans r2
  have fK : ∀ a, a < n → K5 a = K a := fun a h => ((fun a h => (ut4 a h).1) a (by omega)).trans (fK a h)
  have fX : ∀ a, a < n → a ≠ x → R5 a = R a ∧ I5 a = I a := fun a h hx => ⟨((fun a h => (ut4 a h).2.1) a (by omega)).trans (fX a h hx).1, ((fun a h => (ut4 a h).2.2) a (by omega)).trans (fX a h hx).2⟩
  have k5 : K5 (n + 17) = some (.inl 0, 16) := qt4.1
  have z5 : (∀ i, I5 (n + 17) i = 0) := qt4.2
  obtain ⟨R6, e9⟩ : ∃ Z, Z = upR R5 x 3 (some (n + 17)) := ⟨_, rfl⟩
  obtain ⟨K6, ek⟩ : ∃ Z, Z = K5 := ⟨_, rfl⟩
  obtain ⟨I6, ei⟩ : ∃ Z, Z = I5 := ⟨_, rfl⟩
  have e_6 : hm_pr 2 5 3 (hp K5 R5 (n + 18) (s + 288) I5) x (n + 17) = some (hp K6 R6 (n + 18) (s + 288) I6) := by rw [hp_pr hx, ← e9, ← ek, ← ei]
  have hx : K6 (x) = some (.inr 2, 5) := by rw [ek]; exact hx
  have hx0 : I6 (x) 0 = (0 : Int32) := by rw [ei]; exact hx0
  have hx1 : I6 (x) 1 = (0 : Int32) := by rw [ei]; exact hx1
  have g3 : gd K6 R6 (n) := by rw [ek]; exact gd_mv g3 (fun a h1 h2 => rfl) (by rw [e9, upR_ne (by omega)])
  have w3 : (∀ i j, i < 16 → j < 16 → I6 (n + 1 + i) j = -1) := by rw [ei]; exact w3
  have r2 : R6 (x) 2 = some (n) := by rw [e9, upR_nj (by decide)]; exact r2
  have k5 : K6 (n + 17) = some (.inl 0, 16) := by rw [ek]; exact k5
  have z5 : (∀ i, I6 (n + 17) i = 0) := by rw [ei]; exact z5
  have r3 : R6 (x) 3 = some (n + 17) := by rw [e9, upR_at]
  have fK : ∀ a, a < n → K6 a = K a := by rw [ek]; exact fK
  have fX : ∀ a, a < n → a ≠ x → R6 a = R a ∧ I6 a = I a := fun a h hx => ⟨(show R6 a = R5 a by rw [e9, upR_ne hx]).trans (fX a h hx).1, (congrFun ei a).trans (fX a h hx).2⟩
  clear e9 ek ei
  obtain ⟨K7, R7, I7, et6, ut6, qt6⟩ := na_ok (K := K6) (R := R6) (I := I6) (n := n + 18) (s := s + 288) 0 16 (16 : Int32) (by decide +kernel) (by decide)
  have hx : K7 (x) = some (.inr 2, 5) := ((fun a h => (ut6 a h).1) _ (by omega)).trans hx
  have hx0 : I7 (x) 0 = (0 : Int32) := (congrFun ((fun a h => (ut6 a h).2.2) _ (by omega)) _).trans hx0
  have hx1 : I7 (x) 1 = (0 : Int32) := (congrFun ((fun a h => (ut6 a h).2.2) _ (by omega)) _).trans hx1
  have g3 : gd K7 R7 (n) := gd_mv g3 (fun a h1 h2 => (fun a h => (ut6 a h).1) a (by omega)) ((fun a h => (ut6 a h).2.1) _ (by omega))
  have w3 : (∀ i j, i < 16 → j < 16 → I7 (n + 1 + i) j = -1) := fun i j hi hj => (congrFun ((fun a h => (ut6 a h).2.2) _ (by omega)) j).trans (w3 i j hi hj)
  have r2 : R7 (x) 2 = some (n) := (congrFun ((fun a h => (ut6 a h).2.1) _ (by omega)) _).trans r2
  have k5 : K7 (n + 17) = some (.inl 0, 16) := ((fun a h => (ut6 a h).1) _ (by omega)).trans k5
  have z5 : (∀ i, I7 (n + 17) i = 0) := fun i => (congrFun ((fun a h => (ut6 a h).2.2) _ (by omega)) i).trans (z5 i)
  have r3 : R7 (x) 3 = some (n + 17) := (congrFun ((fun a h => (ut6 a h).2.1) _ (by omega)) _).trans r3
  have fK : ∀ a, a < n → K7 a = K a := fun a h => ((fun a h => (ut6 a h).1) a (by omega)).trans (fK a h)
  have fX : ∀ a, a < n → a ≠ x → R7 a = R a ∧ I7 a = I a := fun a h hx => ⟨((fun a h => (ut6 a h).2.1) a (by omega)).trans (fX a h hx).1, ((fun a h => (ut6 a h).2.2) a (by omega)).trans (fX a h hx).2⟩
  have k7 : K7 (n + 18) = some (.inl 0, 16) := qt6.1
  have z7 : (∀ i, I7 (n + 18) i = 0) := qt6.2
  obtain ⟨R8, e9⟩ : ∃ Z, Z = upR R7 x 4 (some (n + 18)) := ⟨_, rfl⟩
  obtain ⟨K8, ek⟩ : ∃ Z, Z = K7 := ⟨_, rfl⟩
  obtain ⟨I8, ei⟩ : ∃ Z, Z = I7 := ⟨_, rfl⟩
  have e_8 : hm_pr 2 5 4 (hp K7 R7 (n + 19) (s + 304) I7) x (n + 18) = some (hp K8 R8 (n + 19) (s + 304) I8) := by rw [hp_pr hx, ← e9, ← ek, ← ei]
  have hx : K8 (x) = some (.inr 2, 5) := by rw [ek]; exact hx
  have hx0 : I8 (x) 0 = (0 : Int32) := by rw [ei]; exact hx0
  have hx1 : I8 (x) 1 = (0 : Int32) := by rw [ei]; exact hx1
  have g3 : gd K8 R8 (n) := by rw [ek]; exact gd_mv g3 (fun a h1 h2 => rfl) (by rw [e9, upR_ne (by omega)])
  have w3 : (∀ i j, i < 16 → j < 16 → I8 (n + 1 + i) j = -1) := by rw [ei]; exact w3
  have r2 : R8 (x) 2 = some (n) := by rw [e9, upR_nj (by decide)]; exact r2
  have k5 : K8 (n + 17) = some (.inl 0, 16) := by rw [ek]; exact k5
  have z5 : (∀ i, I8 (n + 17) i = 0) := by rw [ei]; exact z5
  have r3 : R8 (x) 3 = some (n + 17) := by rw [e9, upR_nj (by decide)]; exact r3
  have k7 : K8 (n + 18) = some (.inl 0, 16) := by rw [ek]; exact k7
  have z7 : (∀ i, I8 (n + 18) i = 0) := by rw [ei]; exact z7
  have r4 : R8 (x) 4 = some (n + 18) := by rw [e9, upR_at]
  have fK : ∀ a, a < n → K8 a = K a := by rw [ek]; exact fK
  have fX : ∀ a, a < n → a ≠ x → R8 a = R a ∧ I8 a = I a := fun a h hx => ⟨(show R8 a = R7 a by rw [e9, upR_ne hx]).trans (fX a h hx).1, (congrFun ei a).trans (fX a h hx).2⟩
  clear e9 ek ei
  refine ⟨K8, R8, I8, ?_, fK, fX, hx, hx0, hx1, g3, w3, r2, k5, z5, r3, k7, z7, r4⟩
  unfold f_N_init
  simp only [e_1, e_2, et2, e_4, et4, e_6, et6, e_8, hm_and_some, Option.bind_some]
set_option maxHeartbeats 4000000 in
theorem L_ok {K : Nat → Option ((Nat ⊕ Nat) × Nat)} {R : Nat → Nat → Option Nat} {n s F x : Nat} {I : Nat → Nat → Int32} (hF : 20 ≤ F) (hxn : x < n) (hx : K x = some (.inr 1, 2)) : ∃ K' R' I', f_L_init F x (hp K R n s I) = some (hp K' R' (n + 34) (s + 544) I') ∧ (∀ a, a < n → K' a = K a) ∧ (∀ a, a < n → a ≠ x → R' a = R a ∧ I' a = I a) ∧ K' (x) = some (.inr 1, 2) ∧ gd K' R' (n) ∧ (∀ i j, i < 16 → j < 16 → I' (n + 1 + i) j = -1) ∧ R' (x) 0 = some (n) ∧ gd K' R' (n + 17) ∧ (∀ i j, i < 16 → j < 16 → I' (n + 17 + 1 + i) j = -1) ∧ R' (x) 1 = some (n + 17) := by
  have fK : ∀ a, a < n → K a = K a := fun _ _ => rfl
  have fX : ∀ a, a < n → a ≠ x → R a = R a ∧ I a = I a := fun _ _ _ => ⟨rfl, rfl⟩
  obtain ⟨K1, R1, I1, et0, ut0, qt0⟩ := et_ok (K := K) (R := R) (I := I) (n := n) (s := s) hF
  have hx : K1 (x) = some (.inr 1, 2) := ((fun a h => (ut0 a h).1) _ (by omega)).trans hx
  have fK : ∀ a, a < n → K1 a = K a := fun a h => ((fun a h => (ut0 a h).1) a (by omega)).trans (fK a h)
  have fX : ∀ a, a < n → a ≠ x → R1 a = R a ∧ I1 a = I a := fun a h hx => ⟨((fun a h => (ut0 a h).2.1) a (by omega)).trans (fX a h hx).1, ((fun a h => (ut0 a h).2.2) a (by omega)).trans (fX a h hx).2⟩
  have g1 : gd K1 R1 (n) := qt0.1
  have w1 : (∀ i j, i < 16 → j < 16 → I1 (n + 1 + i) j = -1) := qt0.2
  obtain ⟨R2, e9⟩ : ∃ Z, Z = upR R1 x 0 (some (n)) := ⟨_, rfl⟩
  obtain ⟨K2, ek⟩ : ∃ Z, Z = K1 := ⟨_, rfl⟩
  obtain ⟨I2, ei⟩ : ∃ Z, Z = I1 := ⟨_, rfl⟩
  have e_2 : hm_pr 1 2 0 (hp K1 R1 (n + 17) (s + 272) I1) x (n) = some (hp K2 R2 (n + 17) (s + 272) I2) := by rw [hp_pr hx, ← e9, ← ek, ← ei]
  have hx : K2 (x) = some (.inr 1, 2) := by rw [ek]; exact hx
  have g1 : gd K2 R2 (n) := by rw [ek]; exact gd_mv g1 (fun a h1 h2 => rfl) (by rw [e9, upR_ne (by omega)])
  have w1 : (∀ i j, i < 16 → j < 16 → I2 (n + 1 + i) j = -1) := by rw [ei]; exact w1
  have r0 : R2 (x) 0 = some (n) := by rw [e9, upR_at]
  have fK : ∀ a, a < n → K2 a = K a := by rw [ek]; exact fK
  have fX : ∀ a, a < n → a ≠ x → R2 a = R a ∧ I2 a = I a := fun a h hx => ⟨(show R2 a = R1 a by rw [e9, upR_ne hx]).trans (fX a h hx).1, (congrFun ei a).trans (fX a h hx).2⟩
  clear e9 ek ei
  obtain ⟨K3, R3, I3, et2, ut2, qt2⟩ := et_ok (K := K2) (R := R2) (I := I2) (n := n + 17) (s := s + 272) hF
  have hx : K3 (x) = some (.inr 1, 2) := ((fun a h => (ut2 a h).1) _ (by omega)).trans hx
  have g1 : gd K3 R3 (n) := gd_mv g1 (fun a h1 h2 => (fun a h => (ut2 a h).1) a (by omega)) ((fun a h => (ut2 a h).2.1) _ (by omega))
  have w1 : (∀ i j, i < 16 → j < 16 → I3 (n + 1 + i) j = -1) := fun i j hi hj => (congrFun ((fun a h => (ut2 a h).2.2) _ (by omega)) j).trans (w1 i j hi hj)
  have r0 : R3 (x) 0 = some (n) := (congrFun ((fun a h => (ut2 a h).2.1) _ (by omega)) _).trans r0
  have fK : ∀ a, a < n → K3 a = K a := fun a h => ((fun a h => (ut2 a h).1) a (by omega)).trans (fK a h)
  have fX : ∀ a, a < n → a ≠ x → R3 a = R a ∧ I3 a = I a := fun a h hx => ⟨((fun a h => (ut2 a h).2.1) a (by omega)).trans (fX a h hx).1, ((fun a h => (ut2 a h).2.2) a (by omega)).trans (fX a h hx).2⟩
  have g3 : gd K3 R3 (n + 17) := qt2.1
  have w3 : (∀ i j, i < 16 → j < 16 → I3 (n + 17 + 1 + i) j = -1) := qt2.2
  obtain ⟨R4, e9⟩ : ∃ Z, Z = upR R3 x 1 (some (n + 17)) := ⟨_, rfl⟩
  obtain ⟨K4, ek⟩ : ∃ Z, Z = K3 := ⟨_, rfl⟩
  obtain ⟨I4, ei⟩ : ∃ Z, Z = I3 := ⟨_, rfl⟩
  have e_4 : hm_pr 1 2 1 (hp K3 R3 (n + 34) (s + 544) I3) x (n + 17) = some (hp K4 R4 (n + 34) (s + 544) I4) := by rw [hp_pr hx, ← e9, ← ek, ← ei]
  have hx : K4 (x) = some (.inr 1, 2) := by rw [ek]; exact hx
  have g1 : gd K4 R4 (n) := by rw [ek]; exact gd_mv g1 (fun a h1 h2 => rfl) (by rw [e9, upR_ne (by omega)])
  have w1 : (∀ i j, i < 16 → j < 16 → I4 (n + 1 + i) j = -1) := by rw [ei]; exact w1
  have r0 : R4 (x) 0 = some (n) := by rw [e9, upR_nj (by decide)]; exact r0
  have g3 : gd K4 R4 (n + 17) := by rw [ek]; exact gd_mv g3 (fun a h1 h2 => rfl) (by rw [e9, upR_ne (by omega)])
  have w3 : (∀ i j, i < 16 → j < 16 → I4 (n + 17 + 1 + i) j = -1) := by rw [ei]; exact w3
  have r1 : R4 (x) 1 = some (n + 17) := by rw [e9, upR_at]
  have fK : ∀ a, a < n → K4 a = K a := by rw [ek]; exact fK
  have fX : ∀ a, a < n → a ≠ x → R4 a = R a ∧ I4 a = I a := fun a h hx => ⟨(show R4 a = R3 a by rw [e9, upR_ne hx]).trans (fX a h hx).1, (congrFun ei a).trans (fX a h hx).2⟩
  clear e9 ek ei
  refine ⟨K4, R4, I4, ?_, fK, fX, hx, g1, w1, r0, g3, w3, r1⟩
  unfold f_L_init
  simp only [et0, e_2, et2, e_4, hm_and_some, Option.bind_some]
set_option maxHeartbeats 4000000 in
theorem K_ok {K : Nat → Option ((Nat ⊕ Nat) × Nat)} {R : Nat → Nat → Option Nat} {n s F x : Nat} {I : Nat → Nat → Int32} (hF : 20 ≤ F) (hxn : x < n) (hx : K x = some (.inr 0, 7)) : ∃ K' R' I', f_K_init F x (hp K R n s I) = some (hp K' R' (n + 38) (s + 2816) I') ∧ (∀ a, a < n → K' a = K a) ∧ (∀ a, a < n → a ≠ x → R' a = R a ∧ I' a = I a) ∧ K' (x) = some (.inr 0, 7) ∧ gd K' R' (n) ∧ (∀ i j, i < 16 → j < 16 → I' (n + 1 + i) j = -1) ∧ R' (x) 0 = some (n) ∧ gd K' R' (n + 17) ∧ (∀ i j, i < 16 → j < 16 → I' (n + 17 + 1 + i) j = -1) ∧ R' (x) 1 = some (n + 17) ∧ K' (n + 34) = some (.inl 0, 1120) ∧ (∀ i, I' (n + 34) i = 0) ∧ R' (x) 2 = some (n + 34) ∧ K' (n + 35) = some (.inl 0, 1120) ∧ (∀ i, I' (n + 35) i = 0) ∧ R' (x) 3 = some (n + 35) ∧ I' (x) 4 = (0 : Int32) ∧ K' (n + 36) = some (.inl 0, 16) ∧ (∀ i, I' (n + 36) i = 0) ∧ R' (x) 5 = some (n + 36) ∧ K' (n + 37) = some (.inl 0, 16) ∧ (∀ i, I' (n + 37) i = 0) ∧ R' (x) 6 = some (n + 37) := by
  have fK : ∀ a, a < n → K a = K a := fun _ _ => rfl
  have fX : ∀ a, a < n → a ≠ x → R a = R a ∧ I a = I a := fun _ _ _ => ⟨rfl, rfl⟩
  obtain ⟨K1, R1, I1, et0, ut0, qt0⟩ := et_ok (K := K) (R := R) (I := I) (n := n) (s := s) hF
  have hx : K1 (x) = some (.inr 0, 7) := ((fun a h => (ut0 a h).1) _ (by omega)).trans hx
  have fK : ∀ a, a < n → K1 a = K a := fun a h => ((fun a h => (ut0 a h).1) a (by omega)).trans (fK a h)
  have fX : ∀ a, a < n → a ≠ x → R1 a = R a ∧ I1 a = I a := fun a h hx => ⟨((fun a h => (ut0 a h).2.1) a (by omega)).trans (fX a h hx).1, ((fun a h => (ut0 a h).2.2) a (by omega)).trans (fX a h hx).2⟩
  have g1 : gd K1 R1 (n) := qt0.1
  have w1 : (∀ i j, i < 16 → j < 16 → I1 (n + 1 + i) j = -1) := qt0.2
  obtain ⟨R2, e9⟩ : ∃ Z, Z = upR R1 x 0 (some (n)) := ⟨_, rfl⟩
  obtain ⟨K2, ek⟩ : ∃ Z, Z = K1 := ⟨_, rfl⟩
  obtain ⟨I2, ei⟩ : ∃ Z, Z = I1 := ⟨_, rfl⟩
  have e_2 : hm_pr 0 7 0 (hp K1 R1 (n + 17) (s + 272) I1) x (n) = some (hp K2 R2 (n + 17) (s + 272) I2) := by rw [hp_pr hx, ← e9, ← ek, ← ei]
  have hx : K2 (x) = some (.inr 0, 7) := by rw [ek]; exact hx
  have g1 : gd K2 R2 (n) := by rw [ek]; exact gd_mv g1 (fun a h1 h2 => rfl) (by rw [e9, upR_ne (by omega)])
  have w1 : (∀ i j, i < 16 → j < 16 → I2 (n + 1 + i) j = -1) := by rw [ei]; exact w1
  have r0 : R2 (x) 0 = some (n) := by rw [e9, upR_at]
  have fK : ∀ a, a < n → K2 a = K a := by rw [ek]; exact fK
  have fX : ∀ a, a < n → a ≠ x → R2 a = R a ∧ I2 a = I a := fun a h hx => ⟨(show R2 a = R1 a by rw [e9, upR_ne hx]).trans (fX a h hx).1, (congrFun ei a).trans (fX a h hx).2⟩
  clear e9 ek ei
  obtain ⟨K3, R3, I3, et2, ut2, qt2⟩ := et_ok (K := K2) (R := R2) (I := I2) (n := n + 17) (s := s + 272) hF
  have hx : K3 (x) = some (.inr 0, 7) := ((fun a h => (ut2 a h).1) _ (by omega)).trans hx
  have g1 : gd K3 R3 (n) := gd_mv g1 (fun a h1 h2 => (fun a h => (ut2 a h).1) a (by omega)) ((fun a h => (ut2 a h).2.1) _ (by omega))
  have w1 : (∀ i j, i < 16 → j < 16 → I3 (n + 1 + i) j = -1) := fun i j hi hj => (congrFun ((fun a h => (ut2 a h).2.2) _ (by omega)) j).trans (w1 i j hi hj)
  have r0 : R3 (x) 0 = some (n) := (congrFun ((fun a h => (ut2 a h).2.1) _ (by omega)) _).trans r0
  have fK : ∀ a, a < n → K3 a = K a := fun a h => ((fun a h => (ut2 a h).1) a (by omega)).trans (fK a h)
  have fX : ∀ a, a < n → a ≠ x → R3 a = R a ∧ I3 a = I a := fun a h hx => ⟨((fun a h => (ut2 a h).2.1) a (by omega)).trans (fX a h hx).1, ((fun a h => (ut2 a h).2.2) a (by omega)).trans (fX a h hx).2⟩
  have g3 : gd K3 R3 (n + 17) := qt2.1
  have w3 : (∀ i j, i < 16 → j < 16 → I3 (n + 17 + 1 + i) j = -1) := qt2.2
  obtain ⟨R4, e9⟩ : ∃ Z, Z = upR R3 x 1 (some (n + 17)) := ⟨_, rfl⟩
  obtain ⟨K4, ek⟩ : ∃ Z, Z = K3 := ⟨_, rfl⟩
  obtain ⟨I4, ei⟩ : ∃ Z, Z = I3 := ⟨_, rfl⟩
  have e_4 : hm_pr 0 7 1 (hp K3 R3 (n + 34) (s + 544) I3) x (n + 17) = some (hp K4 R4 (n + 34) (s + 544) I4) := by rw [hp_pr hx, ← e9, ← ek, ← ei]
  have hx : K4 (x) = some (.inr 0, 7) := by rw [ek]; exact hx
  have g1 : gd K4 R4 (n) := by rw [ek]; exact gd_mv g1 (fun a h1 h2 => rfl) (by rw [e9, upR_ne (by omega)])
  have w1 : (∀ i j, i < 16 → j < 16 → I4 (n + 1 + i) j = -1) := by rw [ei]; exact w1
  have r0 : R4 (x) 0 = some (n) := by rw [e9, upR_nj (by decide)]; exact r0
  have g3 : gd K4 R4 (n + 17) := by rw [ek]; exact gd_mv g3 (fun a h1 h2 => rfl) (by rw [e9, upR_ne (by omega)])
  have w3 : (∀ i j, i < 16 → j < 16 → I4 (n + 17 + 1 + i) j = -1) := by rw [ei]; exact w3
  have r1 : R4 (x) 1 = some (n + 17) := by rw [e9, upR_at]
  have fK : ∀ a, a < n → K4 a = K a := by rw [ek]; exact fK
  have fX : ∀ a, a < n → a ≠ x → R4 a = R a ∧ I4 a = I a := fun a h hx => ⟨(show R4 a = R3 a by rw [e9, upR_ne hx]).trans (fX a h hx).1, (congrFun ei a).trans (fX a h hx).2⟩
  clear e9 ek ei
  obtain ⟨K5, R5, I5, et4, ut4, qt4⟩ := na_ok (K := K4) (R := R4) (I := I4) (n := n + 34) (s := s + 544) 0 1120 (1120 : Int32) (by decide +kernel) (by decide)
  have hx : K5 (x) = some (.inr 0, 7) := ((fun a h => (ut4 a h).1) _ (by omega)).trans hx
  have g1 : gd K5 R5 (n) := gd_mv g1 (fun a h1 h2 => (fun a h => (ut4 a h).1) a (by omega)) ((fun a h => (ut4 a h).2.1) _ (by omega))
  have w1 : (∀ i j, i < 16 → j < 16 → I5 (n + 1 + i) j = -1) := fun i j hi hj => (congrFun ((fun a h => (ut4 a h).2.2) _ (by omega)) j).trans (w1 i j hi hj)
  have r0 : R5 (x) 0 = some (n) := (congrFun ((fun a h => (ut4 a h).2.1) _ (by omega)) _).trans r0
  have g3 : gd K5 R5 (n + 17) := gd_mv g3 (fun a h1 h2 => (fun a h => (ut4 a h).1) a (by omega)) ((fun a h => (ut4 a h).2.1) _ (by omega))
  have w3 : (∀ i j, i < 16 → j < 16 → I5 (n + 17 + 1 + i) j = -1) := fun i j hi hj => (congrFun ((fun a h => (ut4 a h).2.2) _ (by omega)) j).trans (w3 i j hi hj)
  have r1 : R5 (x) 1 = some (n + 17) := (congrFun ((fun a h => (ut4 a h).2.1) _ (by omega)) _).trans r1
  have fK : ∀ a, a < n → K5 a = K a := fun a h => ((fun a h => (ut4 a h).1) a (by omega)).trans (fK a h)
  have fX : ∀ a, a < n → a ≠ x → R5 a = R a ∧ I5 a = I a := fun a h hx => ⟨((fun a h => (ut4 a h).2.1) a (by omega)).trans (fX a h hx).1, ((fun a h => (ut4 a h).2.2) a (by omega)).trans (fX a h hx).2⟩
  have k5 : K5 (n + 34) = some (.inl 0, 1120) := qt4.1
  have z5 : (∀ i, I5 (n + 34) i = 0) := qt4.2
  obtain ⟨R6, e9⟩ : ∃ Z, Z = upR R5 x 2 (some (n + 34)) := ⟨_, rfl⟩
  obtain ⟨K6, ek⟩ : ∃ Z, Z = K5 := ⟨_, rfl⟩
  obtain ⟨I6, ei⟩ : ∃ Z, Z = I5 := ⟨_, rfl⟩
  have e_6 : hm_pr 0 7 2 (hp K5 R5 (n + 35) (s + 1664) I5) x (n + 34) = some (hp K6 R6 (n + 35) (s + 1664) I6) := by rw [hp_pr hx, ← e9, ← ek, ← ei]
  have hx : K6 (x) = some (.inr 0, 7) := by rw [ek]; exact hx
  have g1 : gd K6 R6 (n) := by rw [ek]; exact gd_mv g1 (fun a h1 h2 => rfl) (by rw [e9, upR_ne (by omega)])
  have w1 : (∀ i j, i < 16 → j < 16 → I6 (n + 1 + i) j = -1) := by rw [ei]; exact w1
  have r0 : R6 (x) 0 = some (n) := by rw [e9, upR_nj (by decide)]; exact r0
  have g3 : gd K6 R6 (n + 17) := by rw [ek]; exact gd_mv g3 (fun a h1 h2 => rfl) (by rw [e9, upR_ne (by omega)])
  have w3 : (∀ i j, i < 16 → j < 16 → I6 (n + 17 + 1 + i) j = -1) := by rw [ei]; exact w3
  have r1 : R6 (x) 1 = some (n + 17) := by rw [e9, upR_nj (by decide)]; exact r1
  have k5 : K6 (n + 34) = some (.inl 0, 1120) := by rw [ek]; exact k5
  have z5 : (∀ i, I6 (n + 34) i = 0) := by rw [ei]; exact z5
  have r2 : R6 (x) 2 = some (n + 34) := by rw [e9, upR_at]
  have fK : ∀ a, a < n → K6 a = K a := by rw [ek]; exact fK
  have fX : ∀ a, a < n → a ≠ x → R6 a = R a ∧ I6 a = I a := fun a h hx => ⟨(show R6 a = R5 a by rw [e9, upR_ne hx]).trans (fX a h hx).1, (congrFun ei a).trans (fX a h hx).2⟩
  clear e9 ek ei
  obtain ⟨K7, R7, I7, et6, ut6, qt6⟩ := na_ok (K := K6) (R := R6) (I := I6) (n := n + 35) (s := s + 1664) 0 1120 (1120 : Int32) (by decide +kernel) (by decide)
  have hx : K7 (x) = some (.inr 0, 7) := ((fun a h => (ut6 a h).1) _ (by omega)).trans hx
  have g1 : gd K7 R7 (n) := gd_mv g1 (fun a h1 h2 => (fun a h => (ut6 a h).1) a (by omega)) ((fun a h => (ut6 a h).2.1) _ (by omega))
  have w1 : (∀ i j, i < 16 → j < 16 → I7 (n + 1 + i) j = -1) := fun i j hi hj => (congrFun ((fun a h => (ut6 a h).2.2) _ (by omega)) j).trans (w1 i j hi hj)
  have r0 : R7 (x) 0 = some (n) := (congrFun ((fun a h => (ut6 a h).2.1) _ (by omega)) _).trans r0
  have g3 : gd K7 R7 (n + 17) := gd_mv g3 (fun a h1 h2 => (fun a h => (ut6 a h).1) a (by omega)) ((fun a h => (ut6 a h).2.1) _ (by omega))
  have w3 : (∀ i j, i < 16 → j < 16 → I7 (n + 17 + 1 + i) j = -1) := fun i j hi hj => (congrFun ((fun a h => (ut6 a h).2.2) _ (by omega)) j).trans (w3 i j hi hj)
  have r1 : R7 (x) 1 = some (n + 17) := (congrFun ((fun a h => (ut6 a h).2.1) _ (by omega)) _).trans r1
  have k5 : K7 (n + 34) = some (.inl 0, 1120) := ((fun a h => (ut6 a h).1) _ (by omega)).trans k5
  have z5 : (∀ i, I7 (n + 34) i = 0) := fun i => (congrFun ((fun a h => (ut6 a h).2.2) _ (by omega)) i).trans (z5 i)
  have r2 : R7 (x) 2 = some (n + 34) := (congrFun ((fun a h => (ut6 a h).2.1) _ (by omega)) _).trans r2
  have fK : ∀ a, a < n → K7 a = K a := fun a h => ((fun a h => (ut6 a h).1) a (by omega)).trans (fK a h)
  have fX : ∀ a, a < n → a ≠ x → R7 a = R a ∧ I7 a = I a := fun a h hx => ⟨((fun a h => (ut6 a h).2.1) a (by omega)).trans (fX a h hx).1, ((fun a h => (ut6 a h).2.2) a (by omega)).trans (fX a h hx).2⟩
  have k7 : K7 (n + 35) = some (.inl 0, 1120) := qt6.1
  have z7 : (∀ i, I7 (n + 35) i = 0) := qt6.2
  obtain ⟨R8, e9⟩ : ∃ Z, Z = upR R7 x 3 (some (n + 35)) := ⟨_, rfl⟩
  obtain ⟨K8, ek⟩ : ∃ Z, Z = K7 := ⟨_, rfl⟩
  obtain ⟨I8, ei⟩ : ∃ Z, Z = I7 := ⟨_, rfl⟩
  have e_8 : hm_pr 0 7 3 (hp K7 R7 (n + 36) (s + 2784) I7) x (n + 35) = some (hp K8 R8 (n + 36) (s + 2784) I8) := by rw [hp_pr hx, ← e9, ← ek, ← ei]
  have hx : K8 (x) = some (.inr 0, 7) := by rw [ek]; exact hx
  have g1 : gd K8 R8 (n) := by rw [ek]; exact gd_mv g1 (fun a h1 h2 => rfl) (by rw [e9, upR_ne (by omega)])
  have w1 : (∀ i j, i < 16 → j < 16 → I8 (n + 1 + i) j = -1) := by rw [ei]; exact w1
  have r0 : R8 (x) 0 = some (n) := by rw [e9, upR_nj (by decide)]; exact r0
  have g3 : gd K8 R8 (n + 17) := by rw [ek]; exact gd_mv g3 (fun a h1 h2 => rfl) (by rw [e9, upR_ne (by omega)])
  have w3 : (∀ i j, i < 16 → j < 16 → I8 (n + 17 + 1 + i) j = -1) := by rw [ei]; exact w3
  have r1 : R8 (x) 1 = some (n + 17) := by rw [e9, upR_nj (by decide)]; exact r1
  have k5 : K8 (n + 34) = some (.inl 0, 1120) := by rw [ek]; exact k5
  have z5 : (∀ i, I8 (n + 34) i = 0) := by rw [ei]; exact z5
  have r2 : R8 (x) 2 = some (n + 34) := by rw [e9, upR_nj (by decide)]; exact r2
  have k7 : K8 (n + 35) = some (.inl 0, 1120) := by rw [ek]; exact k7
  have z7 : (∀ i, I8 (n + 35) i = 0) := by rw [ei]; exact z7
  have r3 : R8 (x) 3 = some (n + 35) := by rw [e9, upR_at]
  have fK : ∀ a, a < n → K8 a = K a := by rw [ek]; exact fK
  have fX : ∀ a, a < n → a ≠ x → R8 a = R a ∧ I8 a = I a := fun a h hx => ⟨(show R8 a = R7 a by rw [e9, upR_ne hx]).trans (fX a h hx).1, (congrFun ei a).trans (fX a h hx).2⟩
  clear e9 ek ei
  obtain ⟨I9, e9⟩ : ∃ Z, Z = up2 I8 x 4 (0 : Int32) := ⟨_, rfl⟩
  obtain ⟨K9, ek⟩ : ∃ Z, Z = K8 := ⟨_, rfl⟩
  obtain ⟨R9, er⟩ : ∃ Z, Z = R8 := ⟨_, rfl⟩
  have e_9 : hm_pi 0 7 4 (hp K8 R8 (n + 36) (s + 2784) I8) x (0 : Int32) = some (hp K9 R9 (n + 36) (s + 2784) I9) := by rw [hp_pi hx, ← e9, ← ek, ← er]
  have hx : K9 (x) = some (.inr 0, 7) := by rw [ek]; exact hx
  have g1 : gd K9 R9 (n) := by rw [ek, er]; exact g1
  have w1 : (∀ i j, i < 16 → j < 16 → I9 (n + 1 + i) j = -1) := fun i j hi hj => by rw [e9, up2_ne (by omega)]; exact w1 i j hi hj
  have r0 : R9 (x) 0 = some (n) := by rw [er]; exact r0
  have g3 : gd K9 R9 (n + 17) := by rw [ek, er]; exact g3
  have w3 : (∀ i j, i < 16 → j < 16 → I9 (n + 17 + 1 + i) j = -1) := fun i j hi hj => by rw [e9, up2_ne (by omega)]; exact w3 i j hi hj
  have r1 : R9 (x) 1 = some (n + 17) := by rw [er]; exact r1
  have k5 : K9 (n + 34) = some (.inl 0, 1120) := by rw [ek]; exact k5
  have z5 : (∀ i, I9 (n + 34) i = 0) := fun i => by rw [e9, up2_ne (by omega)]; exact z5 i
  have r2 : R9 (x) 2 = some (n + 34) := by rw [er]; exact r2
  have k7 : K9 (n + 35) = some (.inl 0, 1120) := by rw [ek]; exact k7
  have z7 : (∀ i, I9 (n + 35) i = 0) := fun i => by rw [e9, up2_ne (by omega)]; exact z7 i
  have r3 : R9 (x) 3 = some (n + 35) := by rw [er]; exact r3
  have hx4 : I9 (x) 4 = (0 : Int32) := by rw [e9, up2_at]
  have fK : ∀ a, a < n → K9 a = K a := by rw [ek]; exact fK
  have fX : ∀ a, a < n → a ≠ x → R9 a = R a ∧ I9 a = I a := fun a h hx => ⟨(congrFun er a).trans (fX a h hx).1, (show I9 a = I8 a by rw [e9, up2_ne hx]).trans (fX a h hx).2⟩
  clear e9 ek er
  obtain ⟨K10, R10, I10, et9, ut9, qt9⟩ := na_ok (K := K9) (R := R9) (I := I9) (n := n + 36) (s := s + 2784) 0 16 (16 : Int32) (by decide +kernel) (by decide)
  have hx : K10 (x) = some (.inr 0, 7) := ((fun a h => (ut9 a h).1) _ (by omega)).trans hx
  have g1 : gd K10 R10 (n) := gd_mv g1 (fun a h1 h2 => (fun a h => (ut9 a h).1) a (by omega)) ((fun a h => (ut9 a h).2.1) _ (by omega))
  have w1 : (∀ i j, i < 16 → j < 16 → I10 (n + 1 + i) j = -1) := fun i j hi hj => (congrFun ((fun a h => (ut9 a h).2.2) _ (by omega)) j).trans (w1 i j hi hj)
  have r0 : R10 (x) 0 = some (n) := (congrFun ((fun a h => (ut9 a h).2.1) _ (by omega)) _).trans r0
  have g3 : gd K10 R10 (n + 17) := gd_mv g3 (fun a h1 h2 => (fun a h => (ut9 a h).1) a (by omega)) ((fun a h => (ut9 a h).2.1) _ (by omega))
  have w3 : (∀ i j, i < 16 → j < 16 → I10 (n + 17 + 1 + i) j = -1) := fun i j hi hj => (congrFun ((fun a h => (ut9 a h).2.2) _ (by omega)) j).trans (w3 i j hi hj)
  have r1 : R10 (x) 1 = some (n + 17) := (congrFun ((fun a h => (ut9 a h).2.1) _ (by omega)) _).trans r1
  have k5 : K10 (n + 34) = some (.inl 0, 1120) := ((fun a h => (ut9 a h).1) _ (by omega)).trans k5
  have z5 : (∀ i, I10 (n + 34) i = 0) := fun i => (congrFun ((fun a h => (ut9 a h).2.2) _ (by omega)) i).trans (z5 i)
  have r2 : R10 (x) 2 = some (n + 34) := (congrFun ((fun a h => (ut9 a h).2.1) _ (by omega)) _).trans r2
  have k7 : K10 (n + 35) = some (.inl 0, 1120) := ((fun a h => (ut9 a h).1) _ (by omega)).trans k7
  have z7 : (∀ i, I10 (n + 35) i = 0) := fun i => (congrFun ((fun a h => (ut9 a h).2.2) _ (by omega)) i).trans (z7 i)
  have r3 : R10 (x) 3 = some (n + 35) := (congrFun ((fun a h => (ut9 a h).2.1) _ (by omega)) _).trans r3
  have hx4 : I10 (x) 4 = (0 : Int32) := (congrFun ((fun a h => (ut9 a h).2.2) _ (by omega)) _).trans hx4
  have fK : ∀ a, a < n → K10 a = K a := fun a h => ((fun a h => (ut9 a h).1) a (by omega)).trans (fK a h)
  have fX : ∀ a, a < n → a ≠ x → R10 a = R a ∧ I10 a = I a := fun a h hx => ⟨((fun a h => (ut9 a h).2.1) a (by omega)).trans (fX a h hx).1, ((fun a h => (ut9 a h).2.2) a (by omega)).trans (fX a h hx).2⟩
  have k10 : K10 (n + 36) = some (.inl 0, 16) := qt9.1
  have z10 : (∀ i, I10 (n + 36) i = 0) := qt9.2
  obtain ⟨R11, e9⟩ : ∃ Z, Z = upR R10 x 5 (some (n + 36)) := ⟨_, rfl⟩
  obtain ⟨K11, ek⟩ : ∃ Z, Z = K10 := ⟨_, rfl⟩
  obtain ⟨I11, ei⟩ : ∃ Z, Z = I10 := ⟨_, rfl⟩
  have e_11 : hm_pr 0 7 5 (hp K10 R10 (n + 37) (s + 2800) I10) x (n + 36) = some (hp K11 R11 (n + 37) (s + 2800) I11) := by rw [hp_pr hx, ← e9, ← ek, ← ei]
  have hx : K11 (x) = some (.inr 0, 7) := by rw [ek]; exact hx
  have g1 : gd K11 R11 (n) := by rw [ek]; exact gd_mv g1 (fun a h1 h2 => rfl) (by rw [e9, upR_ne (by omega)])
  have w1 : (∀ i j, i < 16 → j < 16 → I11 (n + 1 + i) j = -1) := by rw [ei]; exact w1
  have r0 : R11 (x) 0 = some (n) := by rw [e9, upR_nj (by decide)]; exact r0
  have g3 : gd K11 R11 (n + 17) := by rw [ek]; exact gd_mv g3 (fun a h1 h2 => rfl) (by rw [e9, upR_ne (by omega)])
  have w3 : (∀ i j, i < 16 → j < 16 → I11 (n + 17 + 1 + i) j = -1) := by rw [ei]; exact w3
  have r1 : R11 (x) 1 = some (n + 17) := by rw [e9, upR_nj (by decide)]; exact r1
  have k5 : K11 (n + 34) = some (.inl 0, 1120) := by rw [ek]; exact k5
  have z5 : (∀ i, I11 (n + 34) i = 0) := by rw [ei]; exact z5
  have r2 : R11 (x) 2 = some (n + 34) := by rw [e9, upR_nj (by decide)]; exact r2
  have k7 : K11 (n + 35) = some (.inl 0, 1120) := by rw [ek]; exact k7
  have z7 : (∀ i, I11 (n + 35) i = 0) := by rw [ei]; exact z7
  have r3 : R11 (x) 3 = some (n + 35) := by rw [e9, upR_nj (by decide)]; exact r3
  have hx4 : I11 (x) 4 = (0 : Int32) := by rw [ei]; exact hx4
  have k10 : K11 (n + 36) = some (.inl 0, 16) := by rw [ek]; exact k10
  have z10 : (∀ i, I11 (n + 36) i = 0) := by rw [ei]; exact z10
  have r5 : R11 (x) 5 = some (n + 36) := by rw [e9, upR_at]
  have fK : ∀ a, a < n → K11 a = K a := by rw [ek]; exact fK
  have fX : ∀ a, a < n → a ≠ x → R11 a = R a ∧ I11 a = I a := fun a h hx => ⟨(show R11 a = R10 a by rw [e9, upR_ne hx]).trans (fX a h hx).1, (congrFun ei a).trans (fX a h hx).2⟩
  clear e9 ek ei
  obtain ⟨K12, R12, I12, et11, ut11, qt11⟩ := na_ok (K := K11) (R := R11) (I := I11) (n := n + 37) (s := s + 2800) 0 16 (16 : Int32) (by decide +kernel) (by decide)
  have hx : K12 (x) = some (.inr 0, 7) := ((fun a h => (ut11 a h).1) _ (by omega)).trans hx
  have g1 : gd K12 R12 (n) := gd_mv g1 (fun a h1 h2 => (fun a h => (ut11 a h).1) a (by omega)) ((fun a h => (ut11 a h).2.1) _ (by omega))
  have w1 : (∀ i j, i < 16 → j < 16 → I12 (n + 1 + i) j = -1) := fun i j hi hj => (congrFun ((fun a h => (ut11 a h).2.2) _ (by omega)) j).trans (w1 i j hi hj)
  have r0 : R12 (x) 0 = some (n) := (congrFun ((fun a h => (ut11 a h).2.1) _ (by omega)) _).trans r0
  have g3 : gd K12 R12 (n + 17) := gd_mv g3 (fun a h1 h2 => (fun a h => (ut11 a h).1) a (by omega)) ((fun a h => (ut11 a h).2.1) _ (by omega))
  have w3 : (∀ i j, i < 16 → j < 16 → I12 (n + 17 + 1 + i) j = -1) := fun i j hi hj => (congrFun ((fun a h => (ut11 a h).2.2) _ (by omega)) j).trans (w3 i j hi hj)
  have r1 : R12 (x) 1 = some (n + 17) := (congrFun ((fun a h => (ut11 a h).2.1) _ (by omega)) _).trans r1
  have k5 : K12 (n + 34) = some (.inl 0, 1120) := ((fun a h => (ut11 a h).1) _ (by omega)).trans k5
  have z5 : (∀ i, I12 (n + 34) i = 0) := fun i => (congrFun ((fun a h => (ut11 a h).2.2) _ (by omega)) i).trans (z5 i)
  have r2 : R12 (x) 2 = some (n + 34) := (congrFun ((fun a h => (ut11 a h).2.1) _ (by omega)) _).trans r2
  have k7 : K12 (n + 35) = some (.inl 0, 1120) := ((fun a h => (ut11 a h).1) _ (by omega)).trans k7
  have z7 : (∀ i, I12 (n + 35) i = 0) := fun i => (congrFun ((fun a h => (ut11 a h).2.2) _ (by omega)) i).trans (z7 i)
  have r3 : R12 (x) 3 = some (n + 35) := (congrFun ((fun a h => (ut11 a h).2.1) _ (by omega)) _).trans r3
  have hx4 : I12 (x) 4 = (0 : Int32) := (congrFun ((fun a h => (ut11 a h).2.2) _ (by omega)) _).trans hx4
  have k10 : K12 (n + 36) = some (.inl 0, 16) := ((fun a h => (ut11 a h).1) _ (by omega)).trans k10
  have z10 : (∀ i, I12 (n + 36) i = 0) := fun i => (congrFun ((fun a h => (ut11 a h).2.2) _ (by omega)) i).trans (z10 i)
  have r5 : R12 (x) 5 = some (n + 36) := (congrFun ((fun a h => (ut11 a h).2.1) _ (by omega)) _).trans r5
  have fK : ∀ a, a < n → K12 a = K a := fun a h => ((fun a h => (ut11 a h).1) a (by omega)).trans (fK a h)
  have fX : ∀ a, a < n → a ≠ x → R12 a = R a ∧ I12 a = I a := fun a h hx => ⟨((fun a h => (ut11 a h).2.1) a (by omega)).trans (fX a h hx).1, ((fun a h => (ut11 a h).2.2) a (by omega)).trans (fX a h hx).2⟩
  have k12 : K12 (n + 37) = some (.inl 0, 16) := qt11.1
  have z12 : (∀ i, I12 (n + 37) i = 0) := qt11.2
  obtain ⟨R13, e9⟩ : ∃ Z, Z = upR R12 x 6 (some (n + 37)) := ⟨_, rfl⟩
  obtain ⟨K13, ek⟩ : ∃ Z, Z = K12 := ⟨_, rfl⟩
  obtain ⟨I13, ei⟩ : ∃ Z, Z = I12 := ⟨_, rfl⟩
  have e_13 : hm_pr 0 7 6 (hp K12 R12 (n + 38) (s + 2816) I12) x (n + 37) = some (hp K13 R13 (n + 38) (s + 2816) I13) := by rw [hp_pr hx, ← e9, ← ek, ← ei]
  have hx : K13 (x) = some (.inr 0, 7) := by rw [ek]; exact hx
  have g1 : gd K13 R13 (n) := by rw [ek]; exact gd_mv g1 (fun a h1 h2 => rfl) (by rw [e9, upR_ne (by omega)])
  have w1 : (∀ i j, i < 16 → j < 16 → I13 (n + 1 + i) j = -1) := by rw [ei]; exact w1
  have r0 : R13 (x) 0 = some (n) := by rw [e9, upR_nj (by decide)]; exact r0
  have g3 : gd K13 R13 (n + 17) := by rw [ek]; exact gd_mv g3 (fun a h1 h2 => rfl) (by rw [e9, upR_ne (by omega)])
  have w3 : (∀ i j, i < 16 → j < 16 → I13 (n + 17 + 1 + i) j = -1) := by rw [ei]; exact w3
  have r1 : R13 (x) 1 = some (n + 17) := by rw [e9, upR_nj (by decide)]; exact r1
  have k5 : K13 (n + 34) = some (.inl 0, 1120) := by rw [ek]; exact k5
  have z5 : (∀ i, I13 (n + 34) i = 0) := by rw [ei]; exact z5
  have r2 : R13 (x) 2 = some (n + 34) := by rw [e9, upR_nj (by decide)]; exact r2
  have k7 : K13 (n + 35) = some (.inl 0, 1120) := by rw [ek]; exact k7
  have z7 : (∀ i, I13 (n + 35) i = 0) := by rw [ei]; exact z7
  have r3 : R13 (x) 3 = some (n + 35) := by rw [e9, upR_nj (by decide)]; exact r3
  have hx4 : I13 (x) 4 = (0 : Int32) := by rw [ei]; exact hx4
  have k10 : K13 (n + 36) = some (.inl 0, 16) := by rw [ek]; exact k10
  have z10 : (∀ i, I13 (n + 36) i = 0) := by rw [ei]; exact z10
  have r5 : R13 (x) 5 = some (n + 36) := by rw [e9, upR_nj (by decide)]; exact r5
  have k12 : K13 (n + 37) = some (.inl 0, 16) := by rw [ek]; exact k12
  have z12 : (∀ i, I13 (n + 37) i = 0) := by rw [ei]; exact z12
  have r6 : R13 (x) 6 = some (n + 37) := by rw [e9, upR_at]
  have fK : ∀ a, a < n → K13 a = K a := by rw [ek]; exact fK
  have fX : ∀ a, a < n → a ≠ x → R13 a = R a ∧ I13 a = I a := fun a h hx => ⟨(show R13 a = R12 a by rw [e9, upR_ne hx]).trans (fX a h hx).1, (congrFun ei a).trans (fX a h hx).2⟩
  clear e9 ek ei
  refine ⟨K13, R13, I13, ?_, fK, fX, hx, g1, w1, r0, g3, w3, r1, k5, z5, r2, k7, z7, r3, hx4, k10, z10, r5, k12, z12, r6⟩
  unfold f_K_init
  simp only [et0, e_2, et2, e_4, et4, e_6, et6, e_8, e_9, et9, e_11, et11, e_13, hm_and_some, Option.bind_some]
set_option maxHeartbeats 4000000 in
theorem D_ok {K : Nat → Option ((Nat ⊕ Nat) × Nat)} {R : Nat → Nat → Option Nat} {n s F x : Nat} {I : Nat → Nat → Int32} (hF : 20 ≤ F) (hxn : x < n) (hx : K x = some (.inr 3, 9)) : ∃ K' R' I', f_D_init F x (hp K R n s I) = some (hp K' R' (n + 147) (s + 4512) I') ∧ (∀ a, a < n → K' a = K a) ∧ (∀ a, a < n → a ≠ x → R' a = R a ∧ I' a = I a) ∧ K' (x) = some (.inr 3, 9) ∧ K' (n) = some (.inr 2, 5) ∧ I' (n) 0 = (0 : Int32) ∧ I' (n) 1 = (0 : Int32) ∧ gd K' R' (n + 1) ∧ (∀ i j, i < 16 → j < 16 → I' (n + 1 + 1 + i) j = -1) ∧ R' (n) 2 = some (n + 1) ∧ K' (n + 18) = some (.inl 0, 16) ∧ (∀ i, I' (n + 18) i = 0) ∧ R' (n) 3 = some (n + 18) ∧ K' (n + 19) = some (.inl 0, 16) ∧ (∀ i, I' (n + 19) i = 0) ∧ R' (n) 4 = some (n + 19) ∧ R' (x) 0 = some (n) ∧ gd K' R' (n + 20) ∧ (∀ i j, i < 16 → j < 16 → I' (n + 20 + 1 + i) j = -1) ∧ R' (x) 1 = some (n + 20) ∧ K' (n + 37) = some (.inr 1, 2) ∧ gd K' R' (n + 38) ∧ (∀ i j, i < 16 → j < 16 → I' (n + 38 + 1 + i) j = -1) ∧ R' (n + 37) 0 = some (n + 38) ∧ gd K' R' (n + 55) ∧ (∀ i j, i < 16 → j < 16 → I' (n + 55 + 1 + i) j = -1) ∧ R' (n + 37) 1 = some (n + 55) ∧ R' (x) 2 = some (n + 37) ∧ K' (n + 72) = some (.inr 1, 2) ∧ gd K' R' (n + 73) ∧ (∀ i j, i < 16 → j < 16 → I' (n + 73 + 1 + i) j = -1) ∧ R' (n + 72) 0 = some (n + 73) ∧ gd K' R' (n + 90) ∧ (∀ i j, i < 16 → j < 16 → I' (n + 90 + 1 + i) j = -1) ∧ R' (n + 72) 1 = some (n + 90) ∧ R' (x) 3 = some (n + 72) ∧ K' (n + 107) = some (.inr 0, 7) ∧ gd K' R' (n + 108) ∧ (∀ i j, i < 16 → j < 16 → I' (n + 108 + 1 + i) j = -1) ∧ R' (n + 107) 0 = some (n + 108) ∧ gd K' R' (n + 125) ∧ (∀ i j, i < 16 → j < 16 → I' (n + 125 + 1 + i) j = -1) ∧ R' (n + 107) 1 = some (n + 125) ∧ K' (n + 142) = some (.inl 0, 1120) ∧ (∀ i, I' (n + 142) i = 0) ∧ R' (n + 107) 2 = some (n + 142) ∧ K' (n + 143) = some (.inl 0, 1120) ∧ (∀ i, I' (n + 143) i = 0) ∧ R' (n + 107) 3 = some (n + 143) ∧ I' (n + 107) 4 = (0 : Int32) ∧ K' (n + 144) = some (.inl 0, 16) ∧ (∀ i, I' (n + 144) i = 0) ∧ R' (n + 107) 5 = some (n + 144) ∧ K' (n + 145) = some (.inl 0, 16) ∧ (∀ i, I' (n + 145) i = 0) ∧ R' (n + 107) 6 = some (n + 145) ∧ R' (x) 4 = some (n + 107) ∧ K' (n + 146) = some (.inl 2, 16) ∧ (∀ i, I' (n + 146) i = 0) ∧ R' (x) 5 = some (n + 146) ∧ I' (x) 6 = (0 : Int32) ∧ I' (x) 7 = (0 : Int32) ∧ I' (x) 8 = (0 : Int32) := by
  have fK : ∀ a, a < n → K a = K a := fun _ _ => rfl
  have fX : ∀ a, a < n → a ≠ x → R a = R a ∧ I a = I a := fun _ _ _ => ⟨rfl, rfl⟩
  obtain ⟨K1, R1, I1, et0, ut0, qt0⟩ := no_ok (K := K) (R := R) (I := I) (n := n) (s := s) 2 5
  have hx : K1 (x) = some (.inr 3, 9) := ((fun a h => (ut0 a h).1) _ (by omega)).trans hx
  have fK : ∀ a, a < n → K1 a = K a := fun a h => ((fun a h => (ut0 a h).1) a (by omega)).trans (fK a h)
  have fX : ∀ a, a < n → a ≠ x → R1 a = R a ∧ I1 a = I a := fun a h hx => ⟨((fun a h => (ut0 a h).2.1) a (by omega)).trans (fX a h hx).1, ((fun a h => (ut0 a h).2.2) a (by omega)).trans (fX a h hx).2⟩
  have o1 : K1 (n) = some (.inr 2, 5) := qt0.1
  have y1 : (∀ i, I1 (n) i = 0) := qt0.2
  obtain ⟨K2, R2, I2, ei1, uKi1, uXi1, i1_0, i1_1, i1_2, i1_3, i1_4, i1_5, i1_6, i1_7, i1_8, i1_9, i1_10, i1_11⟩ := N_ok (K := K1) (R := R1) (I := I1) (n := n + 1) (s := s + 5) (x := n) hF (by omega) o1
  have hx : K2 (x) = some (.inr 3, 9) := (uKi1 _ (by omega)).trans hx
  have fK : ∀ a, a < n → K2 a = K a := fun a h => (uKi1 a (by omega)).trans (fK a h)
  have fX : ∀ a, a < n → a ≠ x → R2 a = R a ∧ I2 a = I a := fun a h hx => ⟨((fun a (h : a < n + 1 ∧ a ≠ n) => (uXi1 a h.1 h.2).1) a (by omega)).trans (fX a h hx).1, ((fun a (h : a < n + 1 ∧ a ≠ n) => (uXi1 a h.1 h.2).2) a (by omega)).trans (fX a h hx).2⟩
  have i1_0 : K2 (n) = some (.inr 2, 5) := i1_0
  have i1_1 : I2 (n) 0 = (0 : Int32) := i1_1
  have i1_2 : I2 (n) 1 = (0 : Int32) := i1_2
  have i1_3 : gd K2 R2 (n + 1) := i1_3
  have i1_4 : (∀ i j, i < 16 → j < 16 → I2 (n + 1 + 1 + i) j = -1) := i1_4
  have i1_5 : R2 (n) 2 = some (n + 1) := i1_5
  have i1_6 : K2 (n + 18) = some (.inl 0, 16) := i1_6
  have i1_7 : (∀ i, I2 (n + 18) i = 0) := i1_7
  have i1_8 : R2 (n) 3 = some (n + 18) := i1_8
  have i1_9 : K2 (n + 19) = some (.inl 0, 16) := i1_9
  have i1_10 : (∀ i, I2 (n + 19) i = 0) := i1_10
  have i1_11 : R2 (n) 4 = some (n + 19) := i1_11
  obtain ⟨R3, e9⟩ : ∃ Z, Z = upR R2 x 0 (some (n)) := ⟨_, rfl⟩
  obtain ⟨K3, ek⟩ : ∃ Z, Z = K2 := ⟨_, rfl⟩
  obtain ⟨I3, ei⟩ : ∃ Z, Z = I2 := ⟨_, rfl⟩
  have e_3 : hm_pr 3 9 0 (hp K2 R2 (n + 20) (s + 309) I2) x (n) = some (hp K3 R3 (n + 20) (s + 309) I3) := by rw [hp_pr hx, ← e9, ← ek, ← ei]
  have hx : K3 (x) = some (.inr 3, 9) := by rw [ek]; exact hx
  have i1_0 : K3 (n) = some (.inr 2, 5) := by rw [ek]; exact i1_0
  have i1_1 : I3 (n) 0 = (0 : Int32) := by rw [ei]; exact i1_1
  have i1_2 : I3 (n) 1 = (0 : Int32) := by rw [ei]; exact i1_2
  have i1_3 : gd K3 R3 (n + 1) := by rw [ek]; exact gd_mv i1_3 (fun a h1 h2 => rfl) (by rw [e9, upR_ne (by omega)])
  have i1_4 : (∀ i j, i < 16 → j < 16 → I3 (n + 1 + 1 + i) j = -1) := by rw [ei]; exact i1_4
  have i1_5 : R3 (n) 2 = some (n + 1) := by rw [e9, upR_ne (by omega)]; exact i1_5
  have i1_6 : K3 (n + 18) = some (.inl 0, 16) := by rw [ek]; exact i1_6
  have i1_7 : (∀ i, I3 (n + 18) i = 0) := by rw [ei]; exact i1_7
  have i1_8 : R3 (n) 3 = some (n + 18) := by rw [e9, upR_ne (by omega)]; exact i1_8
  have i1_9 : K3 (n + 19) = some (.inl 0, 16) := by rw [ek]; exact i1_9
  have i1_10 : (∀ i, I3 (n + 19) i = 0) := by rw [ei]; exact i1_10
  have i1_11 : R3 (n) 4 = some (n + 19) := by rw [e9, upR_ne (by omega)]; exact i1_11
  have r0 : R3 (x) 0 = some (n) := by rw [e9, upR_at]
  have fK : ∀ a, a < n → K3 a = K a := by rw [ek]; exact fK
  have fX : ∀ a, a < n → a ≠ x → R3 a = R a ∧ I3 a = I a := fun a h hx => ⟨(show R3 a = R2 a by rw [e9, upR_ne hx]).trans (fX a h hx).1, (congrFun ei a).trans (fX a h hx).2⟩
  clear e9 ek ei
  obtain ⟨K4, R4, I4, et3, ut3, qt3⟩ := et_ok (K := K3) (R := R3) (I := I3) (n := n + 20) (s := s + 309) hF
  have hx : K4 (x) = some (.inr 3, 9) := ((fun a h => (ut3 a h).1) _ (by omega)).trans hx
  have i1_0 : K4 (n) = some (.inr 2, 5) := ((fun a h => (ut3 a h).1) _ (by omega)).trans i1_0
  have i1_1 : I4 (n) 0 = (0 : Int32) := (congrFun ((fun a h => (ut3 a h).2.2) _ (by omega)) _).trans i1_1
  have i1_2 : I4 (n) 1 = (0 : Int32) := (congrFun ((fun a h => (ut3 a h).2.2) _ (by omega)) _).trans i1_2
  have i1_3 : gd K4 R4 (n + 1) := gd_mv i1_3 (fun a h1 h2 => (fun a h => (ut3 a h).1) a (by omega)) ((fun a h => (ut3 a h).2.1) _ (by omega))
  have i1_4 : (∀ i j, i < 16 → j < 16 → I4 (n + 1 + 1 + i) j = -1) := fun i j hi hj => (congrFun ((fun a h => (ut3 a h).2.2) _ (by omega)) j).trans (i1_4 i j hi hj)
  have i1_5 : R4 (n) 2 = some (n + 1) := (congrFun ((fun a h => (ut3 a h).2.1) _ (by omega)) _).trans i1_5
  have i1_6 : K4 (n + 18) = some (.inl 0, 16) := ((fun a h => (ut3 a h).1) _ (by omega)).trans i1_6
  have i1_7 : (∀ i, I4 (n + 18) i = 0) := fun i => (congrFun ((fun a h => (ut3 a h).2.2) _ (by omega)) i).trans (i1_7 i)
  have i1_8 : R4 (n) 3 = some (n + 18) := (congrFun ((fun a h => (ut3 a h).2.1) _ (by omega)) _).trans i1_8
  have i1_9 : K4 (n + 19) = some (.inl 0, 16) := ((fun a h => (ut3 a h).1) _ (by omega)).trans i1_9
  have i1_10 : (∀ i, I4 (n + 19) i = 0) := fun i => (congrFun ((fun a h => (ut3 a h).2.2) _ (by omega)) i).trans (i1_10 i)
  have i1_11 : R4 (n) 4 = some (n + 19) := (congrFun ((fun a h => (ut3 a h).2.1) _ (by omega)) _).trans i1_11
  have r0 : R4 (x) 0 = some (n) := (congrFun ((fun a h => (ut3 a h).2.1) _ (by omega)) _).trans r0
  have fK : ∀ a, a < n → K4 a = K a := fun a h => ((fun a h => (ut3 a h).1) a (by omega)).trans (fK a h)
  have fX : ∀ a, a < n → a ≠ x → R4 a = R a ∧ I4 a = I a := fun a h hx => ⟨((fun a h => (ut3 a h).2.1) a (by omega)).trans (fX a h hx).1, ((fun a h => (ut3 a h).2.2) a (by omega)).trans (fX a h hx).2⟩
  have g4 : gd K4 R4 (n + 20) := qt3.1
  have w4 : (∀ i j, i < 16 → j < 16 → I4 (n + 20 + 1 + i) j = -1) := qt3.2
  obtain ⟨R5, e9⟩ : ∃ Z, Z = upR R4 x 1 (some (n + 20)) := ⟨_, rfl⟩
  obtain ⟨K5, ek⟩ : ∃ Z, Z = K4 := ⟨_, rfl⟩
  obtain ⟨I5, ei⟩ : ∃ Z, Z = I4 := ⟨_, rfl⟩
  have e_5 : hm_pr 3 9 1 (hp K4 R4 (n + 37) (s + 581) I4) x (n + 20) = some (hp K5 R5 (n + 37) (s + 581) I5) := by rw [hp_pr hx, ← e9, ← ek, ← ei]
  have hx : K5 (x) = some (.inr 3, 9) := by rw [ek]; exact hx
  have i1_0 : K5 (n) = some (.inr 2, 5) := by rw [ek]; exact i1_0
  have i1_1 : I5 (n) 0 = (0 : Int32) := by rw [ei]; exact i1_1
  have i1_2 : I5 (n) 1 = (0 : Int32) := by rw [ei]; exact i1_2
  have i1_3 : gd K5 R5 (n + 1) := by rw [ek]; exact gd_mv i1_3 (fun a h1 h2 => rfl) (by rw [e9, upR_ne (by omega)])
  have i1_4 : (∀ i j, i < 16 → j < 16 → I5 (n + 1 + 1 + i) j = -1) := by rw [ei]; exact i1_4
  have i1_5 : R5 (n) 2 = some (n + 1) := by rw [e9, upR_ne (by omega)]; exact i1_5
  have i1_6 : K5 (n + 18) = some (.inl 0, 16) := by rw [ek]; exact i1_6
  have i1_7 : (∀ i, I5 (n + 18) i = 0) := by rw [ei]; exact i1_7
  have i1_8 : R5 (n) 3 = some (n + 18) := by rw [e9, upR_ne (by omega)]; exact i1_8
  have i1_9 : K5 (n + 19) = some (.inl 0, 16) := by rw [ek]; exact i1_9
  have i1_10 : (∀ i, I5 (n + 19) i = 0) := by rw [ei]; exact i1_10
  have i1_11 : R5 (n) 4 = some (n + 19) := by rw [e9, upR_ne (by omega)]; exact i1_11
  have r0 : R5 (x) 0 = some (n) := by rw [e9, upR_nj (by decide)]; exact r0
  have g4 : gd K5 R5 (n + 20) := by rw [ek]; exact gd_mv g4 (fun a h1 h2 => rfl) (by rw [e9, upR_ne (by omega)])
  have w4 : (∀ i j, i < 16 → j < 16 → I5 (n + 20 + 1 + i) j = -1) := by rw [ei]; exact w4
  have r1 : R5 (x) 1 = some (n + 20) := by rw [e9, upR_at]
  have fK : ∀ a, a < n → K5 a = K a := by rw [ek]; exact fK
  have fX : ∀ a, a < n → a ≠ x → R5 a = R a ∧ I5 a = I a := fun a h hx => ⟨(show R5 a = R4 a by rw [e9, upR_ne hx]).trans (fX a h hx).1, (congrFun ei a).trans (fX a h hx).2⟩
  clear e9 ek ei
  obtain ⟨K6, R6, I6, et5, ut5, qt5⟩ := no_ok (K := K5) (R := R5) (I := I5) (n := n + 37) (s := s + 581) 1 2
  have hx : K6 (x) = some (.inr 3, 9) := ((fun a h => (ut5 a h).1) _ (by omega)).trans hx
  have i1_0 : K6 (n) = some (.inr 2, 5) := ((fun a h => (ut5 a h).1) _ (by omega)).trans i1_0
  have i1_1 : I6 (n) 0 = (0 : Int32) := (congrFun ((fun a h => (ut5 a h).2.2) _ (by omega)) _).trans i1_1
  have i1_2 : I6 (n) 1 = (0 : Int32) := (congrFun ((fun a h => (ut5 a h).2.2) _ (by omega)) _).trans i1_2
  have i1_3 : gd K6 R6 (n + 1) := gd_mv i1_3 (fun a h1 h2 => (fun a h => (ut5 a h).1) a (by omega)) ((fun a h => (ut5 a h).2.1) _ (by omega))
  have i1_4 : (∀ i j, i < 16 → j < 16 → I6 (n + 1 + 1 + i) j = -1) := fun i j hi hj => (congrFun ((fun a h => (ut5 a h).2.2) _ (by omega)) j).trans (i1_4 i j hi hj)
  have i1_5 : R6 (n) 2 = some (n + 1) := (congrFun ((fun a h => (ut5 a h).2.1) _ (by omega)) _).trans i1_5
  have i1_6 : K6 (n + 18) = some (.inl 0, 16) := ((fun a h => (ut5 a h).1) _ (by omega)).trans i1_6
  have i1_7 : (∀ i, I6 (n + 18) i = 0) := fun i => (congrFun ((fun a h => (ut5 a h).2.2) _ (by omega)) i).trans (i1_7 i)
  have i1_8 : R6 (n) 3 = some (n + 18) := (congrFun ((fun a h => (ut5 a h).2.1) _ (by omega)) _).trans i1_8
  have i1_9 : K6 (n + 19) = some (.inl 0, 16) := ((fun a h => (ut5 a h).1) _ (by omega)).trans i1_9
  have i1_10 : (∀ i, I6 (n + 19) i = 0) := fun i => (congrFun ((fun a h => (ut5 a h).2.2) _ (by omega)) i).trans (i1_10 i)
  have i1_11 : R6 (n) 4 = some (n + 19) := (congrFun ((fun a h => (ut5 a h).2.1) _ (by omega)) _).trans i1_11
  have r0 : R6 (x) 0 = some (n) := (congrFun ((fun a h => (ut5 a h).2.1) _ (by omega)) _).trans r0
  have g4 : gd K6 R6 (n + 20) := gd_mv g4 (fun a h1 h2 => (fun a h => (ut5 a h).1) a (by omega)) ((fun a h => (ut5 a h).2.1) _ (by omega))
  have w4 : (∀ i j, i < 16 → j < 16 → I6 (n + 20 + 1 + i) j = -1) := fun i j hi hj => (congrFun ((fun a h => (ut5 a h).2.2) _ (by omega)) j).trans (w4 i j hi hj)
  have r1 : R6 (x) 1 = some (n + 20) := (congrFun ((fun a h => (ut5 a h).2.1) _ (by omega)) _).trans r1
  have fK : ∀ a, a < n → K6 a = K a := fun a h => ((fun a h => (ut5 a h).1) a (by omega)).trans (fK a h)
  have fX : ∀ a, a < n → a ≠ x → R6 a = R a ∧ I6 a = I a := fun a h hx => ⟨((fun a h => (ut5 a h).2.1) a (by omega)).trans (fX a h hx).1, ((fun a h => (ut5 a h).2.2) a (by omega)).trans (fX a h hx).2⟩
  have o6 : K6 (n + 37) = some (.inr 1, 2) := qt5.1
  have y6 : (∀ i, I6 (n + 37) i = 0) := qt5.2
  obtain ⟨K7, R7, I7, ei6, uKi6, uXi6, i6_0, i6_1, i6_2, i6_3, i6_4, i6_5, i6_6⟩ := L_ok (K := K6) (R := R6) (I := I6) (n := n + 38) (s := s + 583) (x := n + 37) hF (by omega) o6
  have hx : K7 (x) = some (.inr 3, 9) := (uKi6 _ (by omega)).trans hx
  have i1_0 : K7 (n) = some (.inr 2, 5) := (uKi6 _ (by omega)).trans i1_0
  have i1_1 : I7 (n) 0 = (0 : Int32) := (congrFun ((fun a (h : a < n + 38 ∧ a ≠ n + 37) => (uXi6 a h.1 h.2).2) _ (by omega)) _).trans i1_1
  have i1_2 : I7 (n) 1 = (0 : Int32) := (congrFun ((fun a (h : a < n + 38 ∧ a ≠ n + 37) => (uXi6 a h.1 h.2).2) _ (by omega)) _).trans i1_2
  have i1_3 : gd K7 R7 (n + 1) := gd_mv i1_3 (fun a h1 h2 => uKi6 a (by omega)) ((fun a (h : a < n + 38 ∧ a ≠ n + 37) => (uXi6 a h.1 h.2).1) _ (by omega))
  have i1_4 : (∀ i j, i < 16 → j < 16 → I7 (n + 1 + 1 + i) j = -1) := fun i j hi hj => (congrFun ((fun a (h : a < n + 38 ∧ a ≠ n + 37) => (uXi6 a h.1 h.2).2) _ (by omega)) j).trans (i1_4 i j hi hj)
  have i1_5 : R7 (n) 2 = some (n + 1) := (congrFun ((fun a (h : a < n + 38 ∧ a ≠ n + 37) => (uXi6 a h.1 h.2).1) _ (by omega)) _).trans i1_5
  have i1_6 : K7 (n + 18) = some (.inl 0, 16) := (uKi6 _ (by omega)).trans i1_6
  have i1_7 : (∀ i, I7 (n + 18) i = 0) := fun i => (congrFun ((fun a (h : a < n + 38 ∧ a ≠ n + 37) => (uXi6 a h.1 h.2).2) _ (by omega)) i).trans (i1_7 i)
  have i1_8 : R7 (n) 3 = some (n + 18) := (congrFun ((fun a (h : a < n + 38 ∧ a ≠ n + 37) => (uXi6 a h.1 h.2).1) _ (by omega)) _).trans i1_8
  have i1_9 : K7 (n + 19) = some (.inl 0, 16) := (uKi6 _ (by omega)).trans i1_9
  have i1_10 : (∀ i, I7 (n + 19) i = 0) := fun i => (congrFun ((fun a (h : a < n + 38 ∧ a ≠ n + 37) => (uXi6 a h.1 h.2).2) _ (by omega)) i).trans (i1_10 i)
  have i1_11 : R7 (n) 4 = some (n + 19) := (congrFun ((fun a (h : a < n + 38 ∧ a ≠ n + 37) => (uXi6 a h.1 h.2).1) _ (by omega)) _).trans i1_11
  have r0 : R7 (x) 0 = some (n) := (congrFun ((fun a (h : a < n + 38 ∧ a ≠ n + 37) => (uXi6 a h.1 h.2).1) _ (by omega)) _).trans r0
  have g4 : gd K7 R7 (n + 20) := gd_mv g4 (fun a h1 h2 => uKi6 a (by omega)) ((fun a (h : a < n + 38 ∧ a ≠ n + 37) => (uXi6 a h.1 h.2).1) _ (by omega))
  have w4 : (∀ i j, i < 16 → j < 16 → I7 (n + 20 + 1 + i) j = -1) := fun i j hi hj => (congrFun ((fun a (h : a < n + 38 ∧ a ≠ n + 37) => (uXi6 a h.1 h.2).2) _ (by omega)) j).trans (w4 i j hi hj)
  have r1 : R7 (x) 1 = some (n + 20) := (congrFun ((fun a (h : a < n + 38 ∧ a ≠ n + 37) => (uXi6 a h.1 h.2).1) _ (by omega)) _).trans r1
  have fK : ∀ a, a < n → K7 a = K a := fun a h => (uKi6 a (by omega)).trans (fK a h)
  have fX : ∀ a, a < n → a ≠ x → R7 a = R a ∧ I7 a = I a := fun a h hx => ⟨((fun a (h : a < n + 38 ∧ a ≠ n + 37) => (uXi6 a h.1 h.2).1) a (by omega)).trans (fX a h hx).1, ((fun a (h : a < n + 38 ∧ a ≠ n + 37) => (uXi6 a h.1 h.2).2) a (by omega)).trans (fX a h hx).2⟩
  have i6_0 : K7 (n + 37) = some (.inr 1, 2) := i6_0
  have i6_1 : gd K7 R7 (n + 38) := i6_1
  have i6_2 : (∀ i j, i < 16 → j < 16 → I7 (n + 38 + 1 + i) j = -1) := i6_2
  have i6_3 : R7 (n + 37) 0 = some (n + 38) := i6_3
  have i6_4 : gd K7 R7 (n + 55) := i6_4
  have i6_5 : (∀ i j, i < 16 → j < 16 → I7 (n + 55 + 1 + i) j = -1) := i6_5
  have i6_6 : R7 (n + 37) 1 = some (n + 55) := i6_6
  obtain ⟨R8, e9⟩ : ∃ Z, Z = upR R7 x 2 (some (n + 37)) := ⟨_, rfl⟩
  obtain ⟨K8, ek⟩ : ∃ Z, Z = K7 := ⟨_, rfl⟩
  obtain ⟨I8, ei⟩ : ∃ Z, Z = I7 := ⟨_, rfl⟩
  have e_8 : hm_pr 3 9 2 (hp K7 R7 (n + 72) (s + 1127) I7) x (n + 37) = some (hp K8 R8 (n + 72) (s + 1127) I8) := by rw [hp_pr hx, ← e9, ← ek, ← ei]
  have hx : K8 (x) = some (.inr 3, 9) := by rw [ek]; exact hx
  have i1_0 : K8 (n) = some (.inr 2, 5) := by rw [ek]; exact i1_0
  have i1_1 : I8 (n) 0 = (0 : Int32) := by rw [ei]; exact i1_1
  have i1_2 : I8 (n) 1 = (0 : Int32) := by rw [ei]; exact i1_2
  have i1_3 : gd K8 R8 (n + 1) := by rw [ek]; exact gd_mv i1_3 (fun a h1 h2 => rfl) (by rw [e9, upR_ne (by omega)])
  have i1_4 : (∀ i j, i < 16 → j < 16 → I8 (n + 1 + 1 + i) j = -1) := by rw [ei]; exact i1_4
  have i1_5 : R8 (n) 2 = some (n + 1) := by rw [e9, upR_ne (by omega)]; exact i1_5
  have i1_6 : K8 (n + 18) = some (.inl 0, 16) := by rw [ek]; exact i1_6
  have i1_7 : (∀ i, I8 (n + 18) i = 0) := by rw [ei]; exact i1_7
  have i1_8 : R8 (n) 3 = some (n + 18) := by rw [e9, upR_ne (by omega)]; exact i1_8
  have i1_9 : K8 (n + 19) = some (.inl 0, 16) := by rw [ek]; exact i1_9
  have i1_10 : (∀ i, I8 (n + 19) i = 0) := by rw [ei]; exact i1_10
  have i1_11 : R8 (n) 4 = some (n + 19) := by rw [e9, upR_ne (by omega)]; exact i1_11
  have r0 : R8 (x) 0 = some (n) := by rw [e9, upR_nj (by decide)]; exact r0
  have g4 : gd K8 R8 (n + 20) := by rw [ek]; exact gd_mv g4 (fun a h1 h2 => rfl) (by rw [e9, upR_ne (by omega)])
  have w4 : (∀ i j, i < 16 → j < 16 → I8 (n + 20 + 1 + i) j = -1) := by rw [ei]; exact w4
  have r1 : R8 (x) 1 = some (n + 20) := by rw [e9, upR_nj (by decide)]; exact r1
  have i6_0 : K8 (n + 37) = some (.inr 1, 2) := by rw [ek]; exact i6_0
  have i6_1 : gd K8 R8 (n + 38) := by rw [ek]; exact gd_mv i6_1 (fun a h1 h2 => rfl) (by rw [e9, upR_ne (by omega)])
  have i6_2 : (∀ i j, i < 16 → j < 16 → I8 (n + 38 + 1 + i) j = -1) := by rw [ei]; exact i6_2
  have i6_3 : R8 (n + 37) 0 = some (n + 38) := by rw [e9, upR_ne (by omega)]; exact i6_3
  have i6_4 : gd K8 R8 (n + 55) := by rw [ek]; exact gd_mv i6_4 (fun a h1 h2 => rfl) (by rw [e9, upR_ne (by omega)])
  have i6_5 : (∀ i j, i < 16 → j < 16 → I8 (n + 55 + 1 + i) j = -1) := by rw [ei]; exact i6_5
  have i6_6 : R8 (n + 37) 1 = some (n + 55) := by rw [e9, upR_ne (by omega)]; exact i6_6
  have r2 : R8 (x) 2 = some (n + 37) := by rw [e9, upR_at]
  have fK : ∀ a, a < n → K8 a = K a := by rw [ek]; exact fK
  have fX : ∀ a, a < n → a ≠ x → R8 a = R a ∧ I8 a = I a := fun a h hx => ⟨(show R8 a = R7 a by rw [e9, upR_ne hx]).trans (fX a h hx).1, (congrFun ei a).trans (fX a h hx).2⟩
  clear e9 ek ei
  obtain ⟨K9, R9, I9, et8, ut8, qt8⟩ := no_ok (K := K8) (R := R8) (I := I8) (n := n + 72) (s := s + 1127) 1 2
  have hx : K9 (x) = some (.inr 3, 9) := ((fun a h => (ut8 a h).1) _ (by omega)).trans hx
  have i1_0 : K9 (n) = some (.inr 2, 5) := ((fun a h => (ut8 a h).1) _ (by omega)).trans i1_0
  have i1_1 : I9 (n) 0 = (0 : Int32) := (congrFun ((fun a h => (ut8 a h).2.2) _ (by omega)) _).trans i1_1
  have i1_2 : I9 (n) 1 = (0 : Int32) := (congrFun ((fun a h => (ut8 a h).2.2) _ (by omega)) _).trans i1_2
  have i1_3 : gd K9 R9 (n + 1) := gd_mv i1_3 (fun a h1 h2 => (fun a h => (ut8 a h).1) a (by omega)) ((fun a h => (ut8 a h).2.1) _ (by omega))
  have i1_4 : (∀ i j, i < 16 → j < 16 → I9 (n + 1 + 1 + i) j = -1) := fun i j hi hj => (congrFun ((fun a h => (ut8 a h).2.2) _ (by omega)) j).trans (i1_4 i j hi hj)
  have i1_5 : R9 (n) 2 = some (n + 1) := (congrFun ((fun a h => (ut8 a h).2.1) _ (by omega)) _).trans i1_5
  have i1_6 : K9 (n + 18) = some (.inl 0, 16) := ((fun a h => (ut8 a h).1) _ (by omega)).trans i1_6
  have i1_7 : (∀ i, I9 (n + 18) i = 0) := fun i => (congrFun ((fun a h => (ut8 a h).2.2) _ (by omega)) i).trans (i1_7 i)
  have i1_8 : R9 (n) 3 = some (n + 18) := (congrFun ((fun a h => (ut8 a h).2.1) _ (by omega)) _).trans i1_8
  have i1_9 : K9 (n + 19) = some (.inl 0, 16) := ((fun a h => (ut8 a h).1) _ (by omega)).trans i1_9
  have i1_10 : (∀ i, I9 (n + 19) i = 0) := fun i => (congrFun ((fun a h => (ut8 a h).2.2) _ (by omega)) i).trans (i1_10 i)
  have i1_11 : R9 (n) 4 = some (n + 19) := (congrFun ((fun a h => (ut8 a h).2.1) _ (by omega)) _).trans i1_11
  have r0 : R9 (x) 0 = some (n) := (congrFun ((fun a h => (ut8 a h).2.1) _ (by omega)) _).trans r0
  have g4 : gd K9 R9 (n + 20) := gd_mv g4 (fun a h1 h2 => (fun a h => (ut8 a h).1) a (by omega)) ((fun a h => (ut8 a h).2.1) _ (by omega))
  have w4 : (∀ i j, i < 16 → j < 16 → I9 (n + 20 + 1 + i) j = -1) := fun i j hi hj => (congrFun ((fun a h => (ut8 a h).2.2) _ (by omega)) j).trans (w4 i j hi hj)
  have r1 : R9 (x) 1 = some (n + 20) := (congrFun ((fun a h => (ut8 a h).2.1) _ (by omega)) _).trans r1
  have i6_0 : K9 (n + 37) = some (.inr 1, 2) := ((fun a h => (ut8 a h).1) _ (by omega)).trans i6_0
  have i6_1 : gd K9 R9 (n + 38) := gd_mv i6_1 (fun a h1 h2 => (fun a h => (ut8 a h).1) a (by omega)) ((fun a h => (ut8 a h).2.1) _ (by omega))
  have i6_2 : (∀ i j, i < 16 → j < 16 → I9 (n + 38 + 1 + i) j = -1) := fun i j hi hj => (congrFun ((fun a h => (ut8 a h).2.2) _ (by omega)) j).trans (i6_2 i j hi hj)
  have i6_3 : R9 (n + 37) 0 = some (n + 38) := (congrFun ((fun a h => (ut8 a h).2.1) _ (by omega)) _).trans i6_3
  have i6_4 : gd K9 R9 (n + 55) := gd_mv i6_4 (fun a h1 h2 => (fun a h => (ut8 a h).1) a (by omega)) ((fun a h => (ut8 a h).2.1) _ (by omega))
  have i6_5 : (∀ i j, i < 16 → j < 16 → I9 (n + 55 + 1 + i) j = -1) := fun i j hi hj => (congrFun ((fun a h => (ut8 a h).2.2) _ (by omega)) j).trans (i6_5 i j hi hj)
  have i6_6 : R9 (n + 37) 1 = some (n + 55) := (congrFun ((fun a h => (ut8 a h).2.1) _ (by omega)) _).trans i6_6
  have r2 : R9 (x) 2 = some (n + 37) := (congrFun ((fun a h => (ut8 a h).2.1) _ (by omega)) _).trans r2
  have fK : ∀ a, a < n → K9 a = K a := fun a h => ((fun a h => (ut8 a h).1) a (by omega)).trans (fK a h)
  have fX : ∀ a, a < n → a ≠ x → R9 a = R a ∧ I9 a = I a := fun a h hx => ⟨((fun a h => (ut8 a h).2.1) a (by omega)).trans (fX a h hx).1, ((fun a h => (ut8 a h).2.2) a (by omega)).trans (fX a h hx).2⟩
  have o9 : K9 (n + 72) = some (.inr 1, 2) := qt8.1
  have y9 : (∀ i, I9 (n + 72) i = 0) := qt8.2
  obtain ⟨K10, R10, I10, ei9, uKi9, uXi9, i9_0, i9_1, i9_2, i9_3, i9_4, i9_5, i9_6⟩ := L_ok (K := K9) (R := R9) (I := I9) (n := n + 73) (s := s + 1129) (x := n + 72) hF (by omega) o9
  have hx : K10 (x) = some (.inr 3, 9) := (uKi9 _ (by omega)).trans hx
  have i1_0 : K10 (n) = some (.inr 2, 5) := (uKi9 _ (by omega)).trans i1_0
  have i1_1 : I10 (n) 0 = (0 : Int32) := (congrFun ((fun a (h : a < n + 73 ∧ a ≠ n + 72) => (uXi9 a h.1 h.2).2) _ (by omega)) _).trans i1_1
  have i1_2 : I10 (n) 1 = (0 : Int32) := (congrFun ((fun a (h : a < n + 73 ∧ a ≠ n + 72) => (uXi9 a h.1 h.2).2) _ (by omega)) _).trans i1_2
  have i1_3 : gd K10 R10 (n + 1) := gd_mv i1_3 (fun a h1 h2 => uKi9 a (by omega)) ((fun a (h : a < n + 73 ∧ a ≠ n + 72) => (uXi9 a h.1 h.2).1) _ (by omega))
  have i1_4 : (∀ i j, i < 16 → j < 16 → I10 (n + 1 + 1 + i) j = -1) := fun i j hi hj => (congrFun ((fun a (h : a < n + 73 ∧ a ≠ n + 72) => (uXi9 a h.1 h.2).2) _ (by omega)) j).trans (i1_4 i j hi hj)
  have i1_5 : R10 (n) 2 = some (n + 1) := (congrFun ((fun a (h : a < n + 73 ∧ a ≠ n + 72) => (uXi9 a h.1 h.2).1) _ (by omega)) _).trans i1_5
  have i1_6 : K10 (n + 18) = some (.inl 0, 16) := (uKi9 _ (by omega)).trans i1_6
  have i1_7 : (∀ i, I10 (n + 18) i = 0) := fun i => (congrFun ((fun a (h : a < n + 73 ∧ a ≠ n + 72) => (uXi9 a h.1 h.2).2) _ (by omega)) i).trans (i1_7 i)
  have i1_8 : R10 (n) 3 = some (n + 18) := (congrFun ((fun a (h : a < n + 73 ∧ a ≠ n + 72) => (uXi9 a h.1 h.2).1) _ (by omega)) _).trans i1_8
  have i1_9 : K10 (n + 19) = some (.inl 0, 16) := (uKi9 _ (by omega)).trans i1_9
  have i1_10 : (∀ i, I10 (n + 19) i = 0) := fun i => (congrFun ((fun a (h : a < n + 73 ∧ a ≠ n + 72) => (uXi9 a h.1 h.2).2) _ (by omega)) i).trans (i1_10 i)
  have i1_11 : R10 (n) 4 = some (n + 19) := (congrFun ((fun a (h : a < n + 73 ∧ a ≠ n + 72) => (uXi9 a h.1 h.2).1) _ (by omega)) _).trans i1_11
  have r0 : R10 (x) 0 = some (n) := (congrFun ((fun a (h : a < n + 73 ∧ a ≠ n + 72) => (uXi9 a h.1 h.2).1) _ (by omega)) _).trans r0
  have g4 : gd K10 R10 (n + 20) := gd_mv g4 (fun a h1 h2 => uKi9 a (by omega)) ((fun a (h : a < n + 73 ∧ a ≠ n + 72) => (uXi9 a h.1 h.2).1) _ (by omega))
  have w4 : (∀ i j, i < 16 → j < 16 → I10 (n + 20 + 1 + i) j = -1) := fun i j hi hj => (congrFun ((fun a (h : a < n + 73 ∧ a ≠ n + 72) => (uXi9 a h.1 h.2).2) _ (by omega)) j).trans (w4 i j hi hj)
  have r1 : R10 (x) 1 = some (n + 20) := (congrFun ((fun a (h : a < n + 73 ∧ a ≠ n + 72) => (uXi9 a h.1 h.2).1) _ (by omega)) _).trans r1
  have i6_0 : K10 (n + 37) = some (.inr 1, 2) := (uKi9 _ (by omega)).trans i6_0
  have i6_1 : gd K10 R10 (n + 38) := gd_mv i6_1 (fun a h1 h2 => uKi9 a (by omega)) ((fun a (h : a < n + 73 ∧ a ≠ n + 72) => (uXi9 a h.1 h.2).1) _ (by omega))
  have i6_2 : (∀ i j, i < 16 → j < 16 → I10 (n + 38 + 1 + i) j = -1) := fun i j hi hj => (congrFun ((fun a (h : a < n + 73 ∧ a ≠ n + 72) => (uXi9 a h.1 h.2).2) _ (by omega)) j).trans (i6_2 i j hi hj)
  have i6_3 : R10 (n + 37) 0 = some (n + 38) := (congrFun ((fun a (h : a < n + 73 ∧ a ≠ n + 72) => (uXi9 a h.1 h.2).1) _ (by omega)) _).trans i6_3
  have i6_4 : gd K10 R10 (n + 55) := gd_mv i6_4 (fun a h1 h2 => uKi9 a (by omega)) ((fun a (h : a < n + 73 ∧ a ≠ n + 72) => (uXi9 a h.1 h.2).1) _ (by omega))
  have i6_5 : (∀ i j, i < 16 → j < 16 → I10 (n + 55 + 1 + i) j = -1) := fun i j hi hj => (congrFun ((fun a (h : a < n + 73 ∧ a ≠ n + 72) => (uXi9 a h.1 h.2).2) _ (by omega)) j).trans (i6_5 i j hi hj)
  have i6_6 : R10 (n + 37) 1 = some (n + 55) := (congrFun ((fun a (h : a < n + 73 ∧ a ≠ n + 72) => (uXi9 a h.1 h.2).1) _ (by omega)) _).trans i6_6
  have r2 : R10 (x) 2 = some (n + 37) := (congrFun ((fun a (h : a < n + 73 ∧ a ≠ n + 72) => (uXi9 a h.1 h.2).1) _ (by omega)) _).trans r2
  have fK : ∀ a, a < n → K10 a = K a := fun a h => (uKi9 a (by omega)).trans (fK a h)
  have fX : ∀ a, a < n → a ≠ x → R10 a = R a ∧ I10 a = I a := fun a h hx => ⟨((fun a (h : a < n + 73 ∧ a ≠ n + 72) => (uXi9 a h.1 h.2).1) a (by omega)).trans (fX a h hx).1, ((fun a (h : a < n + 73 ∧ a ≠ n + 72) => (uXi9 a h.1 h.2).2) a (by omega)).trans (fX a h hx).2⟩
  have i9_0 : K10 (n + 72) = some (.inr 1, 2) := i9_0
  have i9_1 : gd K10 R10 (n + 73) := i9_1
  have i9_2 : (∀ i j, i < 16 → j < 16 → I10 (n + 73 + 1 + i) j = -1) := i9_2
  have i9_3 : R10 (n + 72) 0 = some (n + 73) := i9_3
  have i9_4 : gd K10 R10 (n + 90) := i9_4
  have i9_5 : (∀ i j, i < 16 → j < 16 → I10 (n + 90 + 1 + i) j = -1) := i9_5
  have i9_6 : R10 (n + 72) 1 = some (n + 90) := i9_6
  obtain ⟨R11, e9⟩ : ∃ Z, Z = upR R10 x 3 (some (n + 72)) := ⟨_, rfl⟩
  obtain ⟨K11, ek⟩ : ∃ Z, Z = K10 := ⟨_, rfl⟩
  obtain ⟨I11, ei⟩ : ∃ Z, Z = I10 := ⟨_, rfl⟩
  have e_11 : hm_pr 3 9 3 (hp K10 R10 (n + 107) (s + 1673) I10) x (n + 72) = some (hp K11 R11 (n + 107) (s + 1673) I11) := by rw [hp_pr hx, ← e9, ← ek, ← ei]
  have hx : K11 (x) = some (.inr 3, 9) := by rw [ek]; exact hx
  have i1_0 : K11 (n) = some (.inr 2, 5) := by rw [ek]; exact i1_0
  have i1_1 : I11 (n) 0 = (0 : Int32) := by rw [ei]; exact i1_1
  have i1_2 : I11 (n) 1 = (0 : Int32) := by rw [ei]; exact i1_2
  have i1_3 : gd K11 R11 (n + 1) := by rw [ek]; exact gd_mv i1_3 (fun a h1 h2 => rfl) (by rw [e9, upR_ne (by omega)])
  have i1_4 : (∀ i j, i < 16 → j < 16 → I11 (n + 1 + 1 + i) j = -1) := by rw [ei]; exact i1_4
  have i1_5 : R11 (n) 2 = some (n + 1) := by rw [e9, upR_ne (by omega)]; exact i1_5
  have i1_6 : K11 (n + 18) = some (.inl 0, 16) := by rw [ek]; exact i1_6
  have i1_7 : (∀ i, I11 (n + 18) i = 0) := by rw [ei]; exact i1_7
  have i1_8 : R11 (n) 3 = some (n + 18) := by rw [e9, upR_ne (by omega)]; exact i1_8
  have i1_9 : K11 (n + 19) = some (.inl 0, 16) := by rw [ek]; exact i1_9
  have i1_10 : (∀ i, I11 (n + 19) i = 0) := by rw [ei]; exact i1_10
  have i1_11 : R11 (n) 4 = some (n + 19) := by rw [e9, upR_ne (by omega)]; exact i1_11
  have r0 : R11 (x) 0 = some (n) := by rw [e9, upR_nj (by decide)]; exact r0
  have g4 : gd K11 R11 (n + 20) := by rw [ek]; exact gd_mv g4 (fun a h1 h2 => rfl) (by rw [e9, upR_ne (by omega)])
  have w4 : (∀ i j, i < 16 → j < 16 → I11 (n + 20 + 1 + i) j = -1) := by rw [ei]; exact w4
  have r1 : R11 (x) 1 = some (n + 20) := by rw [e9, upR_nj (by decide)]; exact r1
  have i6_0 : K11 (n + 37) = some (.inr 1, 2) := by rw [ek]; exact i6_0
  have i6_1 : gd K11 R11 (n + 38) := by rw [ek]; exact gd_mv i6_1 (fun a h1 h2 => rfl) (by rw [e9, upR_ne (by omega)])
  have i6_2 : (∀ i j, i < 16 → j < 16 → I11 (n + 38 + 1 + i) j = -1) := by rw [ei]; exact i6_2
  have i6_3 : R11 (n + 37) 0 = some (n + 38) := by rw [e9, upR_ne (by omega)]; exact i6_3
  have i6_4 : gd K11 R11 (n + 55) := by rw [ek]; exact gd_mv i6_4 (fun a h1 h2 => rfl) (by rw [e9, upR_ne (by omega)])
  have i6_5 : (∀ i j, i < 16 → j < 16 → I11 (n + 55 + 1 + i) j = -1) := by rw [ei]; exact i6_5
  have i6_6 : R11 (n + 37) 1 = some (n + 55) := by rw [e9, upR_ne (by omega)]; exact i6_6
  have r2 : R11 (x) 2 = some (n + 37) := by rw [e9, upR_nj (by decide)]; exact r2
  have i9_0 : K11 (n + 72) = some (.inr 1, 2) := by rw [ek]; exact i9_0
  have i9_1 : gd K11 R11 (n + 73) := by rw [ek]; exact gd_mv i9_1 (fun a h1 h2 => rfl) (by rw [e9, upR_ne (by omega)])
  have i9_2 : (∀ i j, i < 16 → j < 16 → I11 (n + 73 + 1 + i) j = -1) := by rw [ei]; exact i9_2
  have i9_3 : R11 (n + 72) 0 = some (n + 73) := by rw [e9, upR_ne (by omega)]; exact i9_3
  have i9_4 : gd K11 R11 (n + 90) := by rw [ek]; exact gd_mv i9_4 (fun a h1 h2 => rfl) (by rw [e9, upR_ne (by omega)])
  have i9_5 : (∀ i j, i < 16 → j < 16 → I11 (n + 90 + 1 + i) j = -1) := by rw [ei]; exact i9_5
  have i9_6 : R11 (n + 72) 1 = some (n + 90) := by rw [e9, upR_ne (by omega)]; exact i9_6
  have r3 : R11 (x) 3 = some (n + 72) := by rw [e9, upR_at]
  have fK : ∀ a, a < n → K11 a = K a := by rw [ek]; exact fK
  have fX : ∀ a, a < n → a ≠ x → R11 a = R a ∧ I11 a = I a := fun a h hx => ⟨(show R11 a = R10 a by rw [e9, upR_ne hx]).trans (fX a h hx).1, (congrFun ei a).trans (fX a h hx).2⟩
  clear e9 ek ei
  obtain ⟨K12, R12, I12, et11, ut11, qt11⟩ := no_ok (K := K11) (R := R11) (I := I11) (n := n + 107) (s := s + 1673) 0 7
  have hx : K12 (x) = some (.inr 3, 9) := ((fun a h => (ut11 a h).1) _ (by omega)).trans hx
  have i1_0 : K12 (n) = some (.inr 2, 5) := ((fun a h => (ut11 a h).1) _ (by omega)).trans i1_0
  have i1_1 : I12 (n) 0 = (0 : Int32) := (congrFun ((fun a h => (ut11 a h).2.2) _ (by omega)) _).trans i1_1
  have i1_2 : I12 (n) 1 = (0 : Int32) := (congrFun ((fun a h => (ut11 a h).2.2) _ (by omega)) _).trans i1_2
  have i1_3 : gd K12 R12 (n + 1) := gd_mv i1_3 (fun a h1 h2 => (fun a h => (ut11 a h).1) a (by omega)) ((fun a h => (ut11 a h).2.1) _ (by omega))
  have i1_4 : (∀ i j, i < 16 → j < 16 → I12 (n + 1 + 1 + i) j = -1) := fun i j hi hj => (congrFun ((fun a h => (ut11 a h).2.2) _ (by omega)) j).trans (i1_4 i j hi hj)
  have i1_5 : R12 (n) 2 = some (n + 1) := (congrFun ((fun a h => (ut11 a h).2.1) _ (by omega)) _).trans i1_5
  have i1_6 : K12 (n + 18) = some (.inl 0, 16) := ((fun a h => (ut11 a h).1) _ (by omega)).trans i1_6
  have i1_7 : (∀ i, I12 (n + 18) i = 0) := fun i => (congrFun ((fun a h => (ut11 a h).2.2) _ (by omega)) i).trans (i1_7 i)
  have i1_8 : R12 (n) 3 = some (n + 18) := (congrFun ((fun a h => (ut11 a h).2.1) _ (by omega)) _).trans i1_8
  have i1_9 : K12 (n + 19) = some (.inl 0, 16) := ((fun a h => (ut11 a h).1) _ (by omega)).trans i1_9
  have i1_10 : (∀ i, I12 (n + 19) i = 0) := fun i => (congrFun ((fun a h => (ut11 a h).2.2) _ (by omega)) i).trans (i1_10 i)
  have i1_11 : R12 (n) 4 = some (n + 19) := (congrFun ((fun a h => (ut11 a h).2.1) _ (by omega)) _).trans i1_11
  have r0 : R12 (x) 0 = some (n) := (congrFun ((fun a h => (ut11 a h).2.1) _ (by omega)) _).trans r0
  have g4 : gd K12 R12 (n + 20) := gd_mv g4 (fun a h1 h2 => (fun a h => (ut11 a h).1) a (by omega)) ((fun a h => (ut11 a h).2.1) _ (by omega))
  have w4 : (∀ i j, i < 16 → j < 16 → I12 (n + 20 + 1 + i) j = -1) := fun i j hi hj => (congrFun ((fun a h => (ut11 a h).2.2) _ (by omega)) j).trans (w4 i j hi hj)
  have r1 : R12 (x) 1 = some (n + 20) := (congrFun ((fun a h => (ut11 a h).2.1) _ (by omega)) _).trans r1
  have i6_0 : K12 (n + 37) = some (.inr 1, 2) := ((fun a h => (ut11 a h).1) _ (by omega)).trans i6_0
  have i6_1 : gd K12 R12 (n + 38) := gd_mv i6_1 (fun a h1 h2 => (fun a h => (ut11 a h).1) a (by omega)) ((fun a h => (ut11 a h).2.1) _ (by omega))
  have i6_2 : (∀ i j, i < 16 → j < 16 → I12 (n + 38 + 1 + i) j = -1) := fun i j hi hj => (congrFun ((fun a h => (ut11 a h).2.2) _ (by omega)) j).trans (i6_2 i j hi hj)
  have i6_3 : R12 (n + 37) 0 = some (n + 38) := (congrFun ((fun a h => (ut11 a h).2.1) _ (by omega)) _).trans i6_3
  have i6_4 : gd K12 R12 (n + 55) := gd_mv i6_4 (fun a h1 h2 => (fun a h => (ut11 a h).1) a (by omega)) ((fun a h => (ut11 a h).2.1) _ (by omega))
  have i6_5 : (∀ i j, i < 16 → j < 16 → I12 (n + 55 + 1 + i) j = -1) := fun i j hi hj => (congrFun ((fun a h => (ut11 a h).2.2) _ (by omega)) j).trans (i6_5 i j hi hj)
  have i6_6 : R12 (n + 37) 1 = some (n + 55) := (congrFun ((fun a h => (ut11 a h).2.1) _ (by omega)) _).trans i6_6
  have r2 : R12 (x) 2 = some (n + 37) := (congrFun ((fun a h => (ut11 a h).2.1) _ (by omega)) _).trans r2
  have i9_0 : K12 (n + 72) = some (.inr 1, 2) := ((fun a h => (ut11 a h).1) _ (by omega)).trans i9_0
  have i9_1 : gd K12 R12 (n + 73) := gd_mv i9_1 (fun a h1 h2 => (fun a h => (ut11 a h).1) a (by omega)) ((fun a h => (ut11 a h).2.1) _ (by omega))
  have i9_2 : (∀ i j, i < 16 → j < 16 → I12 (n + 73 + 1 + i) j = -1) := fun i j hi hj => (congrFun ((fun a h => (ut11 a h).2.2) _ (by omega)) j).trans (i9_2 i j hi hj)
  have i9_3 : R12 (n + 72) 0 = some (n + 73) := (congrFun ((fun a h => (ut11 a h).2.1) _ (by omega)) _).trans i9_3
  have i9_4 : gd K12 R12 (n + 90) := gd_mv i9_4 (fun a h1 h2 => (fun a h => (ut11 a h).1) a (by omega)) ((fun a h => (ut11 a h).2.1) _ (by omega))
  have i9_5 : (∀ i j, i < 16 → j < 16 → I12 (n + 90 + 1 + i) j = -1) := fun i j hi hj => (congrFun ((fun a h => (ut11 a h).2.2) _ (by omega)) j).trans (i9_5 i j hi hj)
  have i9_6 : R12 (n + 72) 1 = some (n + 90) := (congrFun ((fun a h => (ut11 a h).2.1) _ (by omega)) _).trans i9_6
  have r3 : R12 (x) 3 = some (n + 72) := (congrFun ((fun a h => (ut11 a h).2.1) _ (by omega)) _).trans r3
  have fK : ∀ a, a < n → K12 a = K a := fun a h => ((fun a h => (ut11 a h).1) a (by omega)).trans (fK a h)
  have fX : ∀ a, a < n → a ≠ x → R12 a = R a ∧ I12 a = I a := fun a h hx => ⟨((fun a h => (ut11 a h).2.1) a (by omega)).trans (fX a h hx).1, ((fun a h => (ut11 a h).2.2) a (by omega)).trans (fX a h hx).2⟩
  have o12 : K12 (n + 107) = some (.inr 0, 7) := qt11.1
  have y12 : (∀ i, I12 (n + 107) i = 0) := qt11.2
  obtain ⟨K13, R13, I13, ei12, uKi12, uXi12, i12_0, i12_1, i12_2, i12_3, i12_4, i12_5, i12_6, i12_7, i12_8, i12_9, i12_10, i12_11, i12_12, i12_13, i12_14, i12_15, i12_16, i12_17, i12_18, i12_19⟩ := K_ok (K := K12) (R := R12) (I := I12) (n := n + 108) (s := s + 1680) (x := n + 107) hF (by omega) o12
  have hx : K13 (x) = some (.inr 3, 9) := (uKi12 _ (by omega)).trans hx
  have i1_0 : K13 (n) = some (.inr 2, 5) := (uKi12 _ (by omega)).trans i1_0
  have i1_1 : I13 (n) 0 = (0 : Int32) := (congrFun ((fun a (h : a < n + 108 ∧ a ≠ n + 107) => (uXi12 a h.1 h.2).2) _ (by omega)) _).trans i1_1
  have i1_2 : I13 (n) 1 = (0 : Int32) := (congrFun ((fun a (h : a < n + 108 ∧ a ≠ n + 107) => (uXi12 a h.1 h.2).2) _ (by omega)) _).trans i1_2
  have i1_3 : gd K13 R13 (n + 1) := gd_mv i1_3 (fun a h1 h2 => uKi12 a (by omega)) ((fun a (h : a < n + 108 ∧ a ≠ n + 107) => (uXi12 a h.1 h.2).1) _ (by omega))
  have i1_4 : (∀ i j, i < 16 → j < 16 → I13 (n + 1 + 1 + i) j = -1) := fun i j hi hj => (congrFun ((fun a (h : a < n + 108 ∧ a ≠ n + 107) => (uXi12 a h.1 h.2).2) _ (by omega)) j).trans (i1_4 i j hi hj)
  have i1_5 : R13 (n) 2 = some (n + 1) := (congrFun ((fun a (h : a < n + 108 ∧ a ≠ n + 107) => (uXi12 a h.1 h.2).1) _ (by omega)) _).trans i1_5
  have i1_6 : K13 (n + 18) = some (.inl 0, 16) := (uKi12 _ (by omega)).trans i1_6
  have i1_7 : (∀ i, I13 (n + 18) i = 0) := fun i => (congrFun ((fun a (h : a < n + 108 ∧ a ≠ n + 107) => (uXi12 a h.1 h.2).2) _ (by omega)) i).trans (i1_7 i)
  have i1_8 : R13 (n) 3 = some (n + 18) := (congrFun ((fun a (h : a < n + 108 ∧ a ≠ n + 107) => (uXi12 a h.1 h.2).1) _ (by omega)) _).trans i1_8
  have i1_9 : K13 (n + 19) = some (.inl 0, 16) := (uKi12 _ (by omega)).trans i1_9
  have i1_10 : (∀ i, I13 (n + 19) i = 0) := fun i => (congrFun ((fun a (h : a < n + 108 ∧ a ≠ n + 107) => (uXi12 a h.1 h.2).2) _ (by omega)) i).trans (i1_10 i)
  have i1_11 : R13 (n) 4 = some (n + 19) := (congrFun ((fun a (h : a < n + 108 ∧ a ≠ n + 107) => (uXi12 a h.1 h.2).1) _ (by omega)) _).trans i1_11
  have r0 : R13 (x) 0 = some (n) := (congrFun ((fun a (h : a < n + 108 ∧ a ≠ n + 107) => (uXi12 a h.1 h.2).1) _ (by omega)) _).trans r0
  have g4 : gd K13 R13 (n + 20) := gd_mv g4 (fun a h1 h2 => uKi12 a (by omega)) ((fun a (h : a < n + 108 ∧ a ≠ n + 107) => (uXi12 a h.1 h.2).1) _ (by omega))
  have w4 : (∀ i j, i < 16 → j < 16 → I13 (n + 20 + 1 + i) j = -1) := fun i j hi hj => (congrFun ((fun a (h : a < n + 108 ∧ a ≠ n + 107) => (uXi12 a h.1 h.2).2) _ (by omega)) j).trans (w4 i j hi hj)
  have r1 : R13 (x) 1 = some (n + 20) := (congrFun ((fun a (h : a < n + 108 ∧ a ≠ n + 107) => (uXi12 a h.1 h.2).1) _ (by omega)) _).trans r1
  have i6_0 : K13 (n + 37) = some (.inr 1, 2) := (uKi12 _ (by omega)).trans i6_0
  have i6_1 : gd K13 R13 (n + 38) := gd_mv i6_1 (fun a h1 h2 => uKi12 a (by omega)) ((fun a (h : a < n + 108 ∧ a ≠ n + 107) => (uXi12 a h.1 h.2).1) _ (by omega))
  have i6_2 : (∀ i j, i < 16 → j < 16 → I13 (n + 38 + 1 + i) j = -1) := fun i j hi hj => (congrFun ((fun a (h : a < n + 108 ∧ a ≠ n + 107) => (uXi12 a h.1 h.2).2) _ (by omega)) j).trans (i6_2 i j hi hj)
  have i6_3 : R13 (n + 37) 0 = some (n + 38) := (congrFun ((fun a (h : a < n + 108 ∧ a ≠ n + 107) => (uXi12 a h.1 h.2).1) _ (by omega)) _).trans i6_3
  have i6_4 : gd K13 R13 (n + 55) := gd_mv i6_4 (fun a h1 h2 => uKi12 a (by omega)) ((fun a (h : a < n + 108 ∧ a ≠ n + 107) => (uXi12 a h.1 h.2).1) _ (by omega))
  have i6_5 : (∀ i j, i < 16 → j < 16 → I13 (n + 55 + 1 + i) j = -1) := fun i j hi hj => (congrFun ((fun a (h : a < n + 108 ∧ a ≠ n + 107) => (uXi12 a h.1 h.2).2) _ (by omega)) j).trans (i6_5 i j hi hj)
  have i6_6 : R13 (n + 37) 1 = some (n + 55) := (congrFun ((fun a (h : a < n + 108 ∧ a ≠ n + 107) => (uXi12 a h.1 h.2).1) _ (by omega)) _).trans i6_6
  have r2 : R13 (x) 2 = some (n + 37) := (congrFun ((fun a (h : a < n + 108 ∧ a ≠ n + 107) => (uXi12 a h.1 h.2).1) _ (by omega)) _).trans r2
  have i9_0 : K13 (n + 72) = some (.inr 1, 2) := (uKi12 _ (by omega)).trans i9_0
  have i9_1 : gd K13 R13 (n + 73) := gd_mv i9_1 (fun a h1 h2 => uKi12 a (by omega)) ((fun a (h : a < n + 108 ∧ a ≠ n + 107) => (uXi12 a h.1 h.2).1) _ (by omega))
  have i9_2 : (∀ i j, i < 16 → j < 16 → I13 (n + 73 + 1 + i) j = -1) := fun i j hi hj => (congrFun ((fun a (h : a < n + 108 ∧ a ≠ n + 107) => (uXi12 a h.1 h.2).2) _ (by omega)) j).trans (i9_2 i j hi hj)
  have i9_3 : R13 (n + 72) 0 = some (n + 73) := (congrFun ((fun a (h : a < n + 108 ∧ a ≠ n + 107) => (uXi12 a h.1 h.2).1) _ (by omega)) _).trans i9_3
  have i9_4 : gd K13 R13 (n + 90) := gd_mv i9_4 (fun a h1 h2 => uKi12 a (by omega)) ((fun a (h : a < n + 108 ∧ a ≠ n + 107) => (uXi12 a h.1 h.2).1) _ (by omega))
  have i9_5 : (∀ i j, i < 16 → j < 16 → I13 (n + 90 + 1 + i) j = -1) := fun i j hi hj => (congrFun ((fun a (h : a < n + 108 ∧ a ≠ n + 107) => (uXi12 a h.1 h.2).2) _ (by omega)) j).trans (i9_5 i j hi hj)
  have i9_6 : R13 (n + 72) 1 = some (n + 90) := (congrFun ((fun a (h : a < n + 108 ∧ a ≠ n + 107) => (uXi12 a h.1 h.2).1) _ (by omega)) _).trans i9_6
  have r3 : R13 (x) 3 = some (n + 72) := (congrFun ((fun a (h : a < n + 108 ∧ a ≠ n + 107) => (uXi12 a h.1 h.2).1) _ (by omega)) _).trans r3
  have fK : ∀ a, a < n → K13 a = K a := fun a h => (uKi12 a (by omega)).trans (fK a h)
  have fX : ∀ a, a < n → a ≠ x → R13 a = R a ∧ I13 a = I a := fun a h hx => ⟨((fun a (h : a < n + 108 ∧ a ≠ n + 107) => (uXi12 a h.1 h.2).1) a (by omega)).trans (fX a h hx).1, ((fun a (h : a < n + 108 ∧ a ≠ n + 107) => (uXi12 a h.1 h.2).2) a (by omega)).trans (fX a h hx).2⟩
  have i12_0 : K13 (n + 107) = some (.inr 0, 7) := i12_0
  have i12_1 : gd K13 R13 (n + 108) := i12_1
  have i12_2 : (∀ i j, i < 16 → j < 16 → I13 (n + 108 + 1 + i) j = -1) := i12_2
  have i12_3 : R13 (n + 107) 0 = some (n + 108) := i12_3
  have i12_4 : gd K13 R13 (n + 125) := i12_4
  have i12_5 : (∀ i j, i < 16 → j < 16 → I13 (n + 125 + 1 + i) j = -1) := i12_5
  have i12_6 : R13 (n + 107) 1 = some (n + 125) := i12_6
  have i12_7 : K13 (n + 142) = some (.inl 0, 1120) := i12_7
  have i12_8 : (∀ i, I13 (n + 142) i = 0) := i12_8
  have i12_9 : R13 (n + 107) 2 = some (n + 142) := i12_9
  have i12_10 : K13 (n + 143) = some (.inl 0, 1120) := i12_10
  have i12_11 : (∀ i, I13 (n + 143) i = 0) := i12_11
  have i12_12 : R13 (n + 107) 3 = some (n + 143) := i12_12
  have i12_13 : I13 (n + 107) 4 = (0 : Int32) := i12_13
  have i12_14 : K13 (n + 144) = some (.inl 0, 16) := i12_14
  have i12_15 : (∀ i, I13 (n + 144) i = 0) := i12_15
  have i12_16 : R13 (n + 107) 5 = some (n + 144) := i12_16
  have i12_17 : K13 (n + 145) = some (.inl 0, 16) := i12_17
  have i12_18 : (∀ i, I13 (n + 145) i = 0) := i12_18
  have i12_19 : R13 (n + 107) 6 = some (n + 145) := i12_19
  obtain ⟨R14, e9⟩ : ∃ Z, Z = upR R13 x 4 (some (n + 107)) := ⟨_, rfl⟩
  obtain ⟨K14, ek⟩ : ∃ Z, Z = K13 := ⟨_, rfl⟩
  obtain ⟨I14, ei⟩ : ∃ Z, Z = I13 := ⟨_, rfl⟩
  have e_14 : hm_pr 3 9 4 (hp K13 R13 (n + 146) (s + 4496) I13) x (n + 107) = some (hp K14 R14 (n + 146) (s + 4496) I14) := by rw [hp_pr hx, ← e9, ← ek, ← ei]
  have hx : K14 (x) = some (.inr 3, 9) := by rw [ek]; exact hx
  have i1_0 : K14 (n) = some (.inr 2, 5) := by rw [ek]; exact i1_0
  have i1_1 : I14 (n) 0 = (0 : Int32) := by rw [ei]; exact i1_1
  have i1_2 : I14 (n) 1 = (0 : Int32) := by rw [ei]; exact i1_2
  have i1_3 : gd K14 R14 (n + 1) := by rw [ek]; exact gd_mv i1_3 (fun a h1 h2 => rfl) (by rw [e9, upR_ne (by omega)])
  have i1_4 : (∀ i j, i < 16 → j < 16 → I14 (n + 1 + 1 + i) j = -1) := by rw [ei]; exact i1_4
  have i1_5 : R14 (n) 2 = some (n + 1) := by rw [e9, upR_ne (by omega)]; exact i1_5
  have i1_6 : K14 (n + 18) = some (.inl 0, 16) := by rw [ek]; exact i1_6
  have i1_7 : (∀ i, I14 (n + 18) i = 0) := by rw [ei]; exact i1_7
  have i1_8 : R14 (n) 3 = some (n + 18) := by rw [e9, upR_ne (by omega)]; exact i1_8
  have i1_9 : K14 (n + 19) = some (.inl 0, 16) := by rw [ek]; exact i1_9
  have i1_10 : (∀ i, I14 (n + 19) i = 0) := by rw [ei]; exact i1_10
  have i1_11 : R14 (n) 4 = some (n + 19) := by rw [e9, upR_ne (by omega)]; exact i1_11
  have r0 : R14 (x) 0 = some (n) := by rw [e9, upR_nj (by decide)]; exact r0
  have g4 : gd K14 R14 (n + 20) := by rw [ek]; exact gd_mv g4 (fun a h1 h2 => rfl) (by rw [e9, upR_ne (by omega)])
  have w4 : (∀ i j, i < 16 → j < 16 → I14 (n + 20 + 1 + i) j = -1) := by rw [ei]; exact w4
  have r1 : R14 (x) 1 = some (n + 20) := by rw [e9, upR_nj (by decide)]; exact r1
  have i6_0 : K14 (n + 37) = some (.inr 1, 2) := by rw [ek]; exact i6_0
  have i6_1 : gd K14 R14 (n + 38) := by rw [ek]; exact gd_mv i6_1 (fun a h1 h2 => rfl) (by rw [e9, upR_ne (by omega)])
  have i6_2 : (∀ i j, i < 16 → j < 16 → I14 (n + 38 + 1 + i) j = -1) := by rw [ei]; exact i6_2
  have i6_3 : R14 (n + 37) 0 = some (n + 38) := by rw [e9, upR_ne (by omega)]; exact i6_3
  have i6_4 : gd K14 R14 (n + 55) := by rw [ek]; exact gd_mv i6_4 (fun a h1 h2 => rfl) (by rw [e9, upR_ne (by omega)])
  have i6_5 : (∀ i j, i < 16 → j < 16 → I14 (n + 55 + 1 + i) j = -1) := by rw [ei]; exact i6_5
  have i6_6 : R14 (n + 37) 1 = some (n + 55) := by rw [e9, upR_ne (by omega)]; exact i6_6
  have r2 : R14 (x) 2 = some (n + 37) := by rw [e9, upR_nj (by decide)]; exact r2
  have i9_0 : K14 (n + 72) = some (.inr 1, 2) := by rw [ek]; exact i9_0
  have i9_1 : gd K14 R14 (n + 73) := by rw [ek]; exact gd_mv i9_1 (fun a h1 h2 => rfl) (by rw [e9, upR_ne (by omega)])
  have i9_2 : (∀ i j, i < 16 → j < 16 → I14 (n + 73 + 1 + i) j = -1) := by rw [ei]; exact i9_2
  have i9_3 : R14 (n + 72) 0 = some (n + 73) := by rw [e9, upR_ne (by omega)]; exact i9_3
  have i9_4 : gd K14 R14 (n + 90) := by rw [ek]; exact gd_mv i9_4 (fun a h1 h2 => rfl) (by rw [e9, upR_ne (by omega)])
  have i9_5 : (∀ i j, i < 16 → j < 16 → I14 (n + 90 + 1 + i) j = -1) := by rw [ei]; exact i9_5
  have i9_6 : R14 (n + 72) 1 = some (n + 90) := by rw [e9, upR_ne (by omega)]; exact i9_6
  have r3 : R14 (x) 3 = some (n + 72) := by rw [e9, upR_nj (by decide)]; exact r3
  have i12_0 : K14 (n + 107) = some (.inr 0, 7) := by rw [ek]; exact i12_0
  have i12_1 : gd K14 R14 (n + 108) := by rw [ek]; exact gd_mv i12_1 (fun a h1 h2 => rfl) (by rw [e9, upR_ne (by omega)])
  have i12_2 : (∀ i j, i < 16 → j < 16 → I14 (n + 108 + 1 + i) j = -1) := by rw [ei]; exact i12_2
  have i12_3 : R14 (n + 107) 0 = some (n + 108) := by rw [e9, upR_ne (by omega)]; exact i12_3
  have i12_4 : gd K14 R14 (n + 125) := by rw [ek]; exact gd_mv i12_4 (fun a h1 h2 => rfl) (by rw [e9, upR_ne (by omega)])
  have i12_5 : (∀ i j, i < 16 → j < 16 → I14 (n + 125 + 1 + i) j = -1) := by rw [ei]; exact i12_5
  have i12_6 : R14 (n + 107) 1 = some (n + 125) := by rw [e9, upR_ne (by omega)]; exact i12_6
  have i12_7 : K14 (n + 142) = some (.inl 0, 1120) := by rw [ek]; exact i12_7
  have i12_8 : (∀ i, I14 (n + 142) i = 0) := by rw [ei]; exact i12_8
  have i12_9 : R14 (n + 107) 2 = some (n + 142) := by rw [e9, upR_ne (by omega)]; exact i12_9
  have i12_10 : K14 (n + 143) = some (.inl 0, 1120) := by rw [ek]; exact i12_10
  have i12_11 : (∀ i, I14 (n + 143) i = 0) := by rw [ei]; exact i12_11
  have i12_12 : R14 (n + 107) 3 = some (n + 143) := by rw [e9, upR_ne (by omega)]; exact i12_12
  have i12_13 : I14 (n + 107) 4 = (0 : Int32) := by rw [ei]; exact i12_13
  have i12_14 : K14 (n + 144) = some (.inl 0, 16) := by rw [ek]; exact i12_14
  have i12_15 : (∀ i, I14 (n + 144) i = 0) := by rw [ei]; exact i12_15
  have i12_16 : R14 (n + 107) 5 = some (n + 144) := by rw [e9, upR_ne (by omega)]; exact i12_16
  have i12_17 : K14 (n + 145) = some (.inl 0, 16) := by rw [ek]; exact i12_17
  have i12_18 : (∀ i, I14 (n + 145) i = 0) := by rw [ei]; exact i12_18
  have i12_19 : R14 (n + 107) 6 = some (n + 145) := by rw [e9, upR_ne (by omega)]; exact i12_19
  have r4 : R14 (x) 4 = some (n + 107) := by rw [e9, upR_at]
  have fK : ∀ a, a < n → K14 a = K a := by rw [ek]; exact fK
  have fX : ∀ a, a < n → a ≠ x → R14 a = R a ∧ I14 a = I a := fun a h hx => ⟨(show R14 a = R13 a by rw [e9, upR_ne hx]).trans (fX a h hx).1, (congrFun ei a).trans (fX a h hx).2⟩
  clear e9 ek ei
  obtain ⟨K15, R15, I15, et14, ut14, qt14⟩ := na_ok (K := K14) (R := R14) (I := I14) (n := n + 146) (s := s + 4496) 2 16 (16 : Int32) (by decide +kernel) (by decide)
  have hx : K15 (x) = some (.inr 3, 9) := ((fun a h => (ut14 a h).1) _ (by omega)).trans hx
  have i1_0 : K15 (n) = some (.inr 2, 5) := ((fun a h => (ut14 a h).1) _ (by omega)).trans i1_0
  have i1_1 : I15 (n) 0 = (0 : Int32) := (congrFun ((fun a h => (ut14 a h).2.2) _ (by omega)) _).trans i1_1
  have i1_2 : I15 (n) 1 = (0 : Int32) := (congrFun ((fun a h => (ut14 a h).2.2) _ (by omega)) _).trans i1_2
  have i1_3 : gd K15 R15 (n + 1) := gd_mv i1_3 (fun a h1 h2 => (fun a h => (ut14 a h).1) a (by omega)) ((fun a h => (ut14 a h).2.1) _ (by omega))
  have i1_4 : (∀ i j, i < 16 → j < 16 → I15 (n + 1 + 1 + i) j = -1) := fun i j hi hj => (congrFun ((fun a h => (ut14 a h).2.2) _ (by omega)) j).trans (i1_4 i j hi hj)
  have i1_5 : R15 (n) 2 = some (n + 1) := (congrFun ((fun a h => (ut14 a h).2.1) _ (by omega)) _).trans i1_5
  have i1_6 : K15 (n + 18) = some (.inl 0, 16) := ((fun a h => (ut14 a h).1) _ (by omega)).trans i1_6
  have i1_7 : (∀ i, I15 (n + 18) i = 0) := fun i => (congrFun ((fun a h => (ut14 a h).2.2) _ (by omega)) i).trans (i1_7 i)
  have i1_8 : R15 (n) 3 = some (n + 18) := (congrFun ((fun a h => (ut14 a h).2.1) _ (by omega)) _).trans i1_8
  have i1_9 : K15 (n + 19) = some (.inl 0, 16) := ((fun a h => (ut14 a h).1) _ (by omega)).trans i1_9
  have i1_10 : (∀ i, I15 (n + 19) i = 0) := fun i => (congrFun ((fun a h => (ut14 a h).2.2) _ (by omega)) i).trans (i1_10 i)
  have i1_11 : R15 (n) 4 = some (n + 19) := (congrFun ((fun a h => (ut14 a h).2.1) _ (by omega)) _).trans i1_11
  have r0 : R15 (x) 0 = some (n) := (congrFun ((fun a h => (ut14 a h).2.1) _ (by omega)) _).trans r0
  have g4 : gd K15 R15 (n + 20) := gd_mv g4 (fun a h1 h2 => (fun a h => (ut14 a h).1) a (by omega)) ((fun a h => (ut14 a h).2.1) _ (by omega))
  have w4 : (∀ i j, i < 16 → j < 16 → I15 (n + 20 + 1 + i) j = -1) := fun i j hi hj => (congrFun ((fun a h => (ut14 a h).2.2) _ (by omega)) j).trans (w4 i j hi hj)
  have r1 : R15 (x) 1 = some (n + 20) := (congrFun ((fun a h => (ut14 a h).2.1) _ (by omega)) _).trans r1
  have i6_0 : K15 (n + 37) = some (.inr 1, 2) := ((fun a h => (ut14 a h).1) _ (by omega)).trans i6_0
  have i6_1 : gd K15 R15 (n + 38) := gd_mv i6_1 (fun a h1 h2 => (fun a h => (ut14 a h).1) a (by omega)) ((fun a h => (ut14 a h).2.1) _ (by omega))
  have i6_2 : (∀ i j, i < 16 → j < 16 → I15 (n + 38 + 1 + i) j = -1) := fun i j hi hj => (congrFun ((fun a h => (ut14 a h).2.2) _ (by omega)) j).trans (i6_2 i j hi hj)
  have i6_3 : R15 (n + 37) 0 = some (n + 38) := (congrFun ((fun a h => (ut14 a h).2.1) _ (by omega)) _).trans i6_3
  have i6_4 : gd K15 R15 (n + 55) := gd_mv i6_4 (fun a h1 h2 => (fun a h => (ut14 a h).1) a (by omega)) ((fun a h => (ut14 a h).2.1) _ (by omega))
  have i6_5 : (∀ i j, i < 16 → j < 16 → I15 (n + 55 + 1 + i) j = -1) := fun i j hi hj => (congrFun ((fun a h => (ut14 a h).2.2) _ (by omega)) j).trans (i6_5 i j hi hj)
  have i6_6 : R15 (n + 37) 1 = some (n + 55) := (congrFun ((fun a h => (ut14 a h).2.1) _ (by omega)) _).trans i6_6
  have r2 : R15 (x) 2 = some (n + 37) := (congrFun ((fun a h => (ut14 a h).2.1) _ (by omega)) _).trans r2
  have i9_0 : K15 (n + 72) = some (.inr 1, 2) := ((fun a h => (ut14 a h).1) _ (by omega)).trans i9_0
  have i9_1 : gd K15 R15 (n + 73) := gd_mv i9_1 (fun a h1 h2 => (fun a h => (ut14 a h).1) a (by omega)) ((fun a h => (ut14 a h).2.1) _ (by omega))
  have i9_2 : (∀ i j, i < 16 → j < 16 → I15 (n + 73 + 1 + i) j = -1) := fun i j hi hj => (congrFun ((fun a h => (ut14 a h).2.2) _ (by omega)) j).trans (i9_2 i j hi hj)
  have i9_3 : R15 (n + 72) 0 = some (n + 73) := (congrFun ((fun a h => (ut14 a h).2.1) _ (by omega)) _).trans i9_3
  have i9_4 : gd K15 R15 (n + 90) := gd_mv i9_4 (fun a h1 h2 => (fun a h => (ut14 a h).1) a (by omega)) ((fun a h => (ut14 a h).2.1) _ (by omega))
  have i9_5 : (∀ i j, i < 16 → j < 16 → I15 (n + 90 + 1 + i) j = -1) := fun i j hi hj => (congrFun ((fun a h => (ut14 a h).2.2) _ (by omega)) j).trans (i9_5 i j hi hj)
  have i9_6 : R15 (n + 72) 1 = some (n + 90) := (congrFun ((fun a h => (ut14 a h).2.1) _ (by omega)) _).trans i9_6
  have r3 : R15 (x) 3 = some (n + 72) := (congrFun ((fun a h => (ut14 a h).2.1) _ (by omega)) _).trans r3
  have i12_0 : K15 (n + 107) = some (.inr 0, 7) := ((fun a h => (ut14 a h).1) _ (by omega)).trans i12_0
  have i12_1 : gd K15 R15 (n + 108) := gd_mv i12_1 (fun a h1 h2 => (fun a h => (ut14 a h).1) a (by omega)) ((fun a h => (ut14 a h).2.1) _ (by omega))
  have i12_2 : (∀ i j, i < 16 → j < 16 → I15 (n + 108 + 1 + i) j = -1) := fun i j hi hj => (congrFun ((fun a h => (ut14 a h).2.2) _ (by omega)) j).trans (i12_2 i j hi hj)
  have i12_3 : R15 (n + 107) 0 = some (n + 108) := (congrFun ((fun a h => (ut14 a h).2.1) _ (by omega)) _).trans i12_3
  have i12_4 : gd K15 R15 (n + 125) := gd_mv i12_4 (fun a h1 h2 => (fun a h => (ut14 a h).1) a (by omega)) ((fun a h => (ut14 a h).2.1) _ (by omega))
  have i12_5 : (∀ i j, i < 16 → j < 16 → I15 (n + 125 + 1 + i) j = -1) := fun i j hi hj => (congrFun ((fun a h => (ut14 a h).2.2) _ (by omega)) j).trans (i12_5 i j hi hj)
  have i12_6 : R15 (n + 107) 1 = some (n + 125) := (congrFun ((fun a h => (ut14 a h).2.1) _ (by omega)) _).trans i12_6
  have i12_7 : K15 (n + 142) = some (.inl 0, 1120) := ((fun a h => (ut14 a h).1) _ (by omega)).trans i12_7
  have i12_8 : (∀ i, I15 (n + 142) i = 0) := fun i => (congrFun ((fun a h => (ut14 a h).2.2) _ (by omega)) i).trans (i12_8 i)
  have i12_9 : R15 (n + 107) 2 = some (n + 142) := (congrFun ((fun a h => (ut14 a h).2.1) _ (by omega)) _).trans i12_9
  have i12_10 : K15 (n + 143) = some (.inl 0, 1120) := ((fun a h => (ut14 a h).1) _ (by omega)).trans i12_10
  have i12_11 : (∀ i, I15 (n + 143) i = 0) := fun i => (congrFun ((fun a h => (ut14 a h).2.2) _ (by omega)) i).trans (i12_11 i)
  have i12_12 : R15 (n + 107) 3 = some (n + 143) := (congrFun ((fun a h => (ut14 a h).2.1) _ (by omega)) _).trans i12_12
  have i12_13 : I15 (n + 107) 4 = (0 : Int32) := (congrFun ((fun a h => (ut14 a h).2.2) _ (by omega)) _).trans i12_13
  have i12_14 : K15 (n + 144) = some (.inl 0, 16) := ((fun a h => (ut14 a h).1) _ (by omega)).trans i12_14
  have i12_15 : (∀ i, I15 (n + 144) i = 0) := fun i => (congrFun ((fun a h => (ut14 a h).2.2) _ (by omega)) i).trans (i12_15 i)
  have i12_16 : R15 (n + 107) 5 = some (n + 144) := (congrFun ((fun a h => (ut14 a h).2.1) _ (by omega)) _).trans i12_16
  have i12_17 : K15 (n + 145) = some (.inl 0, 16) := ((fun a h => (ut14 a h).1) _ (by omega)).trans i12_17
  have i12_18 : (∀ i, I15 (n + 145) i = 0) := fun i => (congrFun ((fun a h => (ut14 a h).2.2) _ (by omega)) i).trans (i12_18 i)
  have i12_19 : R15 (n + 107) 6 = some (n + 145) := (congrFun ((fun a h => (ut14 a h).2.1) _ (by omega)) _).trans i12_19
  have r4 : R15 (x) 4 = some (n + 107) := (congrFun ((fun a h => (ut14 a h).2.1) _ (by omega)) _).trans r4
  have fK : ∀ a, a < n → K15 a = K a := fun a h => ((fun a h => (ut14 a h).1) a (by omega)).trans (fK a h)
  have fX : ∀ a, a < n → a ≠ x → R15 a = R a ∧ I15 a = I a := fun a h hx => ⟨((fun a h => (ut14 a h).2.1) a (by omega)).trans (fX a h hx).1, ((fun a h => (ut14 a h).2.2) a (by omega)).trans (fX a h hx).2⟩
  have k15 : K15 (n + 146) = some (.inl 2, 16) := qt14.1
  have z15 : (∀ i, I15 (n + 146) i = 0) := qt14.2
  obtain ⟨R16, e9⟩ : ∃ Z, Z = upR R15 x 5 (some (n + 146)) := ⟨_, rfl⟩
  obtain ⟨K16, ek⟩ : ∃ Z, Z = K15 := ⟨_, rfl⟩
  obtain ⟨I16, ei⟩ : ∃ Z, Z = I15 := ⟨_, rfl⟩
  have e_16 : hm_pr 3 9 5 (hp K15 R15 (n + 147) (s + 4512) I15) x (n + 146) = some (hp K16 R16 (n + 147) (s + 4512) I16) := by rw [hp_pr hx, ← e9, ← ek, ← ei]
  have hx : K16 (x) = some (.inr 3, 9) := by rw [ek]; exact hx
  have i1_0 : K16 (n) = some (.inr 2, 5) := by rw [ek]; exact i1_0
  have i1_1 : I16 (n) 0 = (0 : Int32) := by rw [ei]; exact i1_1
  have i1_2 : I16 (n) 1 = (0 : Int32) := by rw [ei]; exact i1_2
  have i1_3 : gd K16 R16 (n + 1) := by rw [ek]; exact gd_mv i1_3 (fun a h1 h2 => rfl) (by rw [e9, upR_ne (by omega)])
  have i1_4 : (∀ i j, i < 16 → j < 16 → I16 (n + 1 + 1 + i) j = -1) := by rw [ei]; exact i1_4
  have i1_5 : R16 (n) 2 = some (n + 1) := by rw [e9, upR_ne (by omega)]; exact i1_5
  have i1_6 : K16 (n + 18) = some (.inl 0, 16) := by rw [ek]; exact i1_6
  have i1_7 : (∀ i, I16 (n + 18) i = 0) := by rw [ei]; exact i1_7
  have i1_8 : R16 (n) 3 = some (n + 18) := by rw [e9, upR_ne (by omega)]; exact i1_8
  have i1_9 : K16 (n + 19) = some (.inl 0, 16) := by rw [ek]; exact i1_9
  have i1_10 : (∀ i, I16 (n + 19) i = 0) := by rw [ei]; exact i1_10
  have i1_11 : R16 (n) 4 = some (n + 19) := by rw [e9, upR_ne (by omega)]; exact i1_11
  have r0 : R16 (x) 0 = some (n) := by rw [e9, upR_nj (by decide)]; exact r0
  have g4 : gd K16 R16 (n + 20) := by rw [ek]; exact gd_mv g4 (fun a h1 h2 => rfl) (by rw [e9, upR_ne (by omega)])
  have w4 : (∀ i j, i < 16 → j < 16 → I16 (n + 20 + 1 + i) j = -1) := by rw [ei]; exact w4
  have r1 : R16 (x) 1 = some (n + 20) := by rw [e9, upR_nj (by decide)]; exact r1
  have i6_0 : K16 (n + 37) = some (.inr 1, 2) := by rw [ek]; exact i6_0
  have i6_1 : gd K16 R16 (n + 38) := by rw [ek]; exact gd_mv i6_1 (fun a h1 h2 => rfl) (by rw [e9, upR_ne (by omega)])
  have i6_2 : (∀ i j, i < 16 → j < 16 → I16 (n + 38 + 1 + i) j = -1) := by rw [ei]; exact i6_2
  have i6_3 : R16 (n + 37) 0 = some (n + 38) := by rw [e9, upR_ne (by omega)]; exact i6_3
  have i6_4 : gd K16 R16 (n + 55) := by rw [ek]; exact gd_mv i6_4 (fun a h1 h2 => rfl) (by rw [e9, upR_ne (by omega)])
  have i6_5 : (∀ i j, i < 16 → j < 16 → I16 (n + 55 + 1 + i) j = -1) := by rw [ei]; exact i6_5
  have i6_6 : R16 (n + 37) 1 = some (n + 55) := by rw [e9, upR_ne (by omega)]; exact i6_6
  have r2 : R16 (x) 2 = some (n + 37) := by rw [e9, upR_nj (by decide)]; exact r2
  have i9_0 : K16 (n + 72) = some (.inr 1, 2) := by rw [ek]; exact i9_0
  have i9_1 : gd K16 R16 (n + 73) := by rw [ek]; exact gd_mv i9_1 (fun a h1 h2 => rfl) (by rw [e9, upR_ne (by omega)])
  have i9_2 : (∀ i j, i < 16 → j < 16 → I16 (n + 73 + 1 + i) j = -1) := by rw [ei]; exact i9_2
  have i9_3 : R16 (n + 72) 0 = some (n + 73) := by rw [e9, upR_ne (by omega)]; exact i9_3
  have i9_4 : gd K16 R16 (n + 90) := by rw [ek]; exact gd_mv i9_4 (fun a h1 h2 => rfl) (by rw [e9, upR_ne (by omega)])
  have i9_5 : (∀ i j, i < 16 → j < 16 → I16 (n + 90 + 1 + i) j = -1) := by rw [ei]; exact i9_5
  have i9_6 : R16 (n + 72) 1 = some (n + 90) := by rw [e9, upR_ne (by omega)]; exact i9_6
  have r3 : R16 (x) 3 = some (n + 72) := by rw [e9, upR_nj (by decide)]; exact r3
  have i12_0 : K16 (n + 107) = some (.inr 0, 7) := by rw [ek]; exact i12_0
  have i12_1 : gd K16 R16 (n + 108) := by rw [ek]; exact gd_mv i12_1 (fun a h1 h2 => rfl) (by rw [e9, upR_ne (by omega)])
  have i12_2 : (∀ i j, i < 16 → j < 16 → I16 (n + 108 + 1 + i) j = -1) := by rw [ei]; exact i12_2
  have i12_3 : R16 (n + 107) 0 = some (n + 108) := by rw [e9, upR_ne (by omega)]; exact i12_3
  have i12_4 : gd K16 R16 (n + 125) := by rw [ek]; exact gd_mv i12_4 (fun a h1 h2 => rfl) (by rw [e9, upR_ne (by omega)])
  have i12_5 : (∀ i j, i < 16 → j < 16 → I16 (n + 125 + 1 + i) j = -1) := by rw [ei]; exact i12_5
  have i12_6 : R16 (n + 107) 1 = some (n + 125) := by rw [e9, upR_ne (by omega)]; exact i12_6
  have i12_7 : K16 (n + 142) = some (.inl 0, 1120) := by rw [ek]; exact i12_7
  have i12_8 : (∀ i, I16 (n + 142) i = 0) := by rw [ei]; exact i12_8
  have i12_9 : R16 (n + 107) 2 = some (n + 142) := by rw [e9, upR_ne (by omega)]; exact i12_9
  have i12_10 : K16 (n + 143) = some (.inl 0, 1120) := by rw [ek]; exact i12_10
  have i12_11 : (∀ i, I16 (n + 143) i = 0) := by rw [ei]; exact i12_11
  have i12_12 : R16 (n + 107) 3 = some (n + 143) := by rw [e9, upR_ne (by omega)]; exact i12_12
  have i12_13 : I16 (n + 107) 4 = (0 : Int32) := by rw [ei]; exact i12_13
  have i12_14 : K16 (n + 144) = some (.inl 0, 16) := by rw [ek]; exact i12_14
  have i12_15 : (∀ i, I16 (n + 144) i = 0) := by rw [ei]; exact i12_15
  have i12_16 : R16 (n + 107) 5 = some (n + 144) := by rw [e9, upR_ne (by omega)]; exact i12_16
  have i12_17 : K16 (n + 145) = some (.inl 0, 16) := by rw [ek]; exact i12_17
  have i12_18 : (∀ i, I16 (n + 145) i = 0) := by rw [ei]; exact i12_18
  have i12_19 : R16 (n + 107) 6 = some (n + 145) := by rw [e9, upR_ne (by omega)]; exact i12_19
  have r4 : R16 (x) 4 = some (n + 107) := by rw [e9, upR_nj (by decide)]; exact r4
  have k15 : K16 (n + 146) = some (.inl 2, 16) := by rw [ek]; exact k15
  have z15 : (∀ i, I16 (n + 146) i = 0) := by rw [ei]; exact z15
  have r5 : R16 (x) 5 = some (n + 146) := by rw [e9, upR_at]
  have fK : ∀ a, a < n → K16 a = K a := by rw [ek]; exact fK
  have fX : ∀ a, a < n → a ≠ x → R16 a = R a ∧ I16 a = I a := fun a h hx => ⟨(show R16 a = R15 a by rw [e9, upR_ne hx]).trans (fX a h hx).1, (congrFun ei a).trans (fX a h hx).2⟩
  clear e9 ek ei
  obtain ⟨I17, e9⟩ : ∃ Z, Z = up2 I16 x 6 (0 : Int32) := ⟨_, rfl⟩
  obtain ⟨K17, ek⟩ : ∃ Z, Z = K16 := ⟨_, rfl⟩
  obtain ⟨R17, er⟩ : ∃ Z, Z = R16 := ⟨_, rfl⟩
  have e_17 : hm_pi 3 9 6 (hp K16 R16 (n + 147) (s + 4512) I16) x (0 : Int32) = some (hp K17 R17 (n + 147) (s + 4512) I17) := by rw [hp_pi hx, ← e9, ← ek, ← er]
  have hx : K17 (x) = some (.inr 3, 9) := by rw [ek]; exact hx
  have i1_0 : K17 (n) = some (.inr 2, 5) := by rw [ek]; exact i1_0
  have i1_1 : I17 (n) 0 = (0 : Int32) := by rw [e9, up2_ne (by omega)]; exact i1_1
  have i1_2 : I17 (n) 1 = (0 : Int32) := by rw [e9, up2_ne (by omega)]; exact i1_2
  have i1_3 : gd K17 R17 (n + 1) := by rw [ek, er]; exact i1_3
  have i1_4 : (∀ i j, i < 16 → j < 16 → I17 (n + 1 + 1 + i) j = -1) := fun i j hi hj => by rw [e9, up2_ne (by omega)]; exact i1_4 i j hi hj
  have i1_5 : R17 (n) 2 = some (n + 1) := by rw [er]; exact i1_5
  have i1_6 : K17 (n + 18) = some (.inl 0, 16) := by rw [ek]; exact i1_6
  have i1_7 : (∀ i, I17 (n + 18) i = 0) := fun i => by rw [e9, up2_ne (by omega)]; exact i1_7 i
  have i1_8 : R17 (n) 3 = some (n + 18) := by rw [er]; exact i1_8
  have i1_9 : K17 (n + 19) = some (.inl 0, 16) := by rw [ek]; exact i1_9
  have i1_10 : (∀ i, I17 (n + 19) i = 0) := fun i => by rw [e9, up2_ne (by omega)]; exact i1_10 i
  have i1_11 : R17 (n) 4 = some (n + 19) := by rw [er]; exact i1_11
  have r0 : R17 (x) 0 = some (n) := by rw [er]; exact r0
  have g4 : gd K17 R17 (n + 20) := by rw [ek, er]; exact g4
  have w4 : (∀ i j, i < 16 → j < 16 → I17 (n + 20 + 1 + i) j = -1) := fun i j hi hj => by rw [e9, up2_ne (by omega)]; exact w4 i j hi hj
  have r1 : R17 (x) 1 = some (n + 20) := by rw [er]; exact r1
  have i6_0 : K17 (n + 37) = some (.inr 1, 2) := by rw [ek]; exact i6_0
  have i6_1 : gd K17 R17 (n + 38) := by rw [ek, er]; exact i6_1
  have i6_2 : (∀ i j, i < 16 → j < 16 → I17 (n + 38 + 1 + i) j = -1) := fun i j hi hj => by rw [e9, up2_ne (by omega)]; exact i6_2 i j hi hj
  have i6_3 : R17 (n + 37) 0 = some (n + 38) := by rw [er]; exact i6_3
  have i6_4 : gd K17 R17 (n + 55) := by rw [ek, er]; exact i6_4
  have i6_5 : (∀ i j, i < 16 → j < 16 → I17 (n + 55 + 1 + i) j = -1) := fun i j hi hj => by rw [e9, up2_ne (by omega)]; exact i6_5 i j hi hj
  have i6_6 : R17 (n + 37) 1 = some (n + 55) := by rw [er]; exact i6_6
  have r2 : R17 (x) 2 = some (n + 37) := by rw [er]; exact r2
  have i9_0 : K17 (n + 72) = some (.inr 1, 2) := by rw [ek]; exact i9_0
  have i9_1 : gd K17 R17 (n + 73) := by rw [ek, er]; exact i9_1
  have i9_2 : (∀ i j, i < 16 → j < 16 → I17 (n + 73 + 1 + i) j = -1) := fun i j hi hj => by rw [e9, up2_ne (by omega)]; exact i9_2 i j hi hj
  have i9_3 : R17 (n + 72) 0 = some (n + 73) := by rw [er]; exact i9_3
  have i9_4 : gd K17 R17 (n + 90) := by rw [ek, er]; exact i9_4
  have i9_5 : (∀ i j, i < 16 → j < 16 → I17 (n + 90 + 1 + i) j = -1) := fun i j hi hj => by rw [e9, up2_ne (by omega)]; exact i9_5 i j hi hj
  have i9_6 : R17 (n + 72) 1 = some (n + 90) := by rw [er]; exact i9_6
  have r3 : R17 (x) 3 = some (n + 72) := by rw [er]; exact r3
  have i12_0 : K17 (n + 107) = some (.inr 0, 7) := by rw [ek]; exact i12_0
  have i12_1 : gd K17 R17 (n + 108) := by rw [ek, er]; exact i12_1
  have i12_2 : (∀ i j, i < 16 → j < 16 → I17 (n + 108 + 1 + i) j = -1) := fun i j hi hj => by rw [e9, up2_ne (by omega)]; exact i12_2 i j hi hj
  have i12_3 : R17 (n + 107) 0 = some (n + 108) := by rw [er]; exact i12_3
  have i12_4 : gd K17 R17 (n + 125) := by rw [ek, er]; exact i12_4
  have i12_5 : (∀ i j, i < 16 → j < 16 → I17 (n + 125 + 1 + i) j = -1) := fun i j hi hj => by rw [e9, up2_ne (by omega)]; exact i12_5 i j hi hj
  have i12_6 : R17 (n + 107) 1 = some (n + 125) := by rw [er]; exact i12_6
  have i12_7 : K17 (n + 142) = some (.inl 0, 1120) := by rw [ek]; exact i12_7
  have i12_8 : (∀ i, I17 (n + 142) i = 0) := fun i => by rw [e9, up2_ne (by omega)]; exact i12_8 i
  have i12_9 : R17 (n + 107) 2 = some (n + 142) := by rw [er]; exact i12_9
  have i12_10 : K17 (n + 143) = some (.inl 0, 1120) := by rw [ek]; exact i12_10
  have i12_11 : (∀ i, I17 (n + 143) i = 0) := fun i => by rw [e9, up2_ne (by omega)]; exact i12_11 i
  have i12_12 : R17 (n + 107) 3 = some (n + 143) := by rw [er]; exact i12_12
  have i12_13 : I17 (n + 107) 4 = (0 : Int32) := by rw [e9, up2_ne (by omega)]; exact i12_13
  have i12_14 : K17 (n + 144) = some (.inl 0, 16) := by rw [ek]; exact i12_14
  have i12_15 : (∀ i, I17 (n + 144) i = 0) := fun i => by rw [e9, up2_ne (by omega)]; exact i12_15 i
  have i12_16 : R17 (n + 107) 5 = some (n + 144) := by rw [er]; exact i12_16
  have i12_17 : K17 (n + 145) = some (.inl 0, 16) := by rw [ek]; exact i12_17
  have i12_18 : (∀ i, I17 (n + 145) i = 0) := fun i => by rw [e9, up2_ne (by omega)]; exact i12_18 i
  have i12_19 : R17 (n + 107) 6 = some (n + 145) := by rw [er]; exact i12_19
  have r4 : R17 (x) 4 = some (n + 107) := by rw [er]; exact r4
  have k15 : K17 (n + 146) = some (.inl 2, 16) := by rw [ek]; exact k15
  have z15 : (∀ i, I17 (n + 146) i = 0) := fun i => by rw [e9, up2_ne (by omega)]; exact z15 i
  have r5 : R17 (x) 5 = some (n + 146) := by rw [er]; exact r5
  have hx6 : I17 (x) 6 = (0 : Int32) := by rw [e9, up2_at]
  have fK : ∀ a, a < n → K17 a = K a := by rw [ek]; exact fK
  have fX : ∀ a, a < n → a ≠ x → R17 a = R a ∧ I17 a = I a := fun a h hx => ⟨(congrFun er a).trans (fX a h hx).1, (show I17 a = I16 a by rw [e9, up2_ne hx]).trans (fX a h hx).2⟩
  clear e9 ek er
  obtain ⟨I18, e9⟩ : ∃ Z, Z = up2 I17 x 7 (0 : Int32) := ⟨_, rfl⟩
  obtain ⟨K18, ek⟩ : ∃ Z, Z = K17 := ⟨_, rfl⟩
  obtain ⟨R18, er⟩ : ∃ Z, Z = R17 := ⟨_, rfl⟩
  have e_18 : hm_pz 3 9 7 (hp K17 R17 (n + 147) (s + 4512) I17) x (0 : Int32) = some (hp K18 R18 (n + 147) (s + 4512) I18) := by rw [hp_pz hx (Or.inl rfl), ← e9, ← ek, ← er]
  have hx : K18 (x) = some (.inr 3, 9) := by rw [ek]; exact hx
  have i1_0 : K18 (n) = some (.inr 2, 5) := by rw [ek]; exact i1_0
  have i1_1 : I18 (n) 0 = (0 : Int32) := by rw [e9, up2_ne (by omega)]; exact i1_1
  have i1_2 : I18 (n) 1 = (0 : Int32) := by rw [e9, up2_ne (by omega)]; exact i1_2
  have i1_3 : gd K18 R18 (n + 1) := by rw [ek, er]; exact i1_3
  have i1_4 : (∀ i j, i < 16 → j < 16 → I18 (n + 1 + 1 + i) j = -1) := fun i j hi hj => by rw [e9, up2_ne (by omega)]; exact i1_4 i j hi hj
  have i1_5 : R18 (n) 2 = some (n + 1) := by rw [er]; exact i1_5
  have i1_6 : K18 (n + 18) = some (.inl 0, 16) := by rw [ek]; exact i1_6
  have i1_7 : (∀ i, I18 (n + 18) i = 0) := fun i => by rw [e9, up2_ne (by omega)]; exact i1_7 i
  have i1_8 : R18 (n) 3 = some (n + 18) := by rw [er]; exact i1_8
  have i1_9 : K18 (n + 19) = some (.inl 0, 16) := by rw [ek]; exact i1_9
  have i1_10 : (∀ i, I18 (n + 19) i = 0) := fun i => by rw [e9, up2_ne (by omega)]; exact i1_10 i
  have i1_11 : R18 (n) 4 = some (n + 19) := by rw [er]; exact i1_11
  have r0 : R18 (x) 0 = some (n) := by rw [er]; exact r0
  have g4 : gd K18 R18 (n + 20) := by rw [ek, er]; exact g4
  have w4 : (∀ i j, i < 16 → j < 16 → I18 (n + 20 + 1 + i) j = -1) := fun i j hi hj => by rw [e9, up2_ne (by omega)]; exact w4 i j hi hj
  have r1 : R18 (x) 1 = some (n + 20) := by rw [er]; exact r1
  have i6_0 : K18 (n + 37) = some (.inr 1, 2) := by rw [ek]; exact i6_0
  have i6_1 : gd K18 R18 (n + 38) := by rw [ek, er]; exact i6_1
  have i6_2 : (∀ i j, i < 16 → j < 16 → I18 (n + 38 + 1 + i) j = -1) := fun i j hi hj => by rw [e9, up2_ne (by omega)]; exact i6_2 i j hi hj
  have i6_3 : R18 (n + 37) 0 = some (n + 38) := by rw [er]; exact i6_3
  have i6_4 : gd K18 R18 (n + 55) := by rw [ek, er]; exact i6_4
  have i6_5 : (∀ i j, i < 16 → j < 16 → I18 (n + 55 + 1 + i) j = -1) := fun i j hi hj => by rw [e9, up2_ne (by omega)]; exact i6_5 i j hi hj
  have i6_6 : R18 (n + 37) 1 = some (n + 55) := by rw [er]; exact i6_6
  have r2 : R18 (x) 2 = some (n + 37) := by rw [er]; exact r2
  have i9_0 : K18 (n + 72) = some (.inr 1, 2) := by rw [ek]; exact i9_0
  have i9_1 : gd K18 R18 (n + 73) := by rw [ek, er]; exact i9_1
  have i9_2 : (∀ i j, i < 16 → j < 16 → I18 (n + 73 + 1 + i) j = -1) := fun i j hi hj => by rw [e9, up2_ne (by omega)]; exact i9_2 i j hi hj
  have i9_3 : R18 (n + 72) 0 = some (n + 73) := by rw [er]; exact i9_3
  have i9_4 : gd K18 R18 (n + 90) := by rw [ek, er]; exact i9_4
  have i9_5 : (∀ i j, i < 16 → j < 16 → I18 (n + 90 + 1 + i) j = -1) := fun i j hi hj => by rw [e9, up2_ne (by omega)]; exact i9_5 i j hi hj
  have i9_6 : R18 (n + 72) 1 = some (n + 90) := by rw [er]; exact i9_6
  have r3 : R18 (x) 3 = some (n + 72) := by rw [er]; exact r3
  have i12_0 : K18 (n + 107) = some (.inr 0, 7) := by rw [ek]; exact i12_0
  have i12_1 : gd K18 R18 (n + 108) := by rw [ek, er]; exact i12_1
  have i12_2 : (∀ i j, i < 16 → j < 16 → I18 (n + 108 + 1 + i) j = -1) := fun i j hi hj => by rw [e9, up2_ne (by omega)]; exact i12_2 i j hi hj
  have i12_3 : R18 (n + 107) 0 = some (n + 108) := by rw [er]; exact i12_3
  have i12_4 : gd K18 R18 (n + 125) := by rw [ek, er]; exact i12_4
  have i12_5 : (∀ i j, i < 16 → j < 16 → I18 (n + 125 + 1 + i) j = -1) := fun i j hi hj => by rw [e9, up2_ne (by omega)]; exact i12_5 i j hi hj
  have i12_6 : R18 (n + 107) 1 = some (n + 125) := by rw [er]; exact i12_6
  have i12_7 : K18 (n + 142) = some (.inl 0, 1120) := by rw [ek]; exact i12_7
  have i12_8 : (∀ i, I18 (n + 142) i = 0) := fun i => by rw [e9, up2_ne (by omega)]; exact i12_8 i
  have i12_9 : R18 (n + 107) 2 = some (n + 142) := by rw [er]; exact i12_9
  have i12_10 : K18 (n + 143) = some (.inl 0, 1120) := by rw [ek]; exact i12_10
  have i12_11 : (∀ i, I18 (n + 143) i = 0) := fun i => by rw [e9, up2_ne (by omega)]; exact i12_11 i
  have i12_12 : R18 (n + 107) 3 = some (n + 143) := by rw [er]; exact i12_12
  have i12_13 : I18 (n + 107) 4 = (0 : Int32) := by rw [e9, up2_ne (by omega)]; exact i12_13
  have i12_14 : K18 (n + 144) = some (.inl 0, 16) := by rw [ek]; exact i12_14
  have i12_15 : (∀ i, I18 (n + 144) i = 0) := fun i => by rw [e9, up2_ne (by omega)]; exact i12_15 i
  have i12_16 : R18 (n + 107) 5 = some (n + 144) := by rw [er]; exact i12_16
  have i12_17 : K18 (n + 145) = some (.inl 0, 16) := by rw [ek]; exact i12_17
  have i12_18 : (∀ i, I18 (n + 145) i = 0) := fun i => by rw [e9, up2_ne (by omega)]; exact i12_18 i
  have i12_19 : R18 (n + 107) 6 = some (n + 145) := by rw [er]; exact i12_19
  have r4 : R18 (x) 4 = some (n + 107) := by rw [er]; exact r4
  have k15 : K18 (n + 146) = some (.inl 2, 16) := by rw [ek]; exact k15
  have z15 : (∀ i, I18 (n + 146) i = 0) := fun i => by rw [e9, up2_ne (by omega)]; exact z15 i
  have r5 : R18 (x) 5 = some (n + 146) := by rw [er]; exact r5
  have hx6 : I18 (x) 6 = (0 : Int32) := by rw [e9, up2_nj (by decide)]; exact hx6
  have hx7 : I18 (x) 7 = (0 : Int32) := by rw [e9, up2_at]
  have fK : ∀ a, a < n → K18 a = K a := by rw [ek]; exact fK
  have fX : ∀ a, a < n → a ≠ x → R18 a = R a ∧ I18 a = I a := fun a h hx => ⟨(congrFun er a).trans (fX a h hx).1, (show I18 a = I17 a by rw [e9, up2_ne hx]).trans (fX a h hx).2⟩
  clear e9 ek er
  obtain ⟨I19, e9⟩ : ∃ Z, Z = up2 I18 x 8 (0 : Int32) := ⟨_, rfl⟩
  obtain ⟨K19, ek⟩ : ∃ Z, Z = K18 := ⟨_, rfl⟩
  obtain ⟨R19, er⟩ : ∃ Z, Z = R18 := ⟨_, rfl⟩
  have e_19 : hm_pi 3 9 8 (hp K18 R18 (n + 147) (s + 4512) I18) x (0 : Int32) = some (hp K19 R19 (n + 147) (s + 4512) I19) := by rw [hp_pi hx, ← e9, ← ek, ← er]
  have hx : K19 (x) = some (.inr 3, 9) := by rw [ek]; exact hx
  have i1_0 : K19 (n) = some (.inr 2, 5) := by rw [ek]; exact i1_0
  have i1_1 : I19 (n) 0 = (0 : Int32) := by rw [e9, up2_ne (by omega)]; exact i1_1
  have i1_2 : I19 (n) 1 = (0 : Int32) := by rw [e9, up2_ne (by omega)]; exact i1_2
  have i1_3 : gd K19 R19 (n + 1) := by rw [ek, er]; exact i1_3
  have i1_4 : (∀ i j, i < 16 → j < 16 → I19 (n + 1 + 1 + i) j = -1) := fun i j hi hj => by rw [e9, up2_ne (by omega)]; exact i1_4 i j hi hj
  have i1_5 : R19 (n) 2 = some (n + 1) := by rw [er]; exact i1_5
  have i1_6 : K19 (n + 18) = some (.inl 0, 16) := by rw [ek]; exact i1_6
  have i1_7 : (∀ i, I19 (n + 18) i = 0) := fun i => by rw [e9, up2_ne (by omega)]; exact i1_7 i
  have i1_8 : R19 (n) 3 = some (n + 18) := by rw [er]; exact i1_8
  have i1_9 : K19 (n + 19) = some (.inl 0, 16) := by rw [ek]; exact i1_9
  have i1_10 : (∀ i, I19 (n + 19) i = 0) := fun i => by rw [e9, up2_ne (by omega)]; exact i1_10 i
  have i1_11 : R19 (n) 4 = some (n + 19) := by rw [er]; exact i1_11
  have r0 : R19 (x) 0 = some (n) := by rw [er]; exact r0
  have g4 : gd K19 R19 (n + 20) := by rw [ek, er]; exact g4
  have w4 : (∀ i j, i < 16 → j < 16 → I19 (n + 20 + 1 + i) j = -1) := fun i j hi hj => by rw [e9, up2_ne (by omega)]; exact w4 i j hi hj
  have r1 : R19 (x) 1 = some (n + 20) := by rw [er]; exact r1
  have i6_0 : K19 (n + 37) = some (.inr 1, 2) := by rw [ek]; exact i6_0
  have i6_1 : gd K19 R19 (n + 38) := by rw [ek, er]; exact i6_1
  have i6_2 : (∀ i j, i < 16 → j < 16 → I19 (n + 38 + 1 + i) j = -1) := fun i j hi hj => by rw [e9, up2_ne (by omega)]; exact i6_2 i j hi hj
  have i6_3 : R19 (n + 37) 0 = some (n + 38) := by rw [er]; exact i6_3
  have i6_4 : gd K19 R19 (n + 55) := by rw [ek, er]; exact i6_4
  have i6_5 : (∀ i j, i < 16 → j < 16 → I19 (n + 55 + 1 + i) j = -1) := fun i j hi hj => by rw [e9, up2_ne (by omega)]; exact i6_5 i j hi hj
  have i6_6 : R19 (n + 37) 1 = some (n + 55) := by rw [er]; exact i6_6
  have r2 : R19 (x) 2 = some (n + 37) := by rw [er]; exact r2
  have i9_0 : K19 (n + 72) = some (.inr 1, 2) := by rw [ek]; exact i9_0
  have i9_1 : gd K19 R19 (n + 73) := by rw [ek, er]; exact i9_1
  have i9_2 : (∀ i j, i < 16 → j < 16 → I19 (n + 73 + 1 + i) j = -1) := fun i j hi hj => by rw [e9, up2_ne (by omega)]; exact i9_2 i j hi hj
  have i9_3 : R19 (n + 72) 0 = some (n + 73) := by rw [er]; exact i9_3
  have i9_4 : gd K19 R19 (n + 90) := by rw [ek, er]; exact i9_4
  have i9_5 : (∀ i j, i < 16 → j < 16 → I19 (n + 90 + 1 + i) j = -1) := fun i j hi hj => by rw [e9, up2_ne (by omega)]; exact i9_5 i j hi hj
  have i9_6 : R19 (n + 72) 1 = some (n + 90) := by rw [er]; exact i9_6
  have r3 : R19 (x) 3 = some (n + 72) := by rw [er]; exact r3
  have i12_0 : K19 (n + 107) = some (.inr 0, 7) := by rw [ek]; exact i12_0
  have i12_1 : gd K19 R19 (n + 108) := by rw [ek, er]; exact i12_1
  have i12_2 : (∀ i j, i < 16 → j < 16 → I19 (n + 108 + 1 + i) j = -1) := fun i j hi hj => by rw [e9, up2_ne (by omega)]; exact i12_2 i j hi hj
  have i12_3 : R19 (n + 107) 0 = some (n + 108) := by rw [er]; exact i12_3
  have i12_4 : gd K19 R19 (n + 125) := by rw [ek, er]; exact i12_4
  have i12_5 : (∀ i j, i < 16 → j < 16 → I19 (n + 125 + 1 + i) j = -1) := fun i j hi hj => by rw [e9, up2_ne (by omega)]; exact i12_5 i j hi hj
  have i12_6 : R19 (n + 107) 1 = some (n + 125) := by rw [er]; exact i12_6
  have i12_7 : K19 (n + 142) = some (.inl 0, 1120) := by rw [ek]; exact i12_7
  have i12_8 : (∀ i, I19 (n + 142) i = 0) := fun i => by rw [e9, up2_ne (by omega)]; exact i12_8 i
  have i12_9 : R19 (n + 107) 2 = some (n + 142) := by rw [er]; exact i12_9
  have i12_10 : K19 (n + 143) = some (.inl 0, 1120) := by rw [ek]; exact i12_10
  have i12_11 : (∀ i, I19 (n + 143) i = 0) := fun i => by rw [e9, up2_ne (by omega)]; exact i12_11 i
  have i12_12 : R19 (n + 107) 3 = some (n + 143) := by rw [er]; exact i12_12
  have i12_13 : I19 (n + 107) 4 = (0 : Int32) := by rw [e9, up2_ne (by omega)]; exact i12_13
  have i12_14 : K19 (n + 144) = some (.inl 0, 16) := by rw [ek]; exact i12_14
  have i12_15 : (∀ i, I19 (n + 144) i = 0) := fun i => by rw [e9, up2_ne (by omega)]; exact i12_15 i
  have i12_16 : R19 (n + 107) 5 = some (n + 144) := by rw [er]; exact i12_16
  have i12_17 : K19 (n + 145) = some (.inl 0, 16) := by rw [ek]; exact i12_17
  have i12_18 : (∀ i, I19 (n + 145) i = 0) := fun i => by rw [e9, up2_ne (by omega)]; exact i12_18 i
  have i12_19 : R19 (n + 107) 6 = some (n + 145) := by rw [er]; exact i12_19
  have r4 : R19 (x) 4 = some (n + 107) := by rw [er]; exact r4
  have k15 : K19 (n + 146) = some (.inl 2, 16) := by rw [ek]; exact k15
  have z15 : (∀ i, I19 (n + 146) i = 0) := fun i => by rw [e9, up2_ne (by omega)]; exact z15 i
  have r5 : R19 (x) 5 = some (n + 146) := by rw [er]; exact r5
  have hx6 : I19 (x) 6 = (0 : Int32) := by rw [e9, up2_nj (by decide)]; exact hx6
  have hx7 : I19 (x) 7 = (0 : Int32) := by rw [e9, up2_nj (by decide)]; exact hx7
  have hx8 : I19 (x) 8 = (0 : Int32) := by rw [e9, up2_at]
  have fK : ∀ a, a < n → K19 a = K a := by rw [ek]; exact fK
  have fX : ∀ a, a < n → a ≠ x → R19 a = R a ∧ I19 a = I a := fun a h hx => ⟨(congrFun er a).trans (fX a h hx).1, (show I19 a = I18 a by rw [e9, up2_ne hx]).trans (fX a h hx).2⟩
  clear e9 ek er
  refine ⟨K19, R19, I19, ?_, fK, fX, hx, i1_0, i1_1, i1_2, i1_3, i1_4, i1_5, i1_6, i1_7, i1_8, i1_9, i1_10, i1_11, r0, g4, w4, r1, i6_0, i6_1, i6_2, i6_3, i6_4, i6_5, i6_6, r2, i9_0, i9_1, i9_2, i9_3, i9_4, i9_5, i9_6, r3, i12_0, i12_1, i12_2, i12_3, i12_4, i12_5, i12_6, i12_7, i12_8, i12_9, i12_10, i12_11, i12_12, i12_13, i12_14, i12_15, i12_16, i12_17, i12_18, i12_19, r4, k15, z15, r5, hx6, hx7, hx8⟩
  unfold f_D_init
  simp only [et0, ei1, e_3, et3, e_5, et5, ei6, e_8, et8, ei9, e_11, et11, ei12, e_14, et14, e_16, e_17, e_18, e_19, hm_and_some, Option.bind_some]
