/-! THE NET'S METHODS -/
section NT
variable {K : Nat → Option ((Nat ⊕ Nat) × Nat)} {R : Nat → Nat → Option Nat} {n s a F m : Nat} {I : Nat → Nat → Int32}
theorem N_has_y {j : Nat} (S : shN K R a) (hm : I a 0 = nI m) (h : m ≤ 16) (hj : j < m) : f_N_has F a (nI j) (hp K R n s I) = some (1, hp K R n s I) := by
  unfold f_N_has
  rw [if_neg (nI_pos (by omega)), eN_gi S, Option.bind_some, hm, if_neg (nI_ge hj (by omega)), zr_1, Option.bind_some]
theorem N_has_n {v : Int32} (S : shN K R a) (hm : I a 0 = nI m) (hv : v < 0 ∨ nI m ≤ v) : f_N_has F a v (hp K R n s I) = some (0, hp K R n s I) := by
  unfold f_N_has
  by_cases h0 : v < 0
  · rw [if_pos h0, zr_0, Option.bind_some]
  · rw [if_neg h0, eN_gi S, Option.bind_some, hm, if_pos (hv.resolve_left h0), zr_0, Option.bind_some]
theorem N_two_y {i j : Nat} (S : shN K R a) (hm : I a 0 = nI m) (h : m ≤ 16) (hi : i < m) (hj : j < m) (hij : i ≠ j) : f_N_hasTwo F a (nI i) (nI j) (hp K R n s I) = some (1, hp K R n s I) := by
  unfold f_N_hasTwo
  rw [eN_is S, Option.bind_some, N_has_y S hm h hi, hm_and_some, if_neg (by decide), eN_is S, Option.bind_some, N_has_y S hm h hj, hm_and_some, if_neg (by decide), if_neg (by rw [nI_eq (by omega) (by omega)]; exact hij), zr_1, Option.bind_some]
theorem N_two_n {v w : Int32} (S : shN K R a) (hm : I a 0 = nI m) (h : m ≤ 16) (hb : (v < 0 ∨ nI m ≤ v) ∨ (w < 0 ∨ nI m ≤ w) ∨ v = w) : f_N_hasTwo F a v w (hp K R n s I) = some (0, hp K R n s I) := by
  unfold f_N_hasTwo
  rw [eN_is S, Option.bind_some]
  rcases pk_ix v (n := m) (by omega) with hv | hv | ⟨i, hi, rfl⟩
  · rw [N_has_n S hm (Or.inl hv), hm_and_some, if_pos rfl, zr_0, Option.bind_some]
  · rw [N_has_n S hm (Or.inr hv), hm_and_some, if_pos rfl, zr_0, Option.bind_some]
  · rw [N_has_y S hm h hi, hm_and_some, if_neg (by decide), eN_is S, Option.bind_some]
    rcases pk_ix w (n := m) (by omega) with hw | hw | ⟨j, hj, rfl⟩
    · rw [N_has_n S hm (Or.inl hw), hm_and_some, if_pos rfl, zr_0, Option.bind_some]
    · rw [N_has_n S hm (Or.inr hw), hm_and_some, if_pos rfl, zr_0, Option.bind_some]
    · rw [N_has_y S hm h hj, hm_and_some, if_neg (by decide)]
      rcases hb with (q | q) | (q | q) | q
      · exact absurd q (nI_pos (by omega))
      · exact absurd q (nI_ge hi (by omega))
      · exact absurd q (nI_pos (by omega))
      · exact absurd q (nI_ge hj (by omega))
      · rw [if_pos q, zr_0, Option.bind_some]
theorem N_place {v k : Nat} (S : shN K R a) (hv : v < 16) (hk : k < 16) : f_N_place F a (nI v) (nI k) (hp K R n s I) = some (hp K R n s (up2 (up2 I (a + 18) k (nI v)) (a + 19) v (nI k))) := by
  unfold f_N_place
  rw [eN_r3 S, Option.bind_some, hp_ist S.K18 hk (by omega), Option.bind_some, eN_r4 S, Option.bind_some, hp_ist S.K19 hv (by omega), Option.bind_some]
theorem N_addNode (S : shN K R a) (hm : I a 0 = nI m) (h : m < 16) : f_N_addNode F a (hp K R n s I) = some (nI m, hp K R n s (up2 (up2 (up2 I a 0 (nI (m + 1))) (a + 18) m (nI m)) (a + 19) m (nI m))) := by
  unfold f_N_addNode
  rw [eN_gi S, Option.bind_some, Option.bind_some, eN_pi S, Option.bind_some, eN_is S, Option.bind_some, hm, N_place S h h, Option.bind_some, nI_1]
theorem N_putArc {i j : Nat} {len : Int32} (S : shN K R a) (hi : i < 16) (hj : j < 16) : f_N_putArc F a (nI i) (nI j) len (hp K R n s I) = some (I (a + 1 + 1 + i) j, hp K R n s (up2 (if I (a + 1 + 1 + i) j = -1 then up2 I a 1 (I a 1 + 1) else I) (a + 1 + 1 + i) j len)) := by
  unfold f_N_putArc f_N_putArc_26
  by_cases hc : I (a + 1 + 1 + i) j = -1
  · simp only [eN_r2 S, Option.bind_some, gd_ald S.g1 hi, gd_ild S.g1 hi hj, if_pos hc, eN_gi S, eN_pi S, gd_ist S.g1 hi hj]
  · simp only [eN_r2 S, Option.bind_some, gd_ald S.g1 hi, gd_ild S.g1 hi hj, if_neg hc, eN_gi S, eN_pi S, gd_ist S.g1 hi hj]
theorem N_dropArc {i j : Nat} (S : shN K R a) (hi : i < 16) (hj : j < 16) : f_N_dropArc F a (nI i) (nI j) (hp K R n s I) = some (I (a + 1 + 1 + i) j, hp K R n s (up2 (if I (a + 1 + 1 + i) j = -1 then I else up2 I a 1 (I a 1 - 1)) (a + 1 + 1 + i) j (-1))) := by
  unfold f_N_dropArc f_N_dropArc_24
  by_cases hc : I (a + 1 + 1 + i) j = -1
  · simp only [eN_r2 S, Option.bind_some, gd_ald S.g1 hi, gd_ild S.g1 hi hj, if_pos hc, eN_gi S, eN_pi S, gd_ist S.g1 hi hj]
  · simp only [eN_r2 S, Option.bind_some, gd_ald S.g1 hi, gd_ild S.g1 hi hj, if_neg hc, eN_gi S, eN_pi S, gd_ist S.g1 hi hj]
end NT
