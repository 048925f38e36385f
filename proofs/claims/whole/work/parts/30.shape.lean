def shN (K : Nat → Option ((Nat ⊕ Nat) × Nat)) (R : Nat → Nat → Option Nat) (a : Nat) : Prop := K (a) = some (.inr 2, 5) ∧ gd K R (a + 1) ∧ R a 2 = some (a + 1) ∧ K (a + 18) = some (.inl 0, 16) ∧ R a 3 = some (a + 18) ∧ K (a + 19) = some (.inl 0, 16) ∧ R a 4 = some (a + 19)
theorem shN.K0 {K : Nat → Option ((Nat ⊕ Nat) × Nat)} {R : Nat → Nat → Option Nat} {a : Nat} (S : shN K R a) : K (a) = some (.inr 2, 5) := S.1
theorem shN.g1 {K : Nat → Option ((Nat ⊕ Nat) × Nat)} {R : Nat → Nat → Option Nat} {a : Nat} (S : shN K R a) : gd K R (a + 1) := S.2.1
theorem shN.R2 {K : Nat → Option ((Nat ⊕ Nat) × Nat)} {R : Nat → Nat → Option Nat} {a : Nat} (S : shN K R a) : R a 2 = some (a + 1) := S.2.2.1
theorem eN_r2 {K : Nat → Option ((Nat ⊕ Nat) × Nat)} {R : Nat → Nat → Option Nat} {n s a : Nat} {I : Nat → Nat → Int32} (S : shN K R a) : hm_gr 2 5 2 (hp K R n s I) a = some (a + 1) := hp_gr S.K0 S.R2
theorem shN.K18 {K : Nat → Option ((Nat ⊕ Nat) × Nat)} {R : Nat → Nat → Option Nat} {a : Nat} (S : shN K R a) : K (a + 18) = some (.inl 0, 16) := S.2.2.2.1
theorem shN.R3 {K : Nat → Option ((Nat ⊕ Nat) × Nat)} {R : Nat → Nat → Option Nat} {a : Nat} (S : shN K R a) : R a 3 = some (a + 18) := S.2.2.2.2.1
theorem eN_r3 {K : Nat → Option ((Nat ⊕ Nat) × Nat)} {R : Nat → Nat → Option Nat} {n s a : Nat} {I : Nat → Nat → Int32} (S : shN K R a) : hm_gr 2 5 3 (hp K R n s I) a = some (a + 18) := hp_gr S.K0 S.R3
theorem shN.K19 {K : Nat → Option ((Nat ⊕ Nat) × Nat)} {R : Nat → Nat → Option Nat} {a : Nat} (S : shN K R a) : K (a + 19) = some (.inl 0, 16) := S.2.2.2.2.2.1
theorem shN.R4 {K : Nat → Option ((Nat ⊕ Nat) × Nat)} {R : Nat → Nat → Option Nat} {a : Nat} (S : shN K R a) : R a 4 = some (a + 19) := S.2.2.2.2.2.2
theorem eN_r4 {K : Nat → Option ((Nat ⊕ Nat) × Nat)} {R : Nat → Nat → Option Nat} {n s a : Nat} {I : Nat → Nat → Int32} (S : shN K R a) : hm_gr 2 5 4 (hp K R n s I) a = some (a + 19) := hp_gr S.K0 S.R4
theorem eN_is {K : Nat → Option ((Nat ⊕ Nat) × Nat)} {R : Nat → Nat → Option Nat} {n s a : Nat} {I : Nat → Nat → Int32} (S : shN K R a) : hm_is 2 5 (hp K R n s I) a = some () := hp_is S.K0
theorem eN_gi {K : Nat → Option ((Nat ⊕ Nat) × Nat)} {R : Nat → Nat → Option Nat} {n s a : Nat} {I : Nat → Nat → Int32} {k : Nat} (S : shN K R a) : hm_gi 2 5 k (hp K R n s I) a = some (I a k) := hp_gi S.K0
theorem eN_pi {K : Nat → Option ((Nat ⊕ Nat) × Nat)} {R : Nat → Nat → Option Nat} {n s a : Nat} {I : Nat → Nat → Int32} {k : Nat} {x : Int32} (S : shN K R a) : hm_pi 2 5 k (hp K R n s I) a x = some (hp K R n s (up2 I a k x)) := hp_pi S.K0
theorem eN_p0 {K : Nat → Option ((Nat ⊕ Nat) × Nat)} {R : Nat → Nat → Option Nat} {n s a : Nat} {I : Nat → Nat → Int32} {k : Nat} (S : shN K R a) : hm_pz 2 5 k (hp K R n s I) a (0 : Int32) = some (hp K R n s (up2 I a k 0)) := hp_pz S.K0 (Or.inl rfl)
theorem eN_p1 {K : Nat → Option ((Nat ⊕ Nat) × Nat)} {R : Nat → Nat → Option Nat} {n s a : Nat} {I : Nat → Nat → Int32} {k : Nat} (S : shN K R a) : hm_pz 2 5 k (hp K R n s I) a (1 : Int32) = some (hp K R n s (up2 I a k 1)) := hp_pz S.K0 (Or.inr rfl)
def shL (K : Nat → Option ((Nat ⊕ Nat) × Nat)) (R : Nat → Nat → Option Nat) (a : Nat) : Prop := K (a) = some (.inr 1, 2) ∧ gd K R (a + 1) ∧ R a 0 = some (a + 1) ∧ gd K R (a + 18) ∧ R a 1 = some (a + 18)
theorem shL.K0 {K : Nat → Option ((Nat ⊕ Nat) × Nat)} {R : Nat → Nat → Option Nat} {a : Nat} (S : shL K R a) : K (a) = some (.inr 1, 2) := S.1
theorem shL.g1 {K : Nat → Option ((Nat ⊕ Nat) × Nat)} {R : Nat → Nat → Option Nat} {a : Nat} (S : shL K R a) : gd K R (a + 1) := S.2.1
theorem shL.R0 {K : Nat → Option ((Nat ⊕ Nat) × Nat)} {R : Nat → Nat → Option Nat} {a : Nat} (S : shL K R a) : R a 0 = some (a + 1) := S.2.2.1
theorem eL_r0 {K : Nat → Option ((Nat ⊕ Nat) × Nat)} {R : Nat → Nat → Option Nat} {n s a : Nat} {I : Nat → Nat → Int32} (S : shL K R a) : hm_gr 1 2 0 (hp K R n s I) a = some (a + 1) := hp_gr S.K0 S.R0
theorem shL.g18 {K : Nat → Option ((Nat ⊕ Nat) × Nat)} {R : Nat → Nat → Option Nat} {a : Nat} (S : shL K R a) : gd K R (a + 18) := S.2.2.2.1
theorem shL.R1 {K : Nat → Option ((Nat ⊕ Nat) × Nat)} {R : Nat → Nat → Option Nat} {a : Nat} (S : shL K R a) : R a 1 = some (a + 18) := S.2.2.2.2
theorem eL_r1 {K : Nat → Option ((Nat ⊕ Nat) × Nat)} {R : Nat → Nat → Option Nat} {n s a : Nat} {I : Nat → Nat → Int32} (S : shL K R a) : hm_gr 1 2 1 (hp K R n s I) a = some (a + 18) := hp_gr S.K0 S.R1
theorem eL_is {K : Nat → Option ((Nat ⊕ Nat) × Nat)} {R : Nat → Nat → Option Nat} {n s a : Nat} {I : Nat → Nat → Int32} (S : shL K R a) : hm_is 1 2 (hp K R n s I) a = some () := hp_is S.K0
theorem eL_gi {K : Nat → Option ((Nat ⊕ Nat) × Nat)} {R : Nat → Nat → Option Nat} {n s a : Nat} {I : Nat → Nat → Int32} {k : Nat} (S : shL K R a) : hm_gi 1 2 k (hp K R n s I) a = some (I a k) := hp_gi S.K0
theorem eL_pi {K : Nat → Option ((Nat ⊕ Nat) × Nat)} {R : Nat → Nat → Option Nat} {n s a : Nat} {I : Nat → Nat → Int32} {k : Nat} {x : Int32} (S : shL K R a) : hm_pi 1 2 k (hp K R n s I) a x = some (hp K R n s (up2 I a k x)) := hp_pi S.K0
theorem eL_p0 {K : Nat → Option ((Nat ⊕ Nat) × Nat)} {R : Nat → Nat → Option Nat} {n s a : Nat} {I : Nat → Nat → Int32} {k : Nat} (S : shL K R a) : hm_pz 1 2 k (hp K R n s I) a (0 : Int32) = some (hp K R n s (up2 I a k 0)) := hp_pz S.K0 (Or.inl rfl)
theorem eL_p1 {K : Nat → Option ((Nat ⊕ Nat) × Nat)} {R : Nat → Nat → Option Nat} {n s a : Nat} {I : Nat → Nat → Int32} {k : Nat} (S : shL K R a) : hm_pz 1 2 k (hp K R n s I) a (1 : Int32) = some (hp K R n s (up2 I a k 1)) := hp_pz S.K0 (Or.inr rfl)
def shC (K : Nat → Option ((Nat ⊕ Nat) × Nat)) (R : Nat → Nat → Option Nat) (a : Nat) : Prop := K (a) = some (.inr 0, 7) ∧ gd K R (a + 1) ∧ R a 0 = some (a + 1) ∧ gd K R (a + 18) ∧ R a 1 = some (a + 18) ∧ K (a + 35) = some (.inl 0, 1120) ∧ R a 2 = some (a + 35) ∧ K (a + 36) = some (.inl 0, 1120) ∧ R a 3 = some (a + 36) ∧ K (a + 37) = some (.inl 0, 16) ∧ R a 5 = some (a + 37) ∧ K (a + 38) = some (.inl 0, 16) ∧ R a 6 = some (a + 38)
theorem shC.K0 {K : Nat → Option ((Nat ⊕ Nat) × Nat)} {R : Nat → Nat → Option Nat} {a : Nat} (S : shC K R a) : K (a) = some (.inr 0, 7) := S.1
theorem shC.g1 {K : Nat → Option ((Nat ⊕ Nat) × Nat)} {R : Nat → Nat → Option Nat} {a : Nat} (S : shC K R a) : gd K R (a + 1) := S.2.1
theorem shC.R0 {K : Nat → Option ((Nat ⊕ Nat) × Nat)} {R : Nat → Nat → Option Nat} {a : Nat} (S : shC K R a) : R a 0 = some (a + 1) := S.2.2.1
theorem eC_r0 {K : Nat → Option ((Nat ⊕ Nat) × Nat)} {R : Nat → Nat → Option Nat} {n s a : Nat} {I : Nat → Nat → Int32} (S : shC K R a) : hm_gr 0 7 0 (hp K R n s I) a = some (a + 1) := hp_gr S.K0 S.R0
theorem shC.g18 {K : Nat → Option ((Nat ⊕ Nat) × Nat)} {R : Nat → Nat → Option Nat} {a : Nat} (S : shC K R a) : gd K R (a + 18) := S.2.2.2.1
theorem shC.R1 {K : Nat → Option ((Nat ⊕ Nat) × Nat)} {R : Nat → Nat → Option Nat} {a : Nat} (S : shC K R a) : R a 1 = some (a + 18) := S.2.2.2.2.1
theorem eC_r1 {K : Nat → Option ((Nat ⊕ Nat) × Nat)} {R : Nat → Nat → Option Nat} {n s a : Nat} {I : Nat → Nat → Int32} (S : shC K R a) : hm_gr 0 7 1 (hp K R n s I) a = some (a + 18) := hp_gr S.K0 S.R1
theorem shC.K35 {K : Nat → Option ((Nat ⊕ Nat) × Nat)} {R : Nat → Nat → Option Nat} {a : Nat} (S : shC K R a) : K (a + 35) = some (.inl 0, 1120) := S.2.2.2.2.2.1
theorem shC.R2 {K : Nat → Option ((Nat ⊕ Nat) × Nat)} {R : Nat → Nat → Option Nat} {a : Nat} (S : shC K R a) : R a 2 = some (a + 35) := S.2.2.2.2.2.2.1
theorem eC_r2 {K : Nat → Option ((Nat ⊕ Nat) × Nat)} {R : Nat → Nat → Option Nat} {n s a : Nat} {I : Nat → Nat → Int32} (S : shC K R a) : hm_gr 0 7 2 (hp K R n s I) a = some (a + 35) := hp_gr S.K0 S.R2
theorem shC.K36 {K : Nat → Option ((Nat ⊕ Nat) × Nat)} {R : Nat → Nat → Option Nat} {a : Nat} (S : shC K R a) : K (a + 36) = some (.inl 0, 1120) := S.2.2.2.2.2.2.2.1
theorem shC.R3 {K : Nat → Option ((Nat ⊕ Nat) × Nat)} {R : Nat → Nat → Option Nat} {a : Nat} (S : shC K R a) : R a 3 = some (a + 36) := S.2.2.2.2.2.2.2.2.1
theorem eC_r3 {K : Nat → Option ((Nat ⊕ Nat) × Nat)} {R : Nat → Nat → Option Nat} {n s a : Nat} {I : Nat → Nat → Int32} (S : shC K R a) : hm_gr 0 7 3 (hp K R n s I) a = some (a + 36) := hp_gr S.K0 S.R3
theorem shC.K37 {K : Nat → Option ((Nat ⊕ Nat) × Nat)} {R : Nat → Nat → Option Nat} {a : Nat} (S : shC K R a) : K (a + 37) = some (.inl 0, 16) := S.2.2.2.2.2.2.2.2.2.1
theorem shC.R5 {K : Nat → Option ((Nat ⊕ Nat) × Nat)} {R : Nat → Nat → Option Nat} {a : Nat} (S : shC K R a) : R a 5 = some (a + 37) := S.2.2.2.2.2.2.2.2.2.2.1
theorem eC_r5 {K : Nat → Option ((Nat ⊕ Nat) × Nat)} {R : Nat → Nat → Option Nat} {n s a : Nat} {I : Nat → Nat → Int32} (S : shC K R a) : hm_gr 0 7 5 (hp K R n s I) a = some (a + 37) := hp_gr S.K0 S.R5
theorem shC.K38 {K : Nat → Option ((Nat ⊕ Nat) × Nat)} {R : Nat → Nat → Option Nat} {a : Nat} (S : shC K R a) : K (a + 38) = some (.inl 0, 16) := S.2.2.2.2.2.2.2.2.2.2.2.1
theorem shC.R6 {K : Nat → Option ((Nat ⊕ Nat) × Nat)} {R : Nat → Nat → Option Nat} {a : Nat} (S : shC K R a) : R a 6 = some (a + 38) := S.2.2.2.2.2.2.2.2.2.2.2.2
theorem eC_r6 {K : Nat → Option ((Nat ⊕ Nat) × Nat)} {R : Nat → Nat → Option Nat} {n s a : Nat} {I : Nat → Nat → Int32} (S : shC K R a) : hm_gr 0 7 6 (hp K R n s I) a = some (a + 38) := hp_gr S.K0 S.R6
theorem eC_is {K : Nat → Option ((Nat ⊕ Nat) × Nat)} {R : Nat → Nat → Option Nat} {n s a : Nat} {I : Nat → Nat → Int32} (S : shC K R a) : hm_is 0 7 (hp K R n s I) a = some () := hp_is S.K0
theorem eC_gi {K : Nat → Option ((Nat ⊕ Nat) × Nat)} {R : Nat → Nat → Option Nat} {n s a : Nat} {I : Nat → Nat → Int32} {k : Nat} (S : shC K R a) : hm_gi 0 7 k (hp K R n s I) a = some (I a k) := hp_gi S.K0
theorem eC_pi {K : Nat → Option ((Nat ⊕ Nat) × Nat)} {R : Nat → Nat → Option Nat} {n s a : Nat} {I : Nat → Nat → Int32} {k : Nat} {x : Int32} (S : shC K R a) : hm_pi 0 7 k (hp K R n s I) a x = some (hp K R n s (up2 I a k x)) := hp_pi S.K0
theorem eC_p0 {K : Nat → Option ((Nat ⊕ Nat) × Nat)} {R : Nat → Nat → Option Nat} {n s a : Nat} {I : Nat → Nat → Int32} {k : Nat} (S : shC K R a) : hm_pz 0 7 k (hp K R n s I) a (0 : Int32) = some (hp K R n s (up2 I a k 0)) := hp_pz S.K0 (Or.inl rfl)
theorem eC_p1 {K : Nat → Option ((Nat ⊕ Nat) × Nat)} {R : Nat → Nat → Option Nat} {n s a : Nat} {I : Nat → Nat → Int32} {k : Nat} (S : shC K R a) : hm_pz 0 7 k (hp K R n s I) a (1 : Int32) = some (hp K R n s (up2 I a k 1)) := hp_pz S.K0 (Or.inr rfl)
def shD (K : Nat → Option ((Nat ⊕ Nat) × Nat)) (R : Nat → Nat → Option Nat) (a : Nat) : Prop := K (a) = some (.inr 3, 9) ∧ shN K R (a + 1) ∧ R a 0 = some (a + 1) ∧ gd K R (a + 21) ∧ R a 1 = some (a + 21) ∧ shL K R (a + 38) ∧ R a 2 = some (a + 38) ∧ shL K R (a + 73) ∧ R a 3 = some (a + 73) ∧ shC K R (a + 108) ∧ R a 4 = some (a + 108) ∧ K (a + 147) = some (.inl 2, 16) ∧ R a 5 = some (a + 147)
theorem shD.K0 {K : Nat → Option ((Nat ⊕ Nat) × Nat)} {R : Nat → Nat → Option Nat} {a : Nat} (S : shD K R a) : K (a) = some (.inr 3, 9) := S.1
theorem shD.N1 {K : Nat → Option ((Nat ⊕ Nat) × Nat)} {R : Nat → Nat → Option Nat} {a : Nat} (S : shD K R a) : shN K R (a + 1) := S.2.1
theorem shD.R0 {K : Nat → Option ((Nat ⊕ Nat) × Nat)} {R : Nat → Nat → Option Nat} {a : Nat} (S : shD K R a) : R a 0 = some (a + 1) := S.2.2.1
theorem eD_r0 {K : Nat → Option ((Nat ⊕ Nat) × Nat)} {R : Nat → Nat → Option Nat} {n s a : Nat} {I : Nat → Nat → Int32} (S : shD K R a) : hm_gr 3 9 0 (hp K R n s I) a = some (a + 1) := hp_gr S.K0 S.R0
theorem shD.g21 {K : Nat → Option ((Nat ⊕ Nat) × Nat)} {R : Nat → Nat → Option Nat} {a : Nat} (S : shD K R a) : gd K R (a + 21) := S.2.2.2.1
theorem shD.R1 {K : Nat → Option ((Nat ⊕ Nat) × Nat)} {R : Nat → Nat → Option Nat} {a : Nat} (S : shD K R a) : R a 1 = some (a + 21) := S.2.2.2.2.1
theorem eD_r1 {K : Nat → Option ((Nat ⊕ Nat) × Nat)} {R : Nat → Nat → Option Nat} {n s a : Nat} {I : Nat → Nat → Int32} (S : shD K R a) : hm_gr 3 9 1 (hp K R n s I) a = some (a + 21) := hp_gr S.K0 S.R1
theorem shD.L38 {K : Nat → Option ((Nat ⊕ Nat) × Nat)} {R : Nat → Nat → Option Nat} {a : Nat} (S : shD K R a) : shL K R (a + 38) := S.2.2.2.2.2.1
theorem shD.R2 {K : Nat → Option ((Nat ⊕ Nat) × Nat)} {R : Nat → Nat → Option Nat} {a : Nat} (S : shD K R a) : R a 2 = some (a + 38) := S.2.2.2.2.2.2.1
theorem eD_r2 {K : Nat → Option ((Nat ⊕ Nat) × Nat)} {R : Nat → Nat → Option Nat} {n s a : Nat} {I : Nat → Nat → Int32} (S : shD K R a) : hm_gr 3 9 2 (hp K R n s I) a = some (a + 38) := hp_gr S.K0 S.R2
theorem shD.L73 {K : Nat → Option ((Nat ⊕ Nat) × Nat)} {R : Nat → Nat → Option Nat} {a : Nat} (S : shD K R a) : shL K R (a + 73) := S.2.2.2.2.2.2.2.1
theorem shD.R3 {K : Nat → Option ((Nat ⊕ Nat) × Nat)} {R : Nat → Nat → Option Nat} {a : Nat} (S : shD K R a) : R a 3 = some (a + 73) := S.2.2.2.2.2.2.2.2.1
theorem eD_r3 {K : Nat → Option ((Nat ⊕ Nat) × Nat)} {R : Nat → Nat → Option Nat} {n s a : Nat} {I : Nat → Nat → Int32} (S : shD K R a) : hm_gr 3 9 3 (hp K R n s I) a = some (a + 73) := hp_gr S.K0 S.R3
theorem shD.C108 {K : Nat → Option ((Nat ⊕ Nat) × Nat)} {R : Nat → Nat → Option Nat} {a : Nat} (S : shD K R a) : shC K R (a + 108) := S.2.2.2.2.2.2.2.2.2.1
theorem shD.R4 {K : Nat → Option ((Nat ⊕ Nat) × Nat)} {R : Nat → Nat → Option Nat} {a : Nat} (S : shD K R a) : R a 4 = some (a + 108) := S.2.2.2.2.2.2.2.2.2.2.1
theorem eD_r4 {K : Nat → Option ((Nat ⊕ Nat) × Nat)} {R : Nat → Nat → Option Nat} {n s a : Nat} {I : Nat → Nat → Int32} (S : shD K R a) : hm_gr 3 9 4 (hp K R n s I) a = some (a + 108) := hp_gr S.K0 S.R4
theorem shD.K147 {K : Nat → Option ((Nat ⊕ Nat) × Nat)} {R : Nat → Nat → Option Nat} {a : Nat} (S : shD K R a) : K (a + 147) = some (.inl 2, 16) := S.2.2.2.2.2.2.2.2.2.2.2.1
theorem shD.R5 {K : Nat → Option ((Nat ⊕ Nat) × Nat)} {R : Nat → Nat → Option Nat} {a : Nat} (S : shD K R a) : R a 5 = some (a + 147) := S.2.2.2.2.2.2.2.2.2.2.2.2
theorem eD_r5 {K : Nat → Option ((Nat ⊕ Nat) × Nat)} {R : Nat → Nat → Option Nat} {n s a : Nat} {I : Nat → Nat → Int32} (S : shD K R a) : hm_gr 3 9 5 (hp K R n s I) a = some (a + 147) := hp_gr S.K0 S.R5
theorem eD_is {K : Nat → Option ((Nat ⊕ Nat) × Nat)} {R : Nat → Nat → Option Nat} {n s a : Nat} {I : Nat → Nat → Int32} (S : shD K R a) : hm_is 3 9 (hp K R n s I) a = some () := hp_is S.K0
theorem eD_gi {K : Nat → Option ((Nat ⊕ Nat) × Nat)} {R : Nat → Nat → Option Nat} {n s a : Nat} {I : Nat → Nat → Int32} {k : Nat} (S : shD K R a) : hm_gi 3 9 k (hp K R n s I) a = some (I a k) := hp_gi S.K0
theorem eD_pi {K : Nat → Option ((Nat ⊕ Nat) × Nat)} {R : Nat → Nat → Option Nat} {n s a : Nat} {I : Nat → Nat → Int32} {k : Nat} {x : Int32} (S : shD K R a) : hm_pi 3 9 k (hp K R n s I) a x = some (hp K R n s (up2 I a k x)) := hp_pi S.K0
theorem eD_p0 {K : Nat → Option ((Nat ⊕ Nat) × Nat)} {R : Nat → Nat → Option Nat} {n s a : Nat} {I : Nat → Nat → Int32} {k : Nat} (S : shD K R a) : hm_pz 3 9 k (hp K R n s I) a (0 : Int32) = some (hp K R n s (up2 I a k 0)) := hp_pz S.K0 (Or.inl rfl)
theorem eD_p1 {K : Nat → Option ((Nat ⊕ Nat) × Nat)} {R : Nat → Nat → Option Nat} {n s a : Nat} {I : Nat → Nat → Int32} {k : Nat} (S : shD K R a) : hm_pz 3 9 k (hp K R n s I) a (1 : Int32) = some (hp K R n s (up2 I a k 1)) := hp_pz S.K0 (Or.inr rfl)
def shR (K : Nat → Option ((Nat ⊕ Nat) × Nat)) (R : Nat → Nat → Option Nat) (a : Nat) : Prop := K (a) = some (.inr 4, 25) ∧ K (a + 1) = some (.inl 0, 256) ∧ R a 2 = some (a + 1) ∧ K (a + 2) = some (.inl 0, 16) ∧ R a 3 = some (a + 2) ∧ K (a + 3) = some (.inl 2, 16) ∧ R a 4 = some (a + 3) ∧ K (a + 4) = some (.inl 0, 256) ∧ R a 6 = some (a + 4) ∧ K (a + 5) = some (.inl 0, 512) ∧ R a 7 = some (a + 5) ∧ K (a + 6) = some (.inl 0, 512) ∧ R a 8 = some (a + 6) ∧ K (a + 7) = some (.inl 0, 512) ∧ R a 9 = some (a + 7) ∧ K (a + 8) = some (.inl 2, 16) ∧ R a 11 = some (a + 8) ∧ K (a + 9) = some (.inl 0, 256) ∧ R a 12 = some (a + 9) ∧ K (a + 10) = some (.inl 0, 256) ∧ R a 13 = some (a + 10) ∧ K (a + 11) = some (.inl 0, 256) ∧ R a 14 = some (a + 11) ∧ K (a + 12) = some (.inl 0, 256) ∧ R a 15 = some (a + 12) ∧ K (a + 13) = some (.inl 0, 4096) ∧ R a 17 = some (a + 13) ∧ K (a + 14) = some (.inl 0, 4096) ∧ R a 18 = some (a + 14) ∧ K (a + 15) = some (.inl 0, 4096) ∧ R a 19 = some (a + 15) ∧ K (a + 16) = some (.inl 0, 4096) ∧ R a 20 = some (a + 16) ∧ K (a + 17) = some (.inl 0, 256) ∧ R a 21 = some (a + 17) ∧ K (a + 18) = some (.inl 0, 256) ∧ R a 22 = some (a + 18)
theorem shR.K0 {K : Nat → Option ((Nat ⊕ Nat) × Nat)} {R : Nat → Nat → Option Nat} {a : Nat} (S : shR K R a) : K (a) = some (.inr 4, 25) := S.1
theorem shR.K1 {K : Nat → Option ((Nat ⊕ Nat) × Nat)} {R : Nat → Nat → Option Nat} {a : Nat} (S : shR K R a) : K (a + 1) = some (.inl 0, 256) := S.2.1
theorem shR.R2 {K : Nat → Option ((Nat ⊕ Nat) × Nat)} {R : Nat → Nat → Option Nat} {a : Nat} (S : shR K R a) : R a 2 = some (a + 1) := S.2.2.1
theorem eR_r2 {K : Nat → Option ((Nat ⊕ Nat) × Nat)} {R : Nat → Nat → Option Nat} {n s a : Nat} {I : Nat → Nat → Int32} (S : shR K R a) : hm_gr 4 25 2 (hp K R n s I) a = some (a + 1) := hp_gr S.K0 S.R2
theorem shR.K2 {K : Nat → Option ((Nat ⊕ Nat) × Nat)} {R : Nat → Nat → Option Nat} {a : Nat} (S : shR K R a) : K (a + 2) = some (.inl 0, 16) := S.2.2.2.1
theorem shR.R3 {K : Nat → Option ((Nat ⊕ Nat) × Nat)} {R : Nat → Nat → Option Nat} {a : Nat} (S : shR K R a) : R a 3 = some (a + 2) := S.2.2.2.2.1
theorem eR_r3 {K : Nat → Option ((Nat ⊕ Nat) × Nat)} {R : Nat → Nat → Option Nat} {n s a : Nat} {I : Nat → Nat → Int32} (S : shR K R a) : hm_gr 4 25 3 (hp K R n s I) a = some (a + 2) := hp_gr S.K0 S.R3
theorem shR.K3 {K : Nat → Option ((Nat ⊕ Nat) × Nat)} {R : Nat → Nat → Option Nat} {a : Nat} (S : shR K R a) : K (a + 3) = some (.inl 2, 16) := S.2.2.2.2.2.1
theorem shR.R4 {K : Nat → Option ((Nat ⊕ Nat) × Nat)} {R : Nat → Nat → Option Nat} {a : Nat} (S : shR K R a) : R a 4 = some (a + 3) := S.2.2.2.2.2.2.1
theorem eR_r4 {K : Nat → Option ((Nat ⊕ Nat) × Nat)} {R : Nat → Nat → Option Nat} {n s a : Nat} {I : Nat → Nat → Int32} (S : shR K R a) : hm_gr 4 25 4 (hp K R n s I) a = some (a + 3) := hp_gr S.K0 S.R4
theorem shR.K4 {K : Nat → Option ((Nat ⊕ Nat) × Nat)} {R : Nat → Nat → Option Nat} {a : Nat} (S : shR K R a) : K (a + 4) = some (.inl 0, 256) := S.2.2.2.2.2.2.2.1
theorem shR.R6 {K : Nat → Option ((Nat ⊕ Nat) × Nat)} {R : Nat → Nat → Option Nat} {a : Nat} (S : shR K R a) : R a 6 = some (a + 4) := S.2.2.2.2.2.2.2.2.1
theorem eR_r6 {K : Nat → Option ((Nat ⊕ Nat) × Nat)} {R : Nat → Nat → Option Nat} {n s a : Nat} {I : Nat → Nat → Int32} (S : shR K R a) : hm_gr 4 25 6 (hp K R n s I) a = some (a + 4) := hp_gr S.K0 S.R6
theorem shR.K5 {K : Nat → Option ((Nat ⊕ Nat) × Nat)} {R : Nat → Nat → Option Nat} {a : Nat} (S : shR K R a) : K (a + 5) = some (.inl 0, 512) := S.2.2.2.2.2.2.2.2.2.1
theorem shR.R7 {K : Nat → Option ((Nat ⊕ Nat) × Nat)} {R : Nat → Nat → Option Nat} {a : Nat} (S : shR K R a) : R a 7 = some (a + 5) := S.2.2.2.2.2.2.2.2.2.2.1
theorem eR_r7 {K : Nat → Option ((Nat ⊕ Nat) × Nat)} {R : Nat → Nat → Option Nat} {n s a : Nat} {I : Nat → Nat → Int32} (S : shR K R a) : hm_gr 4 25 7 (hp K R n s I) a = some (a + 5) := hp_gr S.K0 S.R7
theorem shR.K6 {K : Nat → Option ((Nat ⊕ Nat) × Nat)} {R : Nat → Nat → Option Nat} {a : Nat} (S : shR K R a) : K (a + 6) = some (.inl 0, 512) := S.2.2.2.2.2.2.2.2.2.2.2.1
theorem shR.R8 {K : Nat → Option ((Nat ⊕ Nat) × Nat)} {R : Nat → Nat → Option Nat} {a : Nat} (S : shR K R a) : R a 8 = some (a + 6) := S.2.2.2.2.2.2.2.2.2.2.2.2.1
theorem eR_r8 {K : Nat → Option ((Nat ⊕ Nat) × Nat)} {R : Nat → Nat → Option Nat} {n s a : Nat} {I : Nat → Nat → Int32} (S : shR K R a) : hm_gr 4 25 8 (hp K R n s I) a = some (a + 6) := hp_gr S.K0 S.R8
theorem shR.K7 {K : Nat → Option ((Nat ⊕ Nat) × Nat)} {R : Nat → Nat → Option Nat} {a : Nat} (S : shR K R a) : K (a + 7) = some (.inl 0, 512) := S.2.2.2.2.2.2.2.2.2.2.2.2.2.1
theorem shR.R9 {K : Nat → Option ((Nat ⊕ Nat) × Nat)} {R : Nat → Nat → Option Nat} {a : Nat} (S : shR K R a) : R a 9 = some (a + 7) := S.2.2.2.2.2.2.2.2.2.2.2.2.2.2.1
theorem eR_r9 {K : Nat → Option ((Nat ⊕ Nat) × Nat)} {R : Nat → Nat → Option Nat} {n s a : Nat} {I : Nat → Nat → Int32} (S : shR K R a) : hm_gr 4 25 9 (hp K R n s I) a = some (a + 7) := hp_gr S.K0 S.R9
theorem shR.K8 {K : Nat → Option ((Nat ⊕ Nat) × Nat)} {R : Nat → Nat → Option Nat} {a : Nat} (S : shR K R a) : K (a + 8) = some (.inl 2, 16) := S.2.2.2.2.2.2.2.2.2.2.2.2.2.2.2.1
theorem shR.R11 {K : Nat → Option ((Nat ⊕ Nat) × Nat)} {R : Nat → Nat → Option Nat} {a : Nat} (S : shR K R a) : R a 11 = some (a + 8) := S.2.2.2.2.2.2.2.2.2.2.2.2.2.2.2.2.1
theorem eR_r11 {K : Nat → Option ((Nat ⊕ Nat) × Nat)} {R : Nat → Nat → Option Nat} {n s a : Nat} {I : Nat → Nat → Int32} (S : shR K R a) : hm_gr 4 25 11 (hp K R n s I) a = some (a + 8) := hp_gr S.K0 S.R11
theorem shR.K9 {K : Nat → Option ((Nat ⊕ Nat) × Nat)} {R : Nat → Nat → Option Nat} {a : Nat} (S : shR K R a) : K (a + 9) = some (.inl 0, 256) := S.2.2.2.2.2.2.2.2.2.2.2.2.2.2.2.2.2.1
theorem shR.R12 {K : Nat → Option ((Nat ⊕ Nat) × Nat)} {R : Nat → Nat → Option Nat} {a : Nat} (S : shR K R a) : R a 12 = some (a + 9) := S.2.2.2.2.2.2.2.2.2.2.2.2.2.2.2.2.2.2.1
theorem eR_r12 {K : Nat → Option ((Nat ⊕ Nat) × Nat)} {R : Nat → Nat → Option Nat} {n s a : Nat} {I : Nat → Nat → Int32} (S : shR K R a) : hm_gr 4 25 12 (hp K R n s I) a = some (a + 9) := hp_gr S.K0 S.R12
theorem shR.K10 {K : Nat → Option ((Nat ⊕ Nat) × Nat)} {R : Nat → Nat → Option Nat} {a : Nat} (S : shR K R a) : K (a + 10) = some (.inl 0, 256) := S.2.2.2.2.2.2.2.2.2.2.2.2.2.2.2.2.2.2.2.1
theorem shR.R13 {K : Nat → Option ((Nat ⊕ Nat) × Nat)} {R : Nat → Nat → Option Nat} {a : Nat} (S : shR K R a) : R a 13 = some (a + 10) := S.2.2.2.2.2.2.2.2.2.2.2.2.2.2.2.2.2.2.2.2.1
theorem eR_r13 {K : Nat → Option ((Nat ⊕ Nat) × Nat)} {R : Nat → Nat → Option Nat} {n s a : Nat} {I : Nat → Nat → Int32} (S : shR K R a) : hm_gr 4 25 13 (hp K R n s I) a = some (a + 10) := hp_gr S.K0 S.R13
theorem shR.K11 {K : Nat → Option ((Nat ⊕ Nat) × Nat)} {R : Nat → Nat → Option Nat} {a : Nat} (S : shR K R a) : K (a + 11) = some (.inl 0, 256) := S.2.2.2.2.2.2.2.2.2.2.2.2.2.2.2.2.2.2.2.2.2.1
theorem shR.R14 {K : Nat → Option ((Nat ⊕ Nat) × Nat)} {R : Nat → Nat → Option Nat} {a : Nat} (S : shR K R a) : R a 14 = some (a + 11) := S.2.2.2.2.2.2.2.2.2.2.2.2.2.2.2.2.2.2.2.2.2.2.1
theorem eR_r14 {K : Nat → Option ((Nat ⊕ Nat) × Nat)} {R : Nat → Nat → Option Nat} {n s a : Nat} {I : Nat → Nat → Int32} (S : shR K R a) : hm_gr 4 25 14 (hp K R n s I) a = some (a + 11) := hp_gr S.K0 S.R14
theorem shR.K12 {K : Nat → Option ((Nat ⊕ Nat) × Nat)} {R : Nat → Nat → Option Nat} {a : Nat} (S : shR K R a) : K (a + 12) = some (.inl 0, 256) := S.2.2.2.2.2.2.2.2.2.2.2.2.2.2.2.2.2.2.2.2.2.2.2.1
theorem shR.R15 {K : Nat → Option ((Nat ⊕ Nat) × Nat)} {R : Nat → Nat → Option Nat} {a : Nat} (S : shR K R a) : R a 15 = some (a + 12) := S.2.2.2.2.2.2.2.2.2.2.2.2.2.2.2.2.2.2.2.2.2.2.2.2.1
theorem eR_r15 {K : Nat → Option ((Nat ⊕ Nat) × Nat)} {R : Nat → Nat → Option Nat} {n s a : Nat} {I : Nat → Nat → Int32} (S : shR K R a) : hm_gr 4 25 15 (hp K R n s I) a = some (a + 12) := hp_gr S.K0 S.R15
theorem shR.K13 {K : Nat → Option ((Nat ⊕ Nat) × Nat)} {R : Nat → Nat → Option Nat} {a : Nat} (S : shR K R a) : K (a + 13) = some (.inl 0, 4096) := S.2.2.2.2.2.2.2.2.2.2.2.2.2.2.2.2.2.2.2.2.2.2.2.2.2.1
theorem shR.R17 {K : Nat → Option ((Nat ⊕ Nat) × Nat)} {R : Nat → Nat → Option Nat} {a : Nat} (S : shR K R a) : R a 17 = some (a + 13) := S.2.2.2.2.2.2.2.2.2.2.2.2.2.2.2.2.2.2.2.2.2.2.2.2.2.2.1
theorem eR_r17 {K : Nat → Option ((Nat ⊕ Nat) × Nat)} {R : Nat → Nat → Option Nat} {n s a : Nat} {I : Nat → Nat → Int32} (S : shR K R a) : hm_gr 4 25 17 (hp K R n s I) a = some (a + 13) := hp_gr S.K0 S.R17
theorem shR.K14 {K : Nat → Option ((Nat ⊕ Nat) × Nat)} {R : Nat → Nat → Option Nat} {a : Nat} (S : shR K R a) : K (a + 14) = some (.inl 0, 4096) := S.2.2.2.2.2.2.2.2.2.2.2.2.2.2.2.2.2.2.2.2.2.2.2.2.2.2.2.1
theorem shR.R18 {K : Nat → Option ((Nat ⊕ Nat) × Nat)} {R : Nat → Nat → Option Nat} {a : Nat} (S : shR K R a) : R a 18 = some (a + 14) := S.2.2.2.2.2.2.2.2.2.2.2.2.2.2.2.2.2.2.2.2.2.2.2.2.2.2.2.2.1
theorem eR_r18 {K : Nat → Option ((Nat ⊕ Nat) × Nat)} {R : Nat → Nat → Option Nat} {n s a : Nat} {I : Nat → Nat → Int32} (S : shR K R a) : hm_gr 4 25 18 (hp K R n s I) a = some (a + 14) := hp_gr S.K0 S.R18
theorem shR.K15 {K : Nat → Option ((Nat ⊕ Nat) × Nat)} {R : Nat → Nat → Option Nat} {a : Nat} (S : shR K R a) : K (a + 15) = some (.inl 0, 4096) := S.2.2.2.2.2.2.2.2.2.2.2.2.2.2.2.2.2.2.2.2.2.2.2.2.2.2.2.2.2.1
theorem shR.R19 {K : Nat → Option ((Nat ⊕ Nat) × Nat)} {R : Nat → Nat → Option Nat} {a : Nat} (S : shR K R a) : R a 19 = some (a + 15) := S.2.2.2.2.2.2.2.2.2.2.2.2.2.2.2.2.2.2.2.2.2.2.2.2.2.2.2.2.2.2.1
theorem eR_r19 {K : Nat → Option ((Nat ⊕ Nat) × Nat)} {R : Nat → Nat → Option Nat} {n s a : Nat} {I : Nat → Nat → Int32} (S : shR K R a) : hm_gr 4 25 19 (hp K R n s I) a = some (a + 15) := hp_gr S.K0 S.R19
theorem shR.K16 {K : Nat → Option ((Nat ⊕ Nat) × Nat)} {R : Nat → Nat → Option Nat} {a : Nat} (S : shR K R a) : K (a + 16) = some (.inl 0, 4096) := S.2.2.2.2.2.2.2.2.2.2.2.2.2.2.2.2.2.2.2.2.2.2.2.2.2.2.2.2.2.2.2.1
theorem shR.R20 {K : Nat → Option ((Nat ⊕ Nat) × Nat)} {R : Nat → Nat → Option Nat} {a : Nat} (S : shR K R a) : R a 20 = some (a + 16) := S.2.2.2.2.2.2.2.2.2.2.2.2.2.2.2.2.2.2.2.2.2.2.2.2.2.2.2.2.2.2.2.2.1
theorem eR_r20 {K : Nat → Option ((Nat ⊕ Nat) × Nat)} {R : Nat → Nat → Option Nat} {n s a : Nat} {I : Nat → Nat → Int32} (S : shR K R a) : hm_gr 4 25 20 (hp K R n s I) a = some (a + 16) := hp_gr S.K0 S.R20
theorem shR.K17 {K : Nat → Option ((Nat ⊕ Nat) × Nat)} {R : Nat → Nat → Option Nat} {a : Nat} (S : shR K R a) : K (a + 17) = some (.inl 0, 256) := S.2.2.2.2.2.2.2.2.2.2.2.2.2.2.2.2.2.2.2.2.2.2.2.2.2.2.2.2.2.2.2.2.2.1
theorem shR.R21 {K : Nat → Option ((Nat ⊕ Nat) × Nat)} {R : Nat → Nat → Option Nat} {a : Nat} (S : shR K R a) : R a 21 = some (a + 17) := S.2.2.2.2.2.2.2.2.2.2.2.2.2.2.2.2.2.2.2.2.2.2.2.2.2.2.2.2.2.2.2.2.2.2.1
theorem eR_r21 {K : Nat → Option ((Nat ⊕ Nat) × Nat)} {R : Nat → Nat → Option Nat} {n s a : Nat} {I : Nat → Nat → Int32} (S : shR K R a) : hm_gr 4 25 21 (hp K R n s I) a = some (a + 17) := hp_gr S.K0 S.R21
theorem shR.K18 {K : Nat → Option ((Nat ⊕ Nat) × Nat)} {R : Nat → Nat → Option Nat} {a : Nat} (S : shR K R a) : K (a + 18) = some (.inl 0, 256) := S.2.2.2.2.2.2.2.2.2.2.2.2.2.2.2.2.2.2.2.2.2.2.2.2.2.2.2.2.2.2.2.2.2.2.2.1
theorem shR.R22 {K : Nat → Option ((Nat ⊕ Nat) × Nat)} {R : Nat → Nat → Option Nat} {a : Nat} (S : shR K R a) : R a 22 = some (a + 18) := S.2.2.2.2.2.2.2.2.2.2.2.2.2.2.2.2.2.2.2.2.2.2.2.2.2.2.2.2.2.2.2.2.2.2.2.2
theorem eR_r22 {K : Nat → Option ((Nat ⊕ Nat) × Nat)} {R : Nat → Nat → Option Nat} {n s a : Nat} {I : Nat → Nat → Int32} (S : shR K R a) : hm_gr 4 25 22 (hp K R n s I) a = some (a + 18) := hp_gr S.K0 S.R22
theorem eR_is {K : Nat → Option ((Nat ⊕ Nat) × Nat)} {R : Nat → Nat → Option Nat} {n s a : Nat} {I : Nat → Nat → Int32} (S : shR K R a) : hm_is 4 25 (hp K R n s I) a = some () := hp_is S.K0
theorem eR_gi {K : Nat → Option ((Nat ⊕ Nat) × Nat)} {R : Nat → Nat → Option Nat} {n s a : Nat} {I : Nat → Nat → Int32} {k : Nat} (S : shR K R a) : hm_gi 4 25 k (hp K R n s I) a = some (I a k) := hp_gi S.K0
theorem eR_pi {K : Nat → Option ((Nat ⊕ Nat) × Nat)} {R : Nat → Nat → Option Nat} {n s a : Nat} {I : Nat → Nat → Int32} {k : Nat} {x : Int32} (S : shR K R a) : hm_pi 4 25 k (hp K R n s I) a x = some (hp K R n s (up2 I a k x)) := hp_pi S.K0
theorem eR_p0 {K : Nat → Option ((Nat ⊕ Nat) × Nat)} {R : Nat → Nat → Option Nat} {n s a : Nat} {I : Nat → Nat → Int32} {k : Nat} (S : shR K R a) : hm_pz 4 25 k (hp K R n s I) a (0 : Int32) = some (hp K R n s (up2 I a k 0)) := hp_pz S.K0 (Or.inl rfl)
theorem eR_p1 {K : Nat → Option ((Nat ⊕ Nat) × Nat)} {R : Nat → Nat → Option Nat} {n s a : Nat} {I : Nat → Nat → Int32} {k : Nat} (S : shR K R a) : hm_pz 4 25 k (hp K R n s I) a (1 : Int32) = some (hp K R n s (up2 I a k 1)) := hp_pz S.K0 (Or.inr rfl)
