/-! AT THE BEGINNING -/
section BG
variable {K K' : Nat → Option ((Nat ⊕ Nat) × Nat)} {R R' : Nat → Nat → Option Nat} {n s F o N : Nat} {I : Nat → Nat → Int32}
theorem gd.mv {g : Nat} (h : ∀ a, a < N → K' a = K a ∧ R' a = R a) (hg : g + 17 ≤ N) (S : gd K R g) : gd K' R' g :=
  ⟨by rw [(h g (by omega)).1]; exact S.1, fun i hi => by rw [(h g (by omega)).2]; exact S.2.1 i hi, fun i hi => by rw [(h _ (by omega)).1]; exact S.2.2 i hi⟩
theorem shN.mv {a : Nat} (h : ∀ a, a < N → K' a = K a ∧ R' a = R a) (hg : a + 20 ≤ N) (S : shN K R a) : shN K' R' a :=
  ⟨by rw [(h _ (by omega)).1]; exact S.K0, S.g1.mv h (by omega), by rw [(h _ (by omega)).2]; exact S.R2, by rw [(h _ (by omega)).1]; exact S.K18, by rw [(h _ (by omega)).2]; exact S.R3, by rw [(h _ (by omega)).1]; exact S.K19, by rw [(h _ (by omega)).2]; exact S.R4⟩
theorem shL.mv {a : Nat} (h : ∀ a, a < N → K' a = K a ∧ R' a = R a) (hg : a + 35 ≤ N) (S : shL K R a) : shL K' R' a :=
  ⟨by rw [(h _ (by omega)).1]; exact S.1, S.2.1.mv h (by omega), by rw [(h _ (by omega)).2]; exact S.2.2.1, S.2.2.2.1.mv h (by omega), by rw [(h _ (by omega)).2]; exact S.2.2.2.2⟩
theorem shC.mv {a : Nat} (h : ∀ a, a < N → K' a = K a ∧ R' a = R a) (hg : a + 39 ≤ N) (S : shC K R a) : shC K' R' a := by
  obtain ⟨s1, s2, s3, s4, s5, s6, s7, s8, s9, s10, s11, s12, s13⟩ := S
  exact ⟨by rw [(h _ (by omega)).1]; exact s1, s2.mv h (by omega), by rw [(h _ (by omega)).2]; exact s3, s4.mv h (by omega), by rw [(h _ (by omega)).2]; exact s5, by rw [(h _ (by omega)).1]; exact s6, by rw [(h _ (by omega)).2]; exact s7, by rw [(h _ (by omega)).1]; exact s8, by rw [(h _ (by omega)).2]; exact s9, by rw [(h _ (by omega)).1]; exact s10, by rw [(h _ (by omega)).2]; exact s11, by rw [(h _ (by omega)).1]; exact s12, by rw [(h _ (by omega)).2]; exact s13⟩
theorem shD.mv (h : ∀ a, a < o + 148 → K' a = K a ∧ R' a = R a) (S : shD K R o) : shD K' R' o := by
  obtain ⟨s1, s2, s3, s4, s5, s6, s7, s8, s9, s10, s11, s12, s13⟩ := S
  exact ⟨by rw [(h _ (by omega)).1]; exact s1, s2.mv h (by omega), by rw [(h _ (by omega)).2]; exact s3, s4.mv h (by omega), by rw [(h _ (by omega)).2]; exact s5, s6.mv h (by omega), by rw [(h _ (by omega)).2]; exact s7, s8.mv h (by omega), by rw [(h _ (by omega)).2]; exact s9, s10.mv h (by omega), by rw [(h _ (by omega)).2]; exact s11, by rw [(h _ (by omega)).1]; exact s12, by rw [(h _ (by omega)).2]; exact s13⟩
/-- nothing is there -/
def nN (_ _ : Nat) : Option Nat := none
def gBg : SG := (0, nN, fun i => i, fun i => i, fun _ => false, nN, nN, nN, nN, 0, false)
theorem nS_N (k : Nat) : nS 16 nN nN k = none := by
  unfold nS
  split
  · split <;> rfl
  · rfl
theorem ac_N : ac nN = 0 := by
  show sm (fun c => cnt (nN (c / 16) (c % 16))) 256 = 0
  rw [show (fun c => cnt (nN (c / 16) (c % 16))) = fun _ => 0 from rfl, sm_0]
/-- both are made -/
theorem begun (hF : 5000 ≤ F) (o : Nat) : ∃ (K2 K4 : Nat → Option ((Nat ⊕ Nat) × Nat)) (R2 R4 : Nat → Nat → Option Nat) (I1 I2 I3 I4 : Nat → Nat → Int32) (K1 K3 : Nat → Option ((Nat ⊕ Nat) × Nat)) (R1 R3 : Nat → Nat → Option Nat),
    hm_new 3 9 (hp K R o 0 I) = some (o, hp K1 R1 (o + 1) 9 I1) ∧ f_D_init F o (hp K1 R1 (o + 1) 9 I1) = some (hp K2 R2 (o + 148) 4521 I2) ∧ hm_new 4 25 (hp K2 R2 (o + 148) 4521 I2) = some (o + 148, hp K3 R3 (o + 149) 4546 I3) ∧ f_R_init F (o + 148) (hp K3 R3 (o + 149) 4546 I3) = some (hp K4 R4 (o + 167) 24562 I4) ∧ shD K4 R4 o ∧ shR K4 R4 (o + 148) ∧ Sim o I4 gBg := by
  obtain ⟨K1, R1, I1, e1, u1, v1, w1⟩ := no_ok (K := K) (R := R) (I := I) (n := o) (s := 0) 3 9
  obtain ⟨K2, R2, I2, e2, kd, rd, d1, d2, d3, d4, d5, d6, d7, d8, d9, d10, d11, d12, d13, d14, d15, d16, d17, d18, d19, d20, d21, d22, d23, d24, d25, d26, d27, d28, d29, d30, d31, d32, d33, d34, d35, d36, d37, d38, d39, d40, d41, d42, d43, d44, d45, d46, d47, d48, d49, d50, d51, d52, d53, d54, d55, d56, d57, d58, d59, d60⟩ := D_ok (K := K1) (R := R1) (n := o + 1) (s := 9) (F := F) (x := o) (I := I1) (by omega) (by omega) v1
  have SD2 : shD K2 R2 o := ⟨d1, ⟨d2, d5, d7, d8, d10, d11, d13⟩, d14, d15, d17, ⟨d18, d19, d21, d22, d24⟩, d25, ⟨d26, d27, d29, d30, d32⟩, d33, ⟨d34, d35, d37, d38, d40, d41, d43, d44, d46, d48, d50, d51, d53⟩, d54, d55, d57⟩
  obtain ⟨K3, R3, I3, e3, u3, v3, w3⟩ := no_ok (K := K2) (R := R2) (I := I2) (n := o + 148) (s := 4521) 4 25
  obtain ⟨K4, R4, I4, e4, kr, rr, r1, r2, r3, r4, r5, r6, r7, r8, r9, r10, r11, r12, r13, r14, r15, r16, r17, r18, r19, r20, r21, r22, r23, r24, r25, r26, r27, r28, r29, r30, r31, r32, r33, r34, r35, r36, r37, r38, r39, r40, r41, r42, r43, r44, r45, r46, r47, r48, r49, r50, r51, r52, r53, r54, r55, r56, r57⟩ := R_ok (K := K3) (R := R3) (n := o + 149) (s := 4546) (F := F) (x := o + 148) (I := I3) (by omega) (by omega) v3 (w3 1) (w3 5)
  have hKR : ∀ a, a < o + 148 → K4 a = K2 a ∧ R4 a = R2 a := fun a ha => ⟨(kr a (by omega)).trans (u3 a ha).1, ((rr a (by omega) (by omega)).1).trans (u3 a ha).2.1⟩
  have hI : ∀ a, a < o + 148 → I4 a = I2 a := fun a ha => ((rr a (by omega) (by omega)).2).trans (u3 a ha).2.2
  refine ⟨K2, K4, R2, R4, I1, I2, I3, I4, K1, K3, R1, R3, e1, e2, e3, e4, SD2.mv hKR, ?_, ?_⟩
  · exact ⟨r1, r4, r5, r6, r8, r9, r11, r12, r14, r15, r17, r18, r20, r21, r23, r24, r26, r27, r29, r30, r32, r33, r35, r36, r38, r39, r41, r42, r44, r45, r47, r48, r50, r51, r53, r54, r56⟩
  · refine ⟨⟨⟨by show 0 ≤ 16; omega, fun i hi => absurd hi (Nat.not_lt_zero i), fun i hi => absurd hi (Nat.not_lt_zero i)⟩, fun x y _ _ d hd => (by cases hd), ⟨fun v _ hv => (by cases hv), Nat.zero_le _⟩, fun x y _ _ => ⟨(fun d hd => by cases hd), (fun d hd => by cases hd), fun _ => ⟨rfl, rfl⟩⟩, fun z => (by cases z)⟩, ⟨⟨?_, fun i hi => absurd hi (Nat.not_lt_zero i), fun i hi => absurd hi (Nat.not_lt_zero i), fun x y hx hy => ?_, ?_⟩, ⟨fun v hv => ?_, ?_⟩, fun x y hx hy => ⟨?_, ?_⟩, ?_, fun z => (by cases z)⟩, ⟨⟨?_, fun x y hx hy => ?_, fun i hi => absurd hi (Nat.not_lt_zero i)⟩, fun v hv => ?_, fun k hk => ?_, ?_, fun z => (by cases z)⟩⟩
    · rw [hI _ (by omega)]; exact d3
    · rw [hI _ (by omega)]; exact d6 x y hx hy
    · rw [hI _ (by omega)]
      show I2 (o + 1) 1 = nI (ac nN)
      rw [ac_N]; exact d4
    · rw [hI _ (by omega)]; exact d56 v
    · rw [hI _ (by omega)]; exact d58
    · rw [hI _ (by omega), show o + 38 + 1 + 1 + x = o + 1 + 38 + 1 + x by omega]; exact d20 x y hx hy
    · rw [hI _ (by omega), show o + 73 + 1 + 1 + x = o + 1 + 73 + 1 + x by omega]; exact d28 x y hx hy
    · rw [hI _ (by omega)]; exact d59
    · exact r2
    · exact r57.2 (16 * x + y) (by omega)
    · exact r10 v
    · show I4 (o + 148 + 5) k = enS (nS 16 nN nN k)
      rw [nS_N]; exact r16 k
    · exact r3
end BG
