/-! THE LAW'S LOOP -/
theorem n_2 : (2 : Int32) = nI 2 := by decide +kernel
theorem n_3 : (3 : Int32) = nI 3 := by decide +kernel
theorem n_5 : (5 : Int32) = nI 5 := by decide +kernel
theorem nI_a2 (i : Nat) : nI i + (2 : Int32) = nI (i + 2) := by rw [n_2, nI_add]
theorem nI_a3 (i : Nat) : nI i + (3 : Int32) = nI (i + 3) := by rw [n_3, nI_add]
theorem nI_a4 (i : Nat) : nI i + (4 : Int32) = nI (i + 4) := by rw [n_4, nI_add]
theorem nI_a5 (i : Nat) : nI i + (5 : Int32) = nI (i + 5) := by rw [n_5, nI_add]
theorem xld_at {L : Nat} {xs : Nat → Int32} {j : Nat} (hj : j < L) (hL : L < 2 ^ 31) : hm_xld L xs (nI j) = some (xs j) := by
  unfold hm_xld
  rw [if_neg (hp_in hj hL), nI_clamp (by omega)]
theorem law_stop {L i : Nat} (hL : L ≤ 2560) (hi : i ≤ 2560) (h : ¬ (Int32.ofNat L - (5 : Int32)) < nI i) : i + 5 ≤ L := by
  have e : Int32.ofNat L = nI L := rfl
  rw [e] at h
  by_cases h5 : 5 ≤ L
  · obtain ⟨k, rfl⟩ : ∃ k, L = k + 5 := ⟨L - 5, by omega⟩
    rw [← nI_a5, Int32.add_sub_cancel, nI_ltI (by omega) (by omega)] at h
    omega
  · exfalso
    refine h (Int32.lt_of_lt_of_le ?_ (Int32.not_lt.mp (nI_pos (show i < 2 ^ 31 by omega))))
    have : L = 0 ∨ L = 1 ∨ L = 2 ∨ L = 3 ∨ L = 4 := by omega
    rcases this with z | z | z | z | z <;> rw [z] <;> decide +kernel
section LP
variable {K : Nat → Option ((Nat ⊕ Nat) × Nat)} {R : Nat → Nat → Option Nat} {n s F o L : Nat} {xs : Nat → Int32}
theorem law_loop (hF : 5000 ≤ F) (hL : L ≤ 2560) (SD : shD K R o) (SR : shR K R (o + 148)) : ∀ (N i : Nat), i ≤ L → L < 5 * N + i → ∀ (I : Nat → Nat → Int32) (g : SG), Sim o I g → ∃ I', f_W_law_18 F L xs N o (o + 148) (nI i) (hp K R n s I) = some ((1 : Int32), hp K R n s I') := by
  intro N
  induction N with
  | zero => intro i h1 h2; omega
  | succ N ih =>
    intro i h1 h2 I g hs
    show ∃ I', g_W_law_18 F L xs (f_W_law_18 F L xs N) o (o + 148) (nI i) (hp K R n s I) = some ((1 : Int32), hp K R n s I')
    unfold g_W_law_18
    by_cases st : (Int32.ofNat L - (5 : Int32)) < nI i
    · exact ⟨I, if_pos st⟩
    rw [if_neg st]
    have h5 := law_stop hL (by omega) st
    have x0 : hm_xld L xs (nI i) = some (xs i) := xld_at (by omega) (by omega)
    have x1 : hm_xld L xs (nI (i + 1)) = some (xs (i + 1)) := xld_at (by omega) (by omega)
    have x2 : hm_xld L xs (nI (i + 2)) = some (xs (i + 2)) := xld_at (by omega) (by omega)
    have x3 : hm_xld L xs (nI (i + 3)) = some (xs (i + 3)) := xld_at (by omega) (by omega)
    have x4 : hm_xld L xs (nI (i + 4)) = some (xs (i + 4)) := xld_at (by omega) (by omega)
    rw [x0, Option.bind_some]
    have nx : ∀ (I2 : Nat → Nat → Int32) (g2 : SG), Sim o I2 g2 → ∃ I', f_W_law_727 F L xs (f_W_law_18 F L xs N) o (o + 148) (nI i) (hp K R n s I2) = some ((1 : Int32), hp K R n s I') := fun I2 g2 h => by
      unfold f_W_law_727
      rw [nI_a5]
      exact ih (i + 5) h5 (by omega) I2 g2 h
    clear ih
    by_cases c0 : (xs i &&& (31 : Int32)) = (0 : Int32)
    · obtain ⟨r, g2, I1, I2, e1, e2, s2⟩ := call_node (K := K) (R := R) (n := n) (s := s) (F := F)  hF SD SR g hs
      obtain ⟨I', e3⟩ := nx I2 g2 s2
      refine ⟨I', ?_⟩
      rw [if_pos c0]
      simp only [nI_1, nI_a2, nI_a3, nI_a4, x1, x2, x3, x4, Option.bind_some, eD_is SD, e1, hm_and_some, eR_is SR, e2, if_true]
      exact e3
    rw [if_neg c0]
    by_cases c1 : (xs i &&& (31 : Int32)) = (1 : Int32)
    · obtain ⟨r, g2, I1, I2, e1, e2, s2⟩ := call_arc (K := K) (R := R) (n := n) (s := s) (F := F) (x1 := xs (i + 1)) (x2 := xs (i + 2)) (x3 := xs (i + 3)) SD SR g hs
      obtain ⟨I', e3⟩ := nx I2 g2 s2
      refine ⟨I', ?_⟩
      rw [if_pos c1]
      simp only [nI_1, nI_a2, nI_a3, nI_a4, x1, x2, x3, x4, Option.bind_some, eD_is SD, e1, hm_and_some, eR_is SR, e2, if_true]
      exact e3
    rw [if_neg c1]
    by_cases c2 : (xs i &&& (31 : Int32)) = (2 : Int32)
    · obtain ⟨r, g2, I1, I2, e1, e2, s2⟩ := call_lose (K := K) (R := R) (n := n) (s := s) (F := F) (x1 := xs (i + 1)) (x2 := xs (i + 2)) SD SR g hs
      obtain ⟨I', e3⟩ := nx I2 g2 s2
      refine ⟨I', ?_⟩
      rw [if_pos c2]
      simp only [nI_1, nI_a2, nI_a3, nI_a4, x1, x2, x3, x4, Option.bind_some, eD_is SD, e1, hm_and_some, eR_is SR, e2, if_true]
      exact e3
    rw [if_neg c2]
    by_cases c3 : (xs i &&& (31 : Int32)) = (3 : Int32)
    · obtain ⟨r, g2, I1, I2, e1, e2, s2⟩ := call_rank (K := K) (R := R) (n := n) (s := s) (F := F) (x1 := xs (i + 1)) (x2 := xs (i + 2)) hF SD SR g hs
      obtain ⟨I', e3⟩ := nx I2 g2 s2
      refine ⟨I', ?_⟩
      rw [if_pos c3]
      simp only [nI_1, nI_a2, nI_a3, nI_a4, x1, x2, x3, x4, Option.bind_some, eD_is SD, e1, hm_and_some, eR_is SR, e2, if_true]
      exact e3
    rw [if_neg c3]
    by_cases c4 : (xs i &&& (31 : Int32)) = (4 : Int32)
    · obtain ⟨r, g2, I1, I2, e1, e2, s2⟩ := call_ranked (K := K) (R := R) (n := n) (s := s) (F := F) (x1 := xs (i + 1)) SD SR g hs
      obtain ⟨I', e3⟩ := nx I2 g2 s2
      refine ⟨I', ?_⟩
      rw [if_pos c4]
      simp only [nI_1, nI_a2, nI_a3, nI_a4, x1, x2, x3, x4, Option.bind_some, eD_is SD, e1, hm_and_some, eR_is SR, e2, if_true]
      exact e3
    rw [if_neg c4]
    by_cases c5 : (xs i &&& (31 : Int32)) = (5 : Int32)
    · rw [if_pos c5]
      simp only [nI_1, nI_a2, x1, x2, Option.bind_some]
      by_cases z : xs (i + 2) = 0
      · obtain ⟨r, g2, I1, I2, e1, e2, s2⟩ := call_landmark (K := K) (R := R) (n := n) (s := s) (F := F) (x1 := xs (i + 1)) false hF SD SR g hs
        obtain ⟨I', e3⟩ := nx I2 g2 s2
        refine ⟨I', ?_⟩
        rw [bI_f] at e1 e2
        rw [if_pos z]
        unfold f_W_law_288 f_W_law_310
        simp only [eD_is SD, Option.bind_some, e1, hm_and_some, nI_1, nI_a2, x1, x2, if_pos z, eR_is SR, e2, if_true]
        exact e3
      · obtain ⟨r, g2, I1, I2, e1, e2, s2⟩ := call_landmark (K := K) (R := R) (n := n) (s := s) (F := F) (x1 := xs (i + 1)) true hF SD SR g hs
        obtain ⟨I', e3⟩ := nx I2 g2 s2
        refine ⟨I', ?_⟩
        rw [bI_t] at e1 e2
        rw [if_neg z]
        unfold f_W_law_288 f_W_law_310
        simp only [eD_is SD, Option.bind_some, e1, hm_and_some, nI_1, nI_a2, x1, x2, if_neg z, eR_is SR, e2, if_true]
        exact e3
    rw [if_neg c5]
    by_cases c6 : (xs i &&& (31 : Int32)) = (6 : Int32)
    · obtain ⟨r, g2, I1, I2, e1, e2, s2⟩ := call_make (K := K) (R := R) (n := n) (s := s) (F := F)  hF SD SR g hs
      obtain ⟨I', e3⟩ := nx I2 g2 s2
      refine ⟨I', ?_⟩
      rw [if_pos c6]
      simp only [nI_1, nI_a2, nI_a3, nI_a4, x1, x2, x3, x4, Option.bind_some, eD_is SD, e1, hm_and_some, eR_is SR, e2, if_true]
      exact e3
    rw [if_neg c6]
    by_cases c7 : (xs i &&& (31 : Int32)) = (7 : Int32)
    · obtain ⟨r, g2, I1, I2, e1, e2, s2⟩ := call_label (K := K) (R := R) (n := n) (s := s) (F := F) (x1 := xs (i + 1)) (x2 := xs (i + 2)) (x3 := xs (i + 3)) (x4 := xs (i + 4)) hF SD SR g hs
      obtain ⟨I', e3⟩ := nx I2 g2 s2
      refine ⟨I', ?_⟩
      rw [if_pos c7]
      simp only [nI_1, nI_a2, nI_a3, nI_a4, x1, x2, x3, x4, Option.bind_some, eD_is SD, e1, hm_and_some, eR_is SR, e2, if_true]
      exact e3
    rw [if_neg c7]
    by_cases c8 : (xs i &&& (31 : Int32)) = (8 : Int32)
    · obtain ⟨r, g2, I1, I2, e1, e2, s2⟩ := call_ask (K := K) (R := R) (n := n) (s := s) (F := F) (x1 := xs (i + 1)) (x2 := xs (i + 2)) hF SD SR g hs
      obtain ⟨I', e3⟩ := nx I2 g2 s2
      refine ⟨I', ?_⟩
      rw [if_pos c8]
      simp only [nI_1, nI_a2, nI_a3, nI_a4, x1, x2, x3, x4, Option.bind_some, eD_is SD, e1, hm_and_some, eR_is SR, e2, if_true]
      exact e3
    rw [if_neg c8]
    by_cases c9 : (xs i &&& (31 : Int32)) = (9 : Int32)
    · obtain ⟨r, g2, I1, I2, e1, e2, s2⟩ := call_meeting (K := K) (R := R) (n := n) (s := s) (F := F) (x1 := xs (i + 1)) (x2 := xs (i + 2)) hF SD SR g hs
      obtain ⟨I', e3⟩ := nx I2 g2 s2
      refine ⟨I', ?_⟩
      rw [if_pos c9]
      simp only [nI_1, nI_a2, nI_a3, nI_a4, x1, x2, x3, x4, Option.bind_some, eD_is SD, e1, hm_and_some, eR_is SR, e2, if_true]
      exact e3
    rw [if_neg c9]
    by_cases c10 : (xs i &&& (31 : Int32)) = (10 : Int32)
    · obtain ⟨r, g2, I1, I2, e1, e2, s2⟩ := call_redone (K := K) (R := R) (n := n) (s := s) (F := F)  SD SR g hs
      obtain ⟨I', e3⟩ := nx I2 g2 s2
      refine ⟨I', ?_⟩
      rw [if_pos c10]
      simp only [nI_1, nI_a2, nI_a3, nI_a4, x1, x2, x3, x4, Option.bind_some, eD_is SD, e1, hm_and_some, eR_is SR, e2, if_true]
      exact e3
    rw [if_neg c10]
    by_cases c11 : (xs i &&& (31 : Int32)) = (11 : Int32)
    · obtain ⟨r, g2, I1, I2, e1, e2, s2⟩ := call_damage (K := K) (R := R) (n := n) (s := s) (F := F) (x1 := xs (i + 1)) (x2 := xs (i + 2)) (x3 := xs (i + 3)) (x4 := xs (i + 4)) hF SD SR g hs
      obtain ⟨I', e3⟩ := nx I2 g2 s2
      refine ⟨I', ?_⟩
      rw [if_pos c11]
      simp only [nI_1, nI_a2, nI_a3, nI_a4, x1, x2, x3, x4, Option.bind_some, eD_is SD, e1, hm_and_some, eR_is SR, e2, if_true]
      exact e3
    rw [if_neg c11]
    by_cases c12 : (xs i &&& (31 : Int32)) = (12 : Int32)
    · obtain ⟨r, g2, I1, I2, e1, e2, s2⟩ := call_check (K := K) (R := R) (n := n) (s := s) (F := F)  hF SD SR g hs
      obtain ⟨I', e3⟩ := nx I2 g2 s2
      refine ⟨I', ?_⟩
      rw [if_pos c12]
      simp only [nI_1, nI_a2, nI_a3, nI_a4, x1, x2, x3, x4, Option.bind_some, eD_is SD, e1, hm_and_some, eR_is SR, e2, if_true]
      exact e3
    rw [if_neg c12]
    by_cases c13 : (xs i &&& (31 : Int32)) = (13 : Int32)
    · obtain ⟨r, g2, I1, I2, e1, e2, s2⟩ := call_shortcut (K := K) (R := R) (n := n) (s := s) (F := F) (x1 := xs (i + 1)) (x2 := xs (i + 2)) SD SR g hs
      obtain ⟨I', e3⟩ := nx I2 g2 s2
      refine ⟨I', ?_⟩
      rw [if_pos c13]
      simp only [nI_1, nI_a2, nI_a3, nI_a4, x1, x2, x3, x4, Option.bind_some, eD_is SD, e1, hm_and_some, eR_is SR, e2, if_true]
      exact e3
    rw [if_neg c13]
    by_cases c14 : (xs i &&& (31 : Int32)) = (14 : Int32)
    · obtain ⟨r, g2, I1, I2, e1, e2, s2⟩ := call_climb (K := K) (R := R) (n := n) (s := s) (F := F) (x1 := xs (i + 1)) (x2 := xs (i + 2)) hF SD SR g hs
      obtain ⟨I', e3⟩ := nx I2 g2 s2
      refine ⟨I', ?_⟩
      rw [if_pos c14]
      simp only [nI_1, nI_a2, nI_a3, nI_a4, x1, x2, x3, x4, Option.bind_some, eD_is SD, e1, hm_and_some, eR_is SR, e2, if_true]
      exact e3
    rw [if_neg c14]
    by_cases c15 : (xs i &&& (31 : Int32)) = (15 : Int32)
    · obtain ⟨r, g2, I1, I2, e1, e2, s2⟩ := call_way (K := K) (R := R) (n := n) (s := s) (F := F) (x1 := xs (i + 1)) (x2 := xs (i + 2)) (x3 := xs (i + 3)) hF SD SR g hs
      obtain ⟨I', e3⟩ := nx I2 g2 s2
      refine ⟨I', ?_⟩
      rw [if_pos c15]
      simp only [nI_1, nI_a2, nI_a3, nI_a4, x1, x2, x3, x4, Option.bind_some, eD_is SD, e1, hm_and_some, eR_is SR, e2, if_true]
      exact e3
    rw [if_neg c15]
    by_cases c16 : (xs i &&& (31 : Int32)) = (16 : Int32)
    · obtain ⟨r, g2, I1, I2, e1, e2, s2⟩ := call_least (K := K) (R := R) (n := n) (s := s) (F := F) (x1 := xs (i + 1)) (x2 := xs (i + 2)) hF SD SR g hs
      obtain ⟨I', e3⟩ := nx I2 g2 s2
      refine ⟨I', ?_⟩
      rw [if_pos c16]
      simp only [nI_1, nI_a2, nI_a3, nI_a4, x1, x2, x3, x4, Option.bind_some, eD_is SD, e1, hm_and_some, eR_is SR, e2, if_true]
      exact e3
    rw [if_neg c16]
    by_cases c17 : (xs i &&& (31 : Int32)) = (17 : Int32)
    · obtain ⟨r, g2, I1, I2, e1, e2, s2⟩ := call_most (K := K) (R := R) (n := n) (s := s) (F := F) (x1 := xs (i + 1)) (x2 := xs (i + 2)) hF SD SR g hs
      obtain ⟨I', e3⟩ := nx I2 g2 s2
      refine ⟨I', ?_⟩
      rw [if_pos c17]
      simp only [nI_1, nI_a2, nI_a3, nI_a4, x1, x2, x3, x4, Option.bind_some, eD_is SD, e1, hm_and_some, eR_is SR, e2, if_true]
      exact e3
    rw [if_neg c17]
    by_cases c18 : (xs i &&& (31 : Int32)) = (18 : Int32)
    · obtain ⟨r, g2, I1, I2, e1, e2, s2⟩ := call_count (K := K) (R := R) (n := n) (s := s) (F := F) (x1 := xs (i + 1)) hF SD SR g hs
      obtain ⟨I', e3⟩ := nx I2 g2 s2
      refine ⟨I', ?_⟩
      rw [if_pos c18]
      simp only [nI_1, nI_a2, nI_a3, nI_a4, x1, x2, x3, x4, Option.bind_some, eD_is SD, e1, hm_and_some, eR_is SR, e2, if_true]
      exact e3
    rw [if_neg c18]
    exact nx I g hs
end LP
