/-! THE CALLS arc, lose, ranked, redone, landmark, count -/
theorem up2_sm {I : Nat → Nat → Int32} {a j : Nat} {x : Int32} (h : I a j = x) : up2 I a j x = I := by
  funext b i
  rw [up2_eq]
  by_cases e : b = a ∧ i = j
  · rw [if_pos e, e.1, e.2, h]
  · rw [if_neg e]
theorem sm_upd {f g : Nat → Nat} {c0 : Nat} (h : ∀ c, c ≠ c0 → g c = f c) : ∀ n, c0 < n → sm g n + f c0 = sm f n + g c0
  | 0, hn => by omega
  | n + 1, hn => by
    show sm g n + g n + f c0 = sm f n + f n + g c0
    by_cases e : n = c0
    · subst e
      have : sm g n = sm f n := sm_eq n (fun i hi => h i (by omega))
      omega
    · have := sm_upd h n (by omega)
      rw [h n e]
      omega
theorem ac_put {A : Nat → Nat → Option Nat} {i j : Nat} {v : Option Nat} (hi : i < 16) (hj : j < 16) : ac (fu2 A i j v) + cnt (A i j) = ac A + cnt v := by
  have h := sm_upd (f := fun c => cnt (A (c / 16) (c % 16))) (g := fun c => cnt (fu2 A i j v (c / 16) (c % 16))) (c0 := 16 * i + j) (fun c hc => by
    show cnt (fu2 A i j v (c / 16) (c % 16)) = cnt (A (c / 16) (c % 16))
    rw [fu2_ne (by omega)]) 256 (by omega)
  have e1 : (16 * i + j) / 16 = i := by omega
  have e2 : (16 * i + j) % 16 = j := by omega
  simp only [e1, e2, fu2_at] at h
  exact h
theorem enRD {x : Option Nat} {h : hm_T} (hx : on_ok 999999 x) : (if enR x = (1000000 : Int32) then some ((-1 : Int32), h) else some (enR x, h)) = some (enD x, h) := by
  cases x with
  | none => rw [if_pos (show enR none = (1000000 : Int32) from n_far.symm)]; rfl
  | some d =>
    have := hx d rfl
    rw [if_neg (by rw [n_far]; show ¬ nI d = nI 1000000; rw [nI_eq (by omega) (by omega)]; omega)]
    rfl
theorem enR_isfar {x : Option Nat} (hx : on_ok 999999 x) : enR x = (1000000 : Int32) ↔ x = none := by
  cases x with
  | none => exact ⟨fun _ => rfl, fun _ => n_far.symm⟩
  | some d =>
    have := hx d rfl
    rw [n_far]
    show nI d = nI 1000000 ↔ _
    rw [nI_eq (by omega) (by omega)]
    exact ⟨fun z => by omega, fun z => by cases z⟩
theorem nI_le1 {x : Int32} (h1 : ¬ x < (1 : Int32)) (h2 : x ≤ (1000 : Int32)) : ∃ l, 1 ≤ l ∧ l ≤ 1000 ∧ x = nI l := by
  rcases pk_ix x (n := 1001) (by omega) with h | h | ⟨l, hl, e⟩
  · exact absurd (Int32.lt_trans h (by decide)) h1
  · exact absurd (Int32.le_trans h h2) (by decide +kernel)
  · refine ⟨l, ?_, by omega, e⟩
    rw [e, n_1, nI_ltI (by omega) (by omega)] at h1
    omega
section CL
variable {K : Nat → Option ((Nat ⊕ Nat) × Nat)} {R : Nat → Nat → Option Nat} {n s F o : Nat} {I : Nat → Nat → Int32}
theorem call_arc {x1 x2 x3 : Int32} (SD : shD K R o) (SR : shR K R (o + 148)) (g : SG) (h : Sim o I g) : Cal K R n s o I (f_D_arc F o x1 x2 x3) (f_R_arc F (o + 148) x1 x2 x3) := by
  obtain ⟨m, A, row, rk, mk, LO, LI, TO, TI, ch, hd⟩ := g
  obtain ⟨wf, hD, hR⟩ : WFs m A row rk mk LO LI TO TI hd ∧ RelD o I m A row rk mk LO LI TO TI ch hd ∧ RelR (o + 148) I m A row rk mk LO LI TO TI ch hd := h
  have h16 := wf.1.1
  -- both refuse
  have bad : (x1 < 0 ∨ nI m ≤ x1) ∨ (x2 < 0 ∨ nI m ≤ x2) ∨ x1 = x2 → Cal K R n s o I (f_D_arc F o x1 x2 x3) (f_R_arc F (o + 148) x1 x2 x3) := fun hb => by
    refine Cal.same (r := -2) wf hD hR (I1 := I) ?_ (fun _ _ _ => rfl) (fun t ht => ⟨up2 t (o + 148) 0 0, ?_, fun x hx => up2_ne hx, fun j hj _ _ => up2_nj hj⟩)
    · unfold f_D_arc
      simp only [eD_r0 SD, Option.bind_some, eN_is SD.N1, N_two_n SD.N1 hD.1.1 h16 hb, hm_and_some, if_true]
    · have w1 : up2 t (o + 148) 0 0 (o + 148) 1 = nI m := ht.fr0.1.1
      unfold f_R_arc
      by_cases hb2 : (x1 < 0 ∨ nI m ≤ x1) ∨ (x2 < 0 ∨ nI m ≤ x2)
      · simp only [eR_pi SR, Option.bind_some, eR_is SR, R_noPair_n SR w1 h16 hb2, hm_and_some, if_neg (show ¬ (1 : Int32) = 0 by decide)]
      · rcases ix2 x1 h16 with z1 | ⟨i, hi, rfl⟩
        · exact absurd (Or.inl z1) hb2
        · rcases ix2 x2 h16 with z2 | ⟨j, hj, rfl⟩
          · exact absurd (Or.inr z2) hb2
          · have e : nI i = nI j := by
              rcases hb with z | z | z
              · exact absurd (Or.inl z) hb2
              · exact absurd (Or.inr z) hb2
              · exact z
            simp only [eR_pi SR, Option.bind_some, eR_is SR, R_noPair_y SR w1 h16 hi hj, hm_and_some, if_true, if_pos e]
  by_cases hb : (x1 < 0 ∨ nI m ≤ x1) ∨ (x2 < 0 ∨ nI m ≤ x2) ∨ x1 = x2
  · exact bad hb
  rcases ix2 x1 h16 with z1 | ⟨i, hi, rfl⟩
  · exact absurd (Or.inl z1) hb
  rcases ix2 x2 h16 with z2 | ⟨j, hj, rfl⟩
  · exact absurd (Or.inr (Or.inl z2)) hb
  have hij : i ≠ j := fun e => hb (Or.inr (Or.inr (by rw [e])))
  have nij : ¬ nI i = nI j := fun e => hb (Or.inr (Or.inr e))
  have two := N_two_y (F := F) (n := n) (s := s) SD.N1 hD.1.1 h16 hi hj hij
  by_cases l1 : x3 < (1 : Int32)
  · refine Cal.same (r := -2) wf hD hR (I1 := I) ?_ (fun _ _ _ => rfl) (fun t ht => ⟨up2 t (o + 148) 0 0, ?_, fun x hx => up2_ne hx, fun j hj _ _ => up2_nj hj⟩)
    · unfold f_D_arc
      simp only [eD_r0 SD, Option.bind_some, eN_is SD.N1, two, hm_and_some, if_neg (show ¬ (1 : Int32) = 0 by decide), if_pos l1]
    · have w1 : up2 t (o + 148) 0 0 (o + 148) 1 = nI m := ht.fr0.1.1
      unfold f_R_arc f_R_in
      simp only [eR_pi SR, Option.bind_some, eR_is SR, R_noPair_y SR w1 h16 hi hj, hm_and_some, if_true, if_neg nij, if_pos l1, zr_0]
  by_cases l2 : x3 ≤ (1000 : Int32)
  · obtain ⟨l, hl1, hl2, rfl⟩ := nI_le1 l1 l2
    obtain ⟨⟨a1, a2, a3, a4, a5⟩, ⟨b1, b2⟩, c, d, f⟩ := hD
    have hA := a4 i j (by omega) (by omega)
    have hAok : on_ok 1000 (A i j) := fun d hd => (wf.2.1 i j (by omega) (by omega) d hd).2.1
    have hac := ac_put (A := A) (v := some l) (show i < 16 by omega) (show j < 16 by omega)
    have hc1 : cnt (some l) = 1 := rfl
    have v1 : up2 I o 7 0 (o + 1 + 1 + 1 + i) j = enD (A i j) := by rw [up2_ne (by omega)]; exact hA
    have v2 : up2 I o 7 0 (o + 1) 1 = nI (ac A) := by rw [up2_ne (by omega)]; exact a5
    have e1 : f_D_arc F o (nI i) (nI j) (nI l) (hp K R n s I) = some (enD (A i j), hp K R n s (up2 (up2 (up2 I o 7 0) (o + 1) 1 (nI (ac (fu2 A i j (some l))))) (o + 1 + 1 + 1 + i) j (nI l))) := by
      unfold f_D_arc
      simp only [eD_r0 SD, Option.bind_some, eN_is SD.N1, two, hm_and_some, if_neg (show ¬ (1 : Int32) = 0 by decide), if_neg l1, if_pos l2, eD_p0 SD, N_putArc SD.N1 (show i < 16 by omega) (show j < 16 by omega), v1, v2]
      by_cases hn : A i j = none
      · have h0 : cnt (A i j) = 0 := by rw [hn]; rfl
        rw [if_pos (show enD (A i j) = -1 by rw [hn]; rfl), nI_1, show ac A + 1 = ac (fu2 A i j (some l)) by omega]
      · have h1 : cnt (A i j) = 1 := if_neg hn
        rw [if_neg (fun z => hn ((enD_none (on_ok_mono hAok (by omega))).mp z)), show ac (fu2 A i j (some l)) = ac A by omega, up2_sm v2]
    refine Cal.of m (fu2 A i j (some l)) row rk mk LO LI TO TI ch false hR e1 (fun x hx => by rw [up2_ne (by omega), up2_ne (by omega), up2_ne (by omega)]) ⟨⟨?_, fun i' hi' => ?_, fun i' hi' => ?_, fun x y hx hy => ?_, ?_⟩, ⟨fun v hv => ?_, ?_⟩, fun x y hx hy => ?_, ?_, fun z => by cases z⟩ (fun t ht => ?_) ?_
    · rw [up2_ne (by omega), up2_nj (by omega), up2_ne (by omega)]; exact a1
    · rw [up2_ne (by omega), up2_ne (by omega), up2_ne (by omega)]; exact a2 i' hi'
    · rw [up2_ne (by omega), up2_ne (by omega), up2_ne (by omega)]; exact a3 i' hi'
    · rw [up2_eq]
      by_cases e : x = i ∧ y = j
      · rw [if_pos ⟨by omega, e.2⟩, e.1, e.2, fu2_at]; rfl
      · rw [if_neg (fun z => e ⟨by omega, z.2⟩), fu2_ne e, up2_ne (by omega), up2_ne (by omega)]; exact a4 x y hx hy
    · rw [up2_ne (by omega), up2_at]
    · rw [up2_ne (by omega), up2_ne (by omega), up2_ne (by omega)]; exact b1 v hv
    · rw [up2_ne (by omega), up2_ne (by omega), up2_nj (by omega)]; exact b2
    · rw [up2_ne (by omega), up2_ne (by omega), up2_ne (by omega), up2_ne (by omega), up2_ne (by omega), up2_ne (by omega)]; exact c x y hx hy
    · rw [up2_ne (by omega), up2_ne (by omega), up2_at]; rfl
    · obtain ⟨⟨p1, p2, p3⟩, p4, p5, p6, p7⟩ := ht
      refine ⟨up2 (up2 (up2 t (o + 148) 0 0) (o + 148 + 1) (16 * i + j) (nI l)) (o + 148) 5 0, ?_, fun x hx => ?_, ⟨?_, fun x y hx hy => ?_, fun i hi => ?_⟩, fun v hv => ?_, fun k hk => ?_, ?_, fun z => by cases z⟩
      · unfold f_R_arc f_R_in
        have w1 : up2 t (o + 148) 0 0 (o + 148) 1 = nI m := by rw [up2_nj (by omega)]; exact p1
        have l9 : hm_ild (hp K R n s (up2 t (o + 148) 0 0)) (o + 148 + 1) ((16 : Int32) * nI i + nI j) = some (enR (A i j)) := by rw [ix16, hp_ild SR.K1 (by omega) (by omega), up2_ne (by omega), p2 i j (by omega) (by omega)]
        have s9 : hm_ist (hp K R n s (up2 t (o + 148) 0 0)) (o + 148 + 1) ((16 : Int32) * nI i + nI j) (nI l) = some (hp K R n s (up2 (up2 t (o + 148) 0 0) (o + 148 + 1) (16 * i + j) (nI l))) := by rw [ix16, hp_ist SR.K1 (by omega) (by omega)]
        have l3 : ¬ (1000 : Int32) < nI l := by rw [n_1000, nI_ltI (by omega) (by omega)]; omega
        simp only [eR_pi SR, Option.bind_some, eR_is SR, R_noPair_y SR w1 h16 hi hj, hm_and_some, if_true, if_neg nij, if_neg l1, if_neg l3, zr_1, if_neg (show ¬ (1 : Int32) = 0 by decide), eR_r2 SR, l9, s9, eR_p0 SR]
        exact enRD (on_ok_mono hAok (by omega))
      · rw [up2_ne (by omega), up2_ne (by omega), up2_ne (by omega)]
      · rw [up2_nj (by omega), up2_ne (by omega), up2_nj (by omega)]; exact p1
      · rw [up2_ne (by omega), up2_eq]
        by_cases e : x = i ∧ y = j
        · rw [if_pos ⟨rfl, by omega⟩, e.1, e.2, fu2_at]; rfl
        · rw [if_neg (fun z => e (by omega)), fu2_ne e, up2_ne (by omega)]; exact p2 x y hx hy
      · rw [up2_ne (by omega), up2_ne (by omega), up2_ne (by omega)]; exact p3 i hi
      · rw [up2_ne (by omega), up2_ne (by omega), up2_ne (by omega)]; exact p4 v hv
      · rw [up2_ne (by omega), up2_ne (by omega), up2_ne (by omega)]; exact p5 k hk
      · rw [up2_at]; rfl
    · obtain ⟨q1, q2, q3, q4, q5⟩ := wf
      refine ⟨q1, fun x y hx hy d hd => ?_, q3, q4, fun z => by cases z⟩
      by_cases e : x = i ∧ y = j
      · rw [e.1, e.2, fu2_at] at hd
        cases hd
        rw [e.1, e.2]
        exact ⟨hl1, hl2, hi, hj, hij⟩
      · rw [fu2_ne e] at hd
        exact q2 x y hx hy d hd
  · refine Cal.same (r := -2) wf hD hR (I1 := I) ?_ (fun _ _ _ => rfl) (fun t ht => ⟨up2 t (o + 148) 0 0, ?_, fun x hx => up2_ne hx, fun j hj _ _ => up2_nj hj⟩)
    · unfold f_D_arc
      simp only [eD_r0 SD, Option.bind_some, eN_is SD.N1, two, hm_and_some, if_neg (show ¬ (1 : Int32) = 0 by decide), if_neg l1, if_neg l2]
    · have w1 : up2 t (o + 148) 0 0 (o + 148) 1 = nI m := ht.fr0.1.1
      unfold f_R_arc f_R_in
      simp only [eR_pi SR, Option.bind_some, eR_is SR, R_noPair_y SR w1 h16 hi hj, hm_and_some, if_true, if_neg nij, if_neg l1, if_pos (Int32.not_le.mp l2), zr_0]
theorem call_lose {x1 x2 : Int32} (SD : shD K R o) (SR : shR K R (o + 148)) (g : SG) (h : Sim o I g) : Cal K R n s o I (f_D_lose F o x1 x2) (f_R_lose F (o + 148) x1 x2) := by
  obtain ⟨m, A, row, rk, mk, LO, LI, TO, TI, ch, hd⟩ := g
  obtain ⟨wf, hD, hR⟩ : WFs m A row rk mk LO LI TO TI hd ∧ RelD o I m A row rk mk LO LI TO TI ch hd ∧ RelR (o + 148) I m A row rk mk LO LI TO TI ch hd := h
  have h16 := wf.1.1
  by_cases hb : (x1 < 0 ∨ nI m ≤ x1) ∨ (x2 < 0 ∨ nI m ≤ x2) ∨ x1 = x2
  · refine Cal.same (r := -2) wf hD hR (I1 := I) ?_ (fun _ _ _ => rfl) (fun t ht => ⟨up2 t (o + 148) 0 0, ?_, fun x hx => up2_ne hx, fun j hj _ _ => up2_nj hj⟩)
    · unfold f_D_lose
      simp only [eD_r0 SD, Option.bind_some, eN_is SD.N1, N_two_n SD.N1 hD.1.1 h16 hb, hm_and_some, if_true]
    · have w1 : up2 t (o + 148) 0 0 (o + 148) 1 = nI m := ht.fr0.1.1
      unfold f_R_lose
      by_cases hb2 : (x1 < 0 ∨ nI m ≤ x1) ∨ (x2 < 0 ∨ nI m ≤ x2)
      · simp only [eR_pi SR, Option.bind_some, eR_is SR, R_noPair_n SR w1 h16 hb2, hm_and_some, if_neg (show ¬ (1 : Int32) = 0 by decide)]
      · rcases ix2 x1 h16 with z1 | ⟨i, hi, rfl⟩
        · exact absurd (Or.inl z1) hb2
        · rcases ix2 x2 h16 with z2 | ⟨j, hj, rfl⟩
          · exact absurd (Or.inr z2) hb2
          · have e : nI i = nI j := by
              rcases hb with z | z | z
              · exact absurd (Or.inl z) hb2
              · exact absurd (Or.inr z) hb2
              · exact z
            simp only [eR_pi SR, Option.bind_some, eR_is SR, R_noPair_y SR w1 h16 hi hj, hm_and_some, if_true, if_pos e]
  rcases ix2 x1 h16 with z1 | ⟨i, hi, rfl⟩
  · exact absurd (Or.inl z1) hb
  rcases ix2 x2 h16 with z2 | ⟨j, hj, rfl⟩
  · exact absurd (Or.inr (Or.inl z2)) hb
  have hij : i ≠ j := fun e => hb (Or.inr (Or.inr (by rw [e])))
  have nij : ¬ nI i = nI j := fun e => hb (Or.inr (Or.inr e))
  have two := N_two_y (F := F) (n := n) (s := s) SD.N1 hD.1.1 h16 hi hj hij
  have hAok : on_ok 1000 (A i j) := fun d hd => (wf.2.1 i j (by omega) (by omega) d hd).2.1
  have hA := hD.1.2.2.2.1 i j (by omega) (by omega)
  by_cases hn : A i j = none
  · have hm1 : enD (A i j) = -1 := by rw [hn]; rfl
    refine Cal.same (r := -1) wf hD hR (I1 := I) ?_ (fun _ _ _ => rfl) (fun t ht => ⟨up2 t (o + 148) 0 0, ?_, fun x hx => up2_ne hx, fun j hj _ _ => up2_nj hj⟩)
    · unfold f_D_lose
      simp only [eD_r0 SD, Option.bind_some, eN_is SD.N1, two, hm_and_some, if_neg (show ¬ (1 : Int32) = 0 by decide), N_dropArc SD.N1 (show i < 16 by omega) (show j < 16 by omega), hA, hm1, if_true]
      rw [up2_sm (by rw [hA, hm1])]
    · have w1 : up2 t (o + 148) 0 0 (o + 148) 1 = nI m := ht.fr0.1.1
      have l9 : hm_ild (hp K R n s (up2 t (o + 148) 0 0)) (o + 148 + 1) ((16 : Int32) * nI i + nI j) = some (enR (A i j)) := by rw [ix16, hp_ild SR.K1 (by omega) (by omega), up2_ne (by omega), ht.1.2.1 i j (by omega) (by omega)]
      unfold f_R_lose
      simp only [eR_pi SR, Option.bind_some, eR_is SR, R_noPair_y SR w1 h16 hi hj, hm_and_some, if_true, if_neg nij, eR_r2 SR, l9, if_pos ((enR_isfar (on_ok_mono hAok (show 1000 ≤ 999999 by omega))).mpr hn)]
  · obtain ⟨⟨a1, a2, a3, a4, a5⟩, ⟨b1, b2⟩, c, d, f⟩ := hD
    have hac := ac_put (A := A) (v := none) (show i < 16 by omega) (show j < 16 by omega)
    have hc0 : cnt none = 0 := rfl
    have hc1 : cnt (A i j) = 1 := if_neg hn
    have nm1 : ¬ enD (A i j) = -1 := fun z => hn ((enD_none (on_ok_mono hAok (by omega))).mp z)
    have hsub : nI (ac A) - 1 = nI (ac (fu2 A i j none)) := by rw [show ac A = ac (fu2 A i j none) + 1 by omega, nI_pred]
    have e1 : f_D_lose F o (nI i) (nI j) (hp K R n s I) = some (enD (A i j), hp K R n s (up2 (up2 (up2 I (o + 1) 1 (nI (ac (fu2 A i j none)))) (o + 1 + 1 + 1 + i) j (-1)) o 7 0)) := by
      unfold f_D_lose
      simp only [eD_r0 SD, Option.bind_some, eN_is SD.N1, two, hm_and_some, if_neg (show ¬ (1 : Int32) = 0 by decide), N_dropArc SD.N1 (show i < 16 by omega) (show j < 16 by omega), hA, a5, if_neg nm1, hsub, eD_p0 SD]
    refine Cal.of m (fu2 A i j none) row rk mk LO LI TO TI ch false hR e1 (fun x hx => by rw [up2_ne (by omega), up2_ne (by omega), up2_ne (by omega)]) ⟨⟨?_, fun i' hi' => ?_, fun i' hi' => ?_, fun x y hx hy => ?_, ?_⟩, ⟨fun v hv => ?_, ?_⟩, fun x y hx hy => ?_, ?_, fun z => by cases z⟩ (fun t ht => ?_) ?_
    · rw [up2_ne (by omega), up2_ne (by omega), up2_nj (by omega)]; exact a1
    · rw [up2_ne (by omega), up2_ne (by omega), up2_ne (by omega)]; exact a2 i' hi'
    · rw [up2_ne (by omega), up2_ne (by omega), up2_ne (by omega)]; exact a3 i' hi'
    · rw [up2_ne (by omega), up2_eq]
      by_cases e : x = i ∧ y = j
      · rw [if_pos ⟨by omega, e.2⟩, e.1, e.2, fu2_at]; rfl
      · rw [if_neg (fun z => e ⟨by omega, z.2⟩), fu2_ne e, up2_ne (by omega)]; exact a4 x y hx hy
    · rw [up2_ne (by omega), up2_ne (by omega), up2_at]
    · rw [up2_ne (by omega), up2_ne (by omega), up2_ne (by omega)]; exact b1 v hv
    · rw [up2_nj (by omega), up2_ne (by omega), up2_ne (by omega)]; exact b2
    · rw [up2_ne (by omega), up2_ne (by omega), up2_ne (by omega), up2_ne (by omega), up2_ne (by omega), up2_ne (by omega)]; exact c x y hx hy
    · rw [up2_at]; rfl
    · obtain ⟨⟨p1, p2, p3⟩, p4, p5, p6, p7⟩ := ht
      refine ⟨up2 (up2 (up2 t (o + 148) 0 0) (o + 148 + 1) (16 * i + j) 1000000) (o + 148) 5 0, ?_, fun x hx => ?_, ⟨?_, fun x y hx hy => ?_, fun i hi => ?_⟩, fun v hv => ?_, fun k hk => ?_, ?_, fun z => by cases z⟩
      · unfold f_R_lose
        have w1 : up2 t (o + 148) 0 0 (o + 148) 1 = nI m := by rw [up2_nj (by omega)]; exact p1
        have l9 : hm_ild (hp K R n s (up2 t (o + 148) 0 0)) (o + 148 + 1) ((16 : Int32) * nI i + nI j) = some (enR (A i j)) := by rw [ix16, hp_ild SR.K1 (by omega) (by omega), up2_ne (by omega), p2 i j (by omega) (by omega)]
        have s9 : hm_ist (hp K R n s (up2 t (o + 148) 0 0)) (o + 148 + 1) ((16 : Int32) * nI i + nI j) 1000000 = some (hp K R n s (up2 (up2 t (o + 148) 0 0) (o + 148 + 1) (16 * i + j) 1000000)) := by rw [ix16, hp_ist SR.K1 (by omega) (by omega)]
        have eRD : enR (A i j) = enD (A i j) := by
          cases hc : A i j with
          | none => exact absurd hc hn
          | some d => rfl
        simp only [eR_pi SR, Option.bind_some, eR_is SR, R_noPair_y SR w1 h16 hi hj, hm_and_some, if_true, if_neg nij, eR_r2 SR, l9, s9, eR_p0 SR, if_neg (fun z => hn ((enR_isfar (on_ok_mono hAok (show 1000 ≤ 999999 by omega))).mp z))]
        rw [eRD]
      · rw [up2_ne (by omega), up2_ne (by omega), up2_ne (by omega)]
      · rw [up2_nj (by omega), up2_ne (by omega), up2_nj (by omega)]; exact p1
      · rw [up2_ne (by omega), up2_eq]
        by_cases e : x = i ∧ y = j
        · rw [if_pos ⟨rfl, by omega⟩, e.1, e.2, fu2_at]; exact n_far
        · rw [if_neg (fun z => e (by omega)), fu2_ne e, up2_ne (by omega)]; exact p2 x y hx hy
      · rw [up2_ne (by omega), up2_ne (by omega), up2_ne (by omega)]; exact p3 i hi
      · rw [up2_ne (by omega), up2_ne (by omega), up2_ne (by omega)]; exact p4 v hv
      · rw [up2_ne (by omega), up2_ne (by omega), up2_ne (by omega)]; exact p5 k hk
      · rw [up2_at]; rfl
    · obtain ⟨q1, q2, q3, q4, q5⟩ := wf
      refine ⟨q1, fun x y hx hy d hd => ?_, q3, q4, fun z => by cases z⟩
      by_cases e : x = i ∧ y = j
      · rw [e.1, e.2, fu2_at] at hd
        cases hd
      · rw [fu2_ne e] at hd
        exact q2 x y hx hy d hd
theorem call_ranked {x1 : Int32} (SD : shD K R o) (SR : shR K R (o + 148)) (g : SG) (h : Sim o I g) : Cal K R n s o I (f_D_ranked F o x1) (f_R_ranked F (o + 148) x1) := by
  obtain ⟨m, A, row, rk, mk, LO, LI, TO, TI, ch, hd⟩ := g
  obtain ⟨wf, hD, hR⟩ : WFs m A row rk mk LO LI TO TI hd ∧ RelD o I m A row rk mk LO LI TO TI ch hd ∧ RelR (o + 148) I m A row rk mk LO LI TO TI ch hd := h
  have h16 := wf.1.1
  rcases ix2 x1 h16 with hb | ⟨i, hi, rfl⟩
  · refine Cal.same (r := -2) wf hD hR (I1 := I) ?_ (fun _ _ _ => rfl) (fun t ht => ⟨up2 t (o + 148) 0 0, ?_, fun x hx => up2_ne hx, fun j hj _ _ => up2_nj hj⟩)
    · unfold f_D_ranked
      simp only [eD_r0 SD, Option.bind_some, eN_is SD.N1, N_has_n SD.N1 hD.1.1 hb, hm_and_some, if_true]
    · have w1 : up2 t (o + 148) 0 0 (o + 148) 1 = nI m := ht.fr0.1.1
      unfold f_R_ranked f_R_in
      by_cases h0 : x1 < 0
      · simp only [eR_pi SR, Option.bind_some, eR_gi SR, w1, if_pos h0, zr_0, hm_and_some, if_true]
      · simp only [eR_pi SR, Option.bind_some, eR_gi SR, w1, if_neg h0, if_pos (lt_pred h16 (hb.resolve_left h0)), zr_0, hm_and_some, if_true]
  · refine Cal.same (r := nI (row i)) wf hD hR (I1 := I) ?_ (fun _ _ _ => rfl) (fun t ht => ⟨up2 t (o + 148) 0 0, ?_, fun x hx => up2_ne hx, fun j hj _ _ => up2_nj hj⟩)
    · unfold f_D_ranked
      simp only [eD_r0 SD, Option.bind_some, eN_is SD.N1, N_has_y SD.N1 hD.1.1 h16 hi, hm_and_some, if_neg (show ¬ (1 : Int32) = 0 by decide), eN_r3 SD.N1, hp_ild SD.N1.K18 (show i < 16 by omega) (show 16 < 2 ^ 31 by omega), hD.1.2.1 i hi]
    · have w1 : up2 t (o + 148) 0 0 (o + 148) 1 = nI m := ht.fr0.1.1
      have w2 := ht.fr0.1.2.2 i hi
      obtain ⟨m', rfl⟩ : ∃ m', m = m' + 1 := ⟨m - 1, by omega⟩
      have h2 : ¬ nI m' < nI i := fun z => by rw [nI_ltI (by omega) (by omega)] at z; omega
      unfold f_R_ranked f_R_in
      simp only [eR_pi SR, Option.bind_some, eR_gi SR, w1, nI_pred, if_neg (nI_pos (show i < 2 ^ 31 by omega)), if_neg h2, zr_1, hm_and_some, if_neg (show ¬ (1 : Int32) = 0 by decide), eR_r3 SR, hp_ild SR.K2 (show i < 16 by omega) (show 16 < 2 ^ 31 by omega), w2]
theorem call_redone (SD : shD K R o) (SR : shR K R (o + 148)) (g : SG) (h : Sim o I g) : Cal K R n s o I (f_D_redone F o) (f_R_redone F (o + 148)) := by
  obtain ⟨m, A, row, rk, mk, LO, LI, TO, TI, ch, hd⟩ := g
  obtain ⟨wf, hD, hR⟩ : WFs m A row rk mk LO LI TO TI hd ∧ RelD o I m A row rk mk LO LI TO TI ch hd ∧ RelR (o + 148) I m A row rk mk LO LI TO TI ch hd := h
  cases hd with
  | false =>
    refine Cal.same (r := -4) wf hD hR (I1 := I) ?_ (fun _ _ _ => rfl) (fun t ht => ⟨up2 t (o + 148) 0 0, ?_, fun x hx => up2_ne hx, fun j hj _ _ => up2_nj hj⟩)
    · unfold f_D_redone
      simp only [eD_gi SD, Option.bind_some, hD.2.2.2.1, bI_f, if_true]
    · have w1 : up2 t (o + 148) 0 0 (o + 148) 5 = bI false := ht.fr0.2.2.2.1
      unfold f_R_redone
      simp only [eR_pi SR, Option.bind_some, eR_gi SR, w1, bI_f, if_true]
  | true =>
    refine Cal.same (r := nI ch) wf hD hR (I1 := I) ?_ (fun _ _ _ => rfl) (fun t ht => ⟨up2 t (o + 148) 0 0, ?_, fun x hx => up2_ne hx, fun j hj _ _ => up2_nj hj⟩)
    · unfold f_D_redone
      simp only [eD_gi SD, Option.bind_some, hD.2.2.2.1, bI_t, if_neg (show ¬ (1 : Int32) = 0 by decide), (hD.2.2.2.2 rfl).2.2.1]
    · have w1 : up2 t (o + 148) 0 0 (o + 148) 5 = bI true := ht.fr0.2.2.2.1
      have w2 : up2 t (o + 148) 0 0 (o + 148) 10 = nI ch := (ht.fr0.2.2.2.2 rfl).2.2.1
      unfold f_R_redone
      simp only [eR_pi SR, Option.bind_some, eR_gi SR, w1, bI_t, if_neg (show ¬ (1 : Int32) = 0 by decide), w2]
end CL
