/-! THE CALLS landmark, count -/
theorem mc_put {mk : Nat → Bool} {m i : Nat} {b : Bool} (hi : i < m) : mc (fu mk i b) m + (if mk i = true then 1 else 0) = mc mk m + (if b = true then 1 else 0) := by
  have h := sm_upd (f := fun v => if mk v = true then 1 else 0) (g := fun v => if fu mk i b v = true then 1 else 0) (c0 := i) (fun c hc => by
    show (if fu mk i b c = true then 1 else 0) = _
    rw [fu_ne hc]) m hi
  simp only [fu_at] at h
  exact h
section MC
variable {K : Nat → Option ((Nat ⊕ Nat) × Nat)} {R : Nat → Nat → Option Nat} {n s F o q m : Nat} {I : Nat → Nat → Int32} {mk : Nat → Bool}
theorem R_marks (hF : 20 ≤ F) (S : shR K R q) (hm : I q 1 = nI m) (h16 : m ≤ 16) (hk : mRR q I mk) : f_R_marks F q (hp K R n s I) = some (nI (mc mk m), hp K R n s I) := by
  unfold f_R_marks
  rw [← nI_0]
  refine hl_up (fun N v (c : Nat) => f_R_marks_4 F N q (nI c) (nI v) (hp K R n s I)) (fun z => z = some (nI (mc mk m), hp K R n s I)) (fun v c => c = mc mk v) m ?_ ?_ F 0 0 (by omega) (by omega) rfl
  · intro N v c hv hc
    subst hc
    refine Or.inr ⟨_, rfl, ?_⟩
    show g_R_marks_4 F (f_R_marks_4 F N) q (nI (mc mk v)) (nI v) (hp K R n s I) = f_R_marks_4 F N q (nI (mc mk v + (if mk v = true then 1 else 0))) (nI (v + 1)) (hp K R n s I)
    unfold g_R_marks_4 f_R_marks_28
    have l1 : hm_zld (hp K R n s I) (q + 3) (nI v) = some (bI (mk v)) := by rw [hp_zld S.K3 (by omega) (by omega), hk v (by omega)]
    simp only [eR_gi S, Option.bind_some, hm, if_neg (nI_ge hv (show m < 2 ^ 31 by omega)), eR_r4 S, l1, nI_1]
    cases mk v with
    | false => simp [bI]
    | true => simp [bI]
  · intro N c hc
    subst hc
    show g_R_marks_4 F (f_R_marks_4 F N) q (nI (mc mk m)) (nI m) (hp K R n s I) = _
    unfold g_R_marks_4
    simp only [eR_gi S, Option.bind_some, hm, if_pos (Int32.le_refl (nI m))]
theorem call_landmark {x1 : Int32} (b : Bool) (hF : 5000 ≤ F) (SD : shD K R o) (SR : shR K R (o + 148)) (g : SG) (h : Sim o I g) : Cal K R n s o I (f_D_landmark F o x1 (bI b)) (f_R_landmark F (o + 148) x1 (bI b)) := by
  obtain ⟨m, A, row, rk, mk, LO, LI, TO, TI, ch, hd⟩ := g
  obtain ⟨wf, hD, hR⟩ : WFs m A row rk mk LO LI TO TI hd ∧ RelD o I m A row rk mk LO LI TO TI ch hd ∧ RelR (o + 148) I m A row rk mk LO LI TO TI ch hd := h
  have h16 := wf.1.1
  rcases ix2 x1 h16 with hb | ⟨i, hi, rfl⟩
  · refine Cal.same (r := -2) wf hD hR (I1 := I) ?_ (fun _ _ _ => rfl) (fun t ht => ⟨up2 t (o + 148) 0 0, ?_, fun x hx => up2_ne hx, fun j hj _ _ => up2_nj hj⟩)
    · unfold f_D_landmark
      simp only [eD_r0 SD, Option.bind_some, eN_is SD.N1, N_has_n SD.N1 hD.1.1 hb, hm_and_some, if_true]
    · have w1 : up2 t (o + 148) 0 0 (o + 148) 1 = nI m := ht.fr0.1.1
      unfold f_R_landmark
      simp only [eR_pi SR, Option.bind_some, eR_is SR, R_noNode_n SR w1 h16 hb, hm_and_some, if_neg (show ¬ (1 : Int32) = 0 by decide)]
  have l1 : hm_zld (hp K R n s I) (o + 147) (nI i) = some (bI (mk i)) := by rw [hp_zld SD.K147 (by omega) (by omega), hD.2.1.1 i (by omega)]
  have hyes := N_has_y (F := F) (n := n) (s := s) SD.N1 hD.1.1 h16 hi
  have hmc4 := wf.2.2.1.2
  have lR : ∀ t, RelR (o + 148) t m A row rk mk LO LI TO TI ch hd → hm_zld (hp K R n s (up2 t (o + 148) 0 0)) (o + 148 + 3) (nI i) = some (bI (mk i)) := fun t ht => by rw [hp_zld SR.K3 (by omega) (by omega), ht.fr0.2.1 i (by omega)]
  by_cases hfull : b = true ∧ mk i = false ∧ mc mk m = 4
  · obtain ⟨rfl, h2, h3⟩ := hfull
    refine Cal.same (r := -3) wf hD hR (I1 := I) ?_ (fun _ _ _ => rfl) (fun t ht => ⟨up2 t (o + 148) 0 0, ?_, fun x hx => up2_ne hx, fun j hj _ _ => up2_nj hj⟩)
    · unfold f_D_landmark
      have n4 : ¬ nI 4 < (4 : Int32) := by decide +kernel
      simp only [eD_r0 SD, Option.bind_some, eN_is SD.N1, hyes, hm_and_some, if_neg (show ¬ (1 : Int32) = 0 by decide), eD_r5 SD, l1, h2, bI_t, bI_f, if_true, eD_gi SD, hD.2.1.2, h3, if_neg n4]
    · have w1 : up2 t (o + 148) 0 0 (o + 148) 1 = nI m := ht.fr0.1.1
      have w2 := R_marks (F := F) (n := n) (s := s) (by omega) SR w1 h16 ht.fr0.2.1
      unfold f_R_landmark
      simp only [eR_pi SR, Option.bind_some, eR_is SR, R_noNode_y SR w1 h16 hi, hm_and_some, if_neg (show ¬ (1 : Int32) = 0 by decide), eR_r4 SR, lR t ht, h2, bI_t, bI_f, if_true, w2, h3, if_pos (show nI 4 = (4 : Int32) from n_4.symm)]
  -- what the class does behind its test, what the reference does
  have hput := mc_put (mk := mk) (b := b) hi
  have hle4 : mc (fu mk i b) m ≤ 4 := by
    by_cases c1 : b = true
    · by_cases c2 : mk i = true
      · rw [if_pos c1, if_pos c2] at hput; omega
      · rw [if_pos c1, if_neg c2] at hput
        have : mc mk m ≠ 4 := fun z => hfull ⟨c1, by simpa using c2, z⟩
        omega
    · rw [if_neg c1] at hput; omega
  have eD : f_D_landmark F o (nI i) (bI b) (hp K R n s I) = f_D_landmark_40 F o (nI i) (bI b) (bI (mk i)) (hp K R n s I) := by
    unfold f_D_landmark
    simp only [eD_r0 SD, Option.bind_some, eN_is SD.N1, hyes, hm_and_some, if_neg (show ¬ (1 : Int32) = 0 by decide), eD_r5 SD, l1, eD_gi SD, hD.2.1.2]
    cases hb : b with
    | false => rw [bI_f, if_pos rfl]
    | true =>
      rw [bI_t, if_neg (show ¬ (1 : Int32) = 0 by decide)]
      cases hk : mk i with
      | true => rw [bI_t, if_neg (show ¬ (1 : Int32) = 0 by decide)]
      | false =>
        have h4 : mc mk m ≠ 4 := fun z => hfull ⟨hb, hk, z⟩
        rw [bI_f, if_pos rfl, if_pos (show nI (mc mk m) < (4 : Int32) by rw [n_4, nI_ltI (by omega) (by omega)]; omega)]
  have eR : ∀ t, RelR (o + 148) t m A row rk mk LO LI TO TI ch hd → f_R_landmark F (o + 148) (nI i) (bI b) (hp K R n s t) = some (bI (mk i), hp K R n s (up2 (up2 t (o + 148) 0 0) (o + 148 + 3) i (bI b))) := fun t ht => by
    have w1 : up2 t (o + 148) 0 0 (o + 148) 1 = nI m := ht.fr0.1.1
    have w2 := R_marks (F := F) (n := n) (s := s) (by omega) SR w1 h16 ht.fr0.2.1
    have tail : f_R_landmark_42 F (o + 148) (nI i) (bI b) (bI (mk i)) (hp K R n s (up2 t (o + 148) 0 0)) = some (bI (mk i), hp K R n s (up2 (up2 t (o + 148) 0 0) (o + 148 + 3) i (bI b))) := by
      unfold f_R_landmark_42
      simp only [eR_r4 SR, Option.bind_some, hp_zst SR.K3 (show i < 16 by omega) (show 16 < 2 ^ 31 by omega) (bI_01 b)]
      cases mk i <;> simp [bI]
    rw [← tail]
    unfold f_R_landmark
    simp only [eR_pi SR, Option.bind_some, eR_is SR, R_noNode_y SR w1 h16 hi, hm_and_some, if_true, eR_r4 SR, lR t ht, w2]
    cases hb : b with
    | false => rw [bI_f, if_pos rfl]
    | true =>
      rw [bI_t, if_neg (show ¬ (1 : Int32) = 0 by decide)]
      cases hk : mk i with
      | true => rw [bI_t, if_neg (show ¬ (1 : Int32) = 0 by decide)]
      | false =>
        have h4 : mc mk m ≠ 4 := fun z => hfull ⟨hb, hk, z⟩
        rw [bI_f, if_pos rfl, if_neg (show ¬ nI (mc mk m) = (4 : Int32) by rw [n_4, nI_eq (by omega) (by omega)]; exact h4)]
  have wf' : WFs m A row rk (fu mk i b) LO LI TO TI hd := by
    obtain ⟨q1, q2, q3, q4, q5⟩ := wf
    refine ⟨q1, q2, ⟨fun v hv hk => ?_, hle4⟩, q4, q5⟩
    by_cases e : v = i
    · rw [e]; exact hi
    · rw [fu_ne e] at hk; exact q3.1 v hv hk
  have hRR : ∀ t, RelR (o + 148) t m A row rk mk LO LI TO TI ch hd → ∃ I2, f_R_landmark F (o + 148) (nI i) (bI b) (hp K R n s t) = some (bI (mk i), hp K R n s I2) ∧ (∀ x, x < o + 148 → I2 x = t x) ∧ RelR (o + 148) I2 m A row rk (fu mk i b) LO LI TO TI ch hd := fun t ht => by
    refine ⟨_, eR t ht, fun x hx => by rw [up2_ne (by omega), up2_ne (by omega)], ?_⟩
    have ht0 := ht.fr0
    generalize up2 t (o + 148) 0 0 = t0 at ht0 ⊢
    obtain ⟨⟨p1, p2, p3⟩, p4, p5, p6, p7⟩ := ht0
    refine ⟨⟨?_, fun x y hx hy => ?_, fun i hi => ?_⟩, fun v hv => ?_, fun k hk => ?_, ?_, fun z => ?_⟩
    · rw [up2_ne (by omega)]; exact p1
    · rw [up2_ne (by omega)]; exact p2 x y hx hy
    · rw [up2_ne (by omega)]; exact p3 i hi
    · rw [up2_eq]
      by_cases e : v = i
      · rw [if_pos ⟨rfl, e⟩, e, fu_at]
      · rw [if_neg (fun z => e z.2), fu_ne e]; exact p4 v hv
    · rw [up2_ne (by omega)]; exact p5 k hk
    · rw [up2_ne (by omega)]; exact p6
    · obtain ⟨g1, g2, g3, g4, g5⟩ := p7 z
      refine ⟨fun x y hx hy => ?_, fun x y hx hy => ?_, ?_, ⟨?_, fun j x hx => ?_⟩, fun x y hx hy => ?_⟩
      · rw [up2_ne (by omega)]; exact g1 x y hx hy
      · rw [up2_ne (by omega)]; exact g2 x y hx hy
      · rw [up2_ne (by omega)]; exact g3
      · rw [up2_ne (by omega)]; exact g4.1
      · rw [up2_ne (by omega), up2_ne (by omega), up2_ne (by omega), up2_ne (by omega)]; exact g4.2 j x hx
      · rw [up2_ne (by omega)]; exact g5 x y hx hy
  -- the class's ints, for any count written
  have hDD : ∀ c, c = nI (mc (fu mk i b) m) → RelD o (up2 (up2 I (o + 147) i (bI b)) o 6 c) m A row rk (fu mk i b) LO LI TO TI ch hd := fun c0 hc0 => by
    obtain ⟨⟨a1, a2, a3, a4, a5⟩, ⟨b1, b2⟩, c, d, f⟩ := hD
    refine ⟨⟨?_, fun i hi => ?_, fun i hi => ?_, fun x y hx hy => ?_, ?_⟩, ⟨fun v hv => ?_, ?_⟩, fun x y hx hy => ?_, ?_, fun hh => ?_⟩
    · rw [up2_ne (by omega), up2_ne (by omega)]; exact a1
    · rw [up2_ne (by omega), up2_ne (by omega)]; exact a2 i hi
    · rw [up2_ne (by omega), up2_ne (by omega)]; exact a3 i hi
    · rw [up2_ne (by omega), up2_ne (by omega)]; exact a4 x y hx hy
    · rw [up2_ne (by omega), up2_ne (by omega)]; exact a5
    · rw [up2_ne (by omega), up2_eq]
      by_cases e : v = i
      · rw [if_pos ⟨rfl, e⟩, e, fu_at]
      · rw [if_neg (fun z => e z.2), fu_ne e]; exact b1 v hv
    · rw [up2_at]; exact hc0
    · rw [up2_ne (by omega), up2_ne (by omega), up2_ne (by omega), up2_ne (by omega)]; exact c x y hx hy
    · rw [up2_nj (by omega), up2_ne (by omega)]; exact d
    · obtain ⟨g1, g2, g3, g4, g5⟩ := f hh
      refine ⟨fun x y hx hy => ?_, fun x y hx hy => ?_, ?_, fun x y hx hy => ?_, ?_, fun j x hx => ?_⟩
      · rw [up2_ne (by omega), up2_ne (by omega)]; exact g1 x y hx hy
      · rw [up2_ne (by omega), up2_ne (by omega), up2_ne (by omega), up2_ne (by omega)]; exact g2 x y hx hy
      · rw [up2_nj (by omega), up2_ne (by omega)]; exact g3
      · rw [up2_ne (by omega), up2_ne (by omega)]; exact g4 x y hx hy
      · rw [up2_ne (by omega), up2_ne (by omega)]; exact g5.1
      · rw [up2_ne (by omega), up2_ne (by omega), up2_ne (by omega), up2_ne (by omega)]; exact g5.2 j x hx
  have r70 : ∀ (t : hm_T), f_D_landmark_70 F (bI (mk i)) t = some (bI (mk i), t) := fun t => by
    unfold f_D_landmark_70
    cases mk i <;> simp [bI]
  have w6 : ∀ x, up2 I (o + 147) i x o 6 = nI (mc mk m) := fun x => by rw [up2_ne (by omega)]; exact hD.2.1.2
  by_cases hsame : b = mk i
  · -- nothing changes in the class
    have eI : up2 (up2 I (o + 147) i (bI b)) o 6 (nI (mc (fu mk i b) m)) = I := by
      rw [up2_sm (I := I) (a := o + 147) (j := i) (by rw [hsame]; exact hD.2.1.1 i (by omega))]
      exact up2_sm (by rw [hD.2.1.2]; rw [hsame] at hput; rw [hsame, show mc (fu mk i (mk i)) m = mc mk m by omega])
    have := hDD _ rfl
    rw [eI] at this
    refine Cal.of m A row rk (fu mk i b) LO LI TO TI ch hd hR (r := bI (mk i)) (I1 := I) ?_ (fun _ _ => rfl) this hRR wf'
    rw [eD]
    unfold f_D_landmark_40
    rw [if_pos (by rw [hsame]), r70]
  · have hne : ¬ bI b = bI (mk i) := by
      cases hb : b <;> cases hk : mk i <;> simp_all [bI]
    refine Cal.of m A row rk (fu mk i b) LO LI TO TI ch hd hR (r := bI (mk i)) (I1 := up2 (up2 I (o + 147) i (bI b)) o 6 (nI (mc (fu mk i b) m))) ?_ (fun x hx => by rw [up2_ne (by omega), up2_ne (by omega)]) (hDD _ rfl) hRR wf'
    rw [eD]
    unfold f_D_landmark_40 f_D_landmark_66
    simp only [if_neg hne, eD_r5 SD, Option.bind_some, hp_zst SD.K147 (show i < 16 by omega) (show 16 < 2 ^ 31 by omega) (bI_01 b), eD_gi SD, w6, eD_pi SD, r70]
    cases hb : b with
    | true =>
      have hk : mk i = false := by cases hc : mk i <;> simp_all
      rw [hb, if_pos rfl, hk, if_neg (show ¬ (false = true) by decide)] at hput
      rw [bI_t, if_neg (show ¬ (1 : Int32) = 0 by decide), nI_1, show mc mk m + 1 = mc (fu mk i true) m by omega]
    | false =>
      have hk : mk i = true := by cases hc : mk i <;> simp_all
      rw [hb, if_neg (show ¬ (false = true) by decide), hk, if_pos rfl] at hput
      rw [bI_f, if_pos rfl, nI_dec, show mc mk m = mc (fu mk i false) m + 1 by omega, nI_pred]
theorem call_count {x1 : Int32} (hF : 5000 ≤ F) (SD : shD K R o) (SR : shR K R (o + 148)) (g : SG) (h : Sim o I g) : Cal K R n s o I (f_D_count F o x1) (f_R_count F (o + 148) x1) := by
  obtain ⟨m, A, row, rk, mk, LO, LI, TO, TI, ch, hd⟩ := g
  obtain ⟨wf, hD, hR⟩ : WFs m A row rk mk LO LI TO TI hd ∧ RelD o I m A row rk mk LO LI TO TI ch hd ∧ RelR (o + 148) I m A row rk mk LO LI TO TI ch hd := h
  have h16 := wf.1.1
  have fin : ∀ (r : Int32), f_D_count F o x1 (hp K R n s I) = some (r, hp K R n s I) → (∀ t, RelR (o + 148) t m A row rk mk LO LI TO TI ch hd → f_R_count F (o + 148) x1 (hp K R n s t) = some (r, hp K R n s (up2 t (o + 148) 0 0))) → Cal K R n s o I (f_D_count F o x1) (f_R_count F (o + 148) x1) := fun r e1 e2 =>
    Cal.same (r := r) wf hD hR (I1 := I) e1 (fun _ _ _ => rfl) (fun t ht => ⟨up2 t (o + 148) 0 0, e2 t ht, fun x hx => up2_ne hx, fun j hj _ _ => up2_nj hj⟩)
  by_cases c0 : x1 = (0 : Int32)
  · refine fin (nI m) ?_ (fun t ht => ?_)
    · unfold f_D_count
      simp only [if_pos c0, eD_r0 SD, Option.bind_some, eN_gi SD.N1, hD.1.1]
    · have w1 : up2 t (o + 148) 0 0 (o + 148) 1 = nI m := ht.fr0.1.1
      unfold f_R_count
      simp only [eR_pi SR, Option.bind_some, if_pos c0, eR_gi SR, w1]
  by_cases c1 : x1 = (1 : Int32)
  · refine fin (nI (ac A)) ?_ (fun t ht => ?_)
    · unfold f_D_count
      simp only [if_neg c0, if_pos c1, eD_r0 SD, Option.bind_some, eN_gi SD.N1, hD.1.2.2.2.2]
    · have ht0 := ht.fr0
      unfold f_R_count
      simp only [eR_pi SR, Option.bind_some, if_neg c0, if_pos c1]
      generalize up2 t (o + 148) 0 0 = t0 at ht0 ⊢
      rw [← nI_0]
      refine hl_up (fun N c (a : Nat) => f_R_count_47 F N (o + 148) (nI a) (nI c) (hp K R n s t0)) (fun z => z = some (nI (ac A), hp K R n s t0)) (fun c a => a = sm (fun c => cnt (A (c / 16) (c % 16))) c) 256 ?_ ?_ F 0 0 (by omega) (by omega) rfl
      · intro N c a hc ha
        subst ha
        refine Or.inr ⟨_, rfl, ?_⟩
        show g_R_count_47 F (f_R_count_47 F N) (o + 148) (nI (sm (fun c => cnt (A (c / 16) (c % 16))) c)) (nI c) (hp K R n s t0) = f_R_count_47 F N (o + 148) (nI (sm (fun c => cnt (A (c / 16) (c % 16))) c + cnt (A (c / 16) (c % 16)))) (nI (c + 1)) (hp K R n s t0)
        have l1 : hm_ild (hp K R n s t0) (o + 148 + 1) (nI c) = some (enR (A (c / 16) (c % 16))) := by
          rw [hp_ild SR.K1 hc (by omega)]
          have := ht0.1.2.1 (c / 16) (c % 16) (by omega) (by omega)
          rw [show 16 * (c / 16) + c % 16 = c by omega] at this
          rw [this]
        have hok : on_ok 999999 (A (c / 16) (c % 16)) := fun d hd => by have := (wf.2.1 _ _ (by omega) (by omega) d hd).2.1; omega
        unfold g_R_count_47 f_R_count_72
        simp only [if_neg (show ¬ (256 : Int32) ≤ nI c by rw [n_256]; exact nI_ge hc (by omega)), eR_r2 SR, Option.bind_some, l1, nI_1]
        by_cases z : A (c / 16) (c % 16) = none
        · rw [if_pos ((enR_far hok).mpr z), show cnt (A (c / 16) (c % 16)) = 0 from if_pos z]
          rfl
        · rw [if_neg (fun w => z ((enR_far hok).mp w)), show cnt (A (c / 16) (c % 16)) = 1 from if_neg z]
      · intro N a ha
        subst ha
        show g_R_count_47 F (f_R_count_47 F N) (o + 148) _ (nI 256) (hp K R n s t0) = _
        unfold g_R_count_47
        rw [if_pos (by rw [n_256]; exact Int32.le_refl _)]
        rfl
  by_cases c2 : x1 = (2 : Int32)
  · refine fin (nI (mc mk m)) ?_ (fun t ht => ?_)
    · unfold f_D_count
      simp only [if_neg c0, if_neg c1, if_pos c2, eD_gi SD, Option.bind_some, hD.2.1.2]
    · have w1 : up2 t (o + 148) 0 0 (o + 148) 1 = nI m := ht.fr0.1.1
      have w2 := R_marks (F := F) (n := n) (s := s) (by omega) SR w1 h16 ht.fr0.2.1
      unfold f_R_count
      simp only [eR_pi SR, Option.bind_some, if_neg c0, if_neg c1, if_pos c2, eR_is SR, w2, hm_and_some]
  by_cases c3 : x1 = (3 : Int32)
  · refine fin (bI hd) ?_ (fun t ht => ?_)
    · unfold f_D_count
      simp only [if_neg c0, if_neg c1, if_neg c2, if_pos c3, eD_gi SD, Option.bind_some, hD.2.2.2.1]
      cases hd <;> simp [bI]
    · have w1 : up2 t (o + 148) 0 0 (o + 148) 5 = bI hd := ht.fr0.2.2.2.1
      unfold f_R_count
      simp only [eR_pi SR, Option.bind_some, if_neg c0, if_neg c1, if_neg c2, if_pos c3, eR_gi SR, w1]
      cases hd <;> simp [bI]
  · refine fin (-2) ?_ (fun t ht => ?_)
    · unfold f_D_count
      simp only [if_neg c0, if_neg c1, if_neg c2, if_neg c3]
    · unfold f_R_count
      simp only [eR_pi SR, Option.bind_some, if_neg c0, if_neg c1, if_neg c2, if_neg c3]
end MC
