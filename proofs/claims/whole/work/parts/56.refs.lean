section RQ
variable {K : Nat → Option ((Nat ⊕ Nat) × Nat)} {R : Nat → Nat → Option Nat} {n s F o m ch : Nat} {I : Nat → Nat → Int32} {A LO LI TO TI : Nat → Nat → Option Nat} {row rk : Nat → Nat} {mk : Nat → Bool} {hd : Bool}
theorem D_ref_y {i j : Nat} (SD : shD K R o) (hD : RelD o I m A row rk mk LO LI TO TI ch true) (h16 : m ≤ 16) (hi : i < m) (hj : j < m) : f_D_refusalOf F o (nI i) (nI j) (hp K R n s I) = some (0, hp K R n s I) := by
  unfold f_D_refusalOf
  simp only [eD_gi SD, Option.bind_some, hD.2.2.2.1, bI_t, if_neg (show ¬ (1 : Int32) = 0 by decide), eD_r0 SD, eN_is SD.N1, N_has_y SD.N1 hD.1.1 h16 hi, N_has_y SD.N1 hD.1.1 h16 hj, hm_and_some]
theorem D_ref_n {x1 x2 : Int32} (SD : shD K R o) (hD : RelD o I m A row rk mk LO LI TO TI ch true) (h16 : m ≤ 16) (hb : (x1 < 0 ∨ nI m ≤ x1) ∨ (x2 < 0 ∨ nI m ≤ x2)) : f_D_refusalOf F o x1 x2 (hp K R n s I) = some (-2, hp K R n s I) := by
  unfold f_D_refusalOf
  rcases ix2 x1 h16 with z | ⟨i, hi, rfl⟩
  · simp only [eD_gi SD, Option.bind_some, hD.2.2.2.1, bI_t, if_neg (show ¬ (1 : Int32) = 0 by decide), eD_r0 SD, eN_is SD.N1, N_has_n SD.N1 hD.1.1 z, hm_and_some, if_true]
  · have z : x2 < 0 ∨ nI m ≤ x2 := by
      rcases hb with w | w
      · rcases w with w | w
        · exact absurd w (nI_pos (by omega))
        · exact absurd w (nI_ge hi (by omega))
      · exact w
    simp only [eD_gi SD, Option.bind_some, hD.2.2.2.1, bI_t, if_neg (show ¬ (1 : Int32) = 0 by decide), eD_r0 SD, eN_is SD.N1, N_has_y SD.N1 hD.1.1 h16 hi, N_has_n SD.N1 hD.1.1 z, hm_and_some, if_true]
theorem D_ref_t {x1 x2 : Int32} (SD : shD K R o) (hD : RelD o I m A row rk mk LO LI TO TI ch false) : f_D_refusalOf F o x1 x2 (hp K R n s I) = some (-4, hp K R n s I) := by
  unfold f_D_refusalOf
  simp only [eD_gi SD, Option.bind_some, hD.2.2.2.1, bI_f, if_true]
theorem ref_ask {x1 x2 : Int32} (SD : shD K R o) (SR : shR K R (o + 148)) (wf : WFs m A row rk mk LO LI TO TI hd) (hD : RelD o I m A row rk mk LO LI TO TI ch hd) (hR : RelR (o + 148) I m A row rk mk LO LI TO TI ch hd) (good : ∀ i j, i < m → j < m → hd = true → x1 = nI i → x2 = nI j → Cal K R n s o I (f_D_ask F o x1 x2) (f_R_ask F (o + 148) x1 x2)) : Cal K R n s o I (f_D_ask F o x1 x2) (f_R_ask F (o + 148) x1 x2) := by
  have h16 := wf.1.1
  cases hd with
  | false =>
    refine Cal.same (r := -4) wf hD hR (I1 := I) ?_ (fun _ _ _ => rfl) (fun t ht => ⟨up2 t (o + 148) 0 0, ?_, fun x hx => up2_ne hx, fun j hj _ _ => up2_nj hj⟩)
    · unfold f_D_ask
      simp only [eD_is SD, Option.bind_some, D_ref_t SD hD, hm_and_some, if_neg (show ¬ (-4 : Int32) = 0 by decide)]
    · have w1 : up2 t (o + 148) 0 0 (o + 148) 5 = bI false := ht.fr0.2.2.2.1
      unfold f_R_ask
      simp only [eR_pi SR, Option.bind_some, eR_gi SR, w1, bI_f, if_true]
  | true =>
    by_cases hb : (x1 < 0 ∨ nI m ≤ x1) ∨ (x2 < 0 ∨ nI m ≤ x2)
    · refine Cal.same (r := -2) wf hD hR (I1 := I) ?_ (fun _ _ _ => rfl) (fun t ht => ⟨up2 t (o + 148) 0 0, ?_, fun x hx => up2_ne hx, fun j hj _ _ => up2_nj hj⟩)
      · unfold f_D_ask
        simp only [eD_is SD, Option.bind_some, D_ref_n SD hD h16 hb, hm_and_some, if_neg (show ¬ (-2 : Int32) = 0 by decide)]
      · have w1 : up2 t (o + 148) 0 0 (o + 148) 5 = bI true := ht.fr0.2.2.2.1
        have w2 : up2 t (o + 148) 0 0 (o + 148) 1 = nI m := ht.fr0.1.1
        unfold f_R_ask
        simp only [eR_pi SR, Option.bind_some, eR_gi SR, w1, bI_t, if_neg (show ¬ (1 : Int32) = 0 by decide), eR_is SR, R_noPair_n SR w2 h16 hb, hm_and_some]
    · rcases ix2 x1 h16 with z1 | ⟨i, hi, e1⟩
      · exact absurd (Or.inl z1) hb
      · rcases ix2 x2 h16 with z2 | ⟨j, hj, e2⟩
        · exact absurd (Or.inr z2) hb
        · exact good i j hi hj rfl e1 e2
theorem ref_meeting {x1 x2 : Int32} (SD : shD K R o) (SR : shR K R (o + 148)) (wf : WFs m A row rk mk LO LI TO TI hd) (hD : RelD o I m A row rk mk LO LI TO TI ch hd) (hR : RelR (o + 148) I m A row rk mk LO LI TO TI ch hd) (good : ∀ i j, i < m → j < m → hd = true → x1 = nI i → x2 = nI j → Cal K R n s o I (f_D_meeting F o x1 x2) (f_R_meeting F (o + 148) x1 x2)) : Cal K R n s o I (f_D_meeting F o x1 x2) (f_R_meeting F (o + 148) x1 x2) := by
  have h16 := wf.1.1
  cases hd with
  | false =>
    refine Cal.same (r := -4) wf hD hR (I1 := I) ?_ (fun _ _ _ => rfl) (fun t ht => ⟨up2 t (o + 148) 0 0, ?_, fun x hx => up2_ne hx, fun j hj _ _ => up2_nj hj⟩)
    · unfold f_D_meeting
      simp only [eD_is SD, Option.bind_some, D_ref_t SD hD, hm_and_some, if_neg (show ¬ (-4 : Int32) = 0 by decide)]
    · have w1 : up2 t (o + 148) 0 0 (o + 148) 5 = bI false := ht.fr0.2.2.2.1
      unfold f_R_meeting
      simp only [eR_pi SR, Option.bind_some, eR_gi SR, w1, bI_f, if_true]
  | true =>
    by_cases hb : (x1 < 0 ∨ nI m ≤ x1) ∨ (x2 < 0 ∨ nI m ≤ x2)
    · refine Cal.same (r := -2) wf hD hR (I1 := I) ?_ (fun _ _ _ => rfl) (fun t ht => ⟨up2 t (o + 148) 0 0, ?_, fun x hx => up2_ne hx, fun j hj _ _ => up2_nj hj⟩)
      · unfold f_D_meeting
        simp only [eD_is SD, Option.bind_some, D_ref_n SD hD h16 hb, hm_and_some, if_neg (show ¬ (-2 : Int32) = 0 by decide)]
      · have w1 : up2 t (o + 148) 0 0 (o + 148) 5 = bI true := ht.fr0.2.2.2.1
        have w2 : up2 t (o + 148) 0 0 (o + 148) 1 = nI m := ht.fr0.1.1
        unfold f_R_meeting
        simp only [eR_pi SR, Option.bind_some, eR_gi SR, w1, bI_t, if_neg (show ¬ (1 : Int32) = 0 by decide), eR_is SR, R_noPair_n SR w2 h16 hb, hm_and_some]
    · rcases ix2 x1 h16 with z1 | ⟨i, hi, e1⟩
      · exact absurd (Or.inl z1) hb
      · rcases ix2 x2 h16 with z2 | ⟨j, hj, e2⟩
        · exact absurd (Or.inr z2) hb
        · exact good i j hi hj rfl e1 e2
theorem ref_climb {x1 x2 : Int32} (SD : shD K R o) (SR : shR K R (o + 148)) (wf : WFs m A row rk mk LO LI TO TI hd) (hD : RelD o I m A row rk mk LO LI TO TI ch hd) (hR : RelR (o + 148) I m A row rk mk LO LI TO TI ch hd) (good : ∀ i j, i < m → j < m → hd = true → x1 = nI i → x2 = nI j → Cal K R n s o I (f_D_climb F o x1 x2) (f_R_climb F (o + 148) x1 x2)) : Cal K R n s o I (f_D_climb F o x1 x2) (f_R_climb F (o + 148) x1 x2) := by
  have h16 := wf.1.1
  cases hd with
  | false =>
    refine Cal.same (r := -4) wf hD hR (I1 := I) ?_ (fun _ _ _ => rfl) (fun t ht => ⟨up2 t (o + 148) 0 0, ?_, fun x hx => up2_ne hx, fun j hj _ _ => up2_nj hj⟩)
    · unfold f_D_climb
      simp only [eD_is SD, Option.bind_some, D_ref_t SD hD, hm_and_some, if_neg (show ¬ (-4 : Int32) = 0 by decide)]
    · have w1 : up2 t (o + 148) 0 0 (o + 148) 5 = bI false := ht.fr0.2.2.2.1
      unfold f_R_climb
      simp only [eR_pi SR, Option.bind_some, eR_gi SR, w1, bI_f, if_true]
  | true =>
    by_cases hb : (x1 < 0 ∨ nI m ≤ x1) ∨ (x2 < 0 ∨ nI m ≤ x2)
    · refine Cal.same (r := -2) wf hD hR (I1 := I) ?_ (fun _ _ _ => rfl) (fun t ht => ⟨up2 t (o + 148) 0 0, ?_, fun x hx => up2_ne hx, fun j hj _ _ => up2_nj hj⟩)
      · unfold f_D_climb
        simp only [eD_is SD, Option.bind_some, D_ref_n SD hD h16 hb, hm_and_some, if_neg (show ¬ (-2 : Int32) = 0 by decide)]
      · have w1 : up2 t (o + 148) 0 0 (o + 148) 5 = bI true := ht.fr0.2.2.2.1
        have w2 : up2 t (o + 148) 0 0 (o + 148) 1 = nI m := ht.fr0.1.1
        unfold f_R_climb
        simp only [eR_pi SR, Option.bind_some, eR_gi SR, w1, bI_t, if_neg (show ¬ (1 : Int32) = 0 by decide), eR_is SR, R_noPair_n SR w2 h16 hb, hm_and_some]
    · rcases ix2 x1 h16 with z1 | ⟨i, hi, e1⟩
      · exact absurd (Or.inl z1) hb
      · rcases ix2 x2 h16 with z2 | ⟨j, hj, e2⟩
        · exact absurd (Or.inr z2) hb
        · exact good i j hi hj rfl e1 e2
theorem ref_way {x1 x2 x3 : Int32} (SD : shD K R o) (SR : shR K R (o + 148)) (wf : WFs m A row rk mk LO LI TO TI hd) (hD : RelD o I m A row rk mk LO LI TO TI ch hd) (hR : RelR (o + 148) I m A row rk mk LO LI TO TI ch hd) (good : ∀ i j, i < m → j < m → hd = true → x1 = nI i → x2 = nI j → Cal K R n s o I (f_D_way F o x1 x2 x3) (f_R_way F (o + 148) x1 x2 x3)) : Cal K R n s o I (f_D_way F o x1 x2 x3) (f_R_way F (o + 148) x1 x2 x3) := by
  have h16 := wf.1.1
  cases hd with
  | false =>
    refine Cal.same (r := -4) wf hD hR (I1 := I) ?_ (fun _ _ _ => rfl) (fun t ht => ⟨up2 t (o + 148) 0 0, ?_, fun x hx => up2_ne hx, fun j hj _ _ => up2_nj hj⟩)
    · unfold f_D_way
      simp only [eD_is SD, Option.bind_some, D_ref_t SD hD, hm_and_some, if_neg (show ¬ (-4 : Int32) = 0 by decide)]
    · have w1 : up2 t (o + 148) 0 0 (o + 148) 5 = bI false := ht.fr0.2.2.2.1
      unfold f_R_way
      simp only [eR_pi SR, Option.bind_some, eR_gi SR, w1, bI_f, if_true]
  | true =>
    by_cases hb : (x1 < 0 ∨ nI m ≤ x1) ∨ (x2 < 0 ∨ nI m ≤ x2)
    · refine Cal.same (r := -2) wf hD hR (I1 := I) ?_ (fun _ _ _ => rfl) (fun t ht => ⟨up2 t (o + 148) 0 0, ?_, fun x hx => up2_ne hx, fun j hj _ _ => up2_nj hj⟩)
      · unfold f_D_way
        simp only [eD_is SD, Option.bind_some, D_ref_n SD hD h16 hb, hm_and_some, if_neg (show ¬ (-2 : Int32) = 0 by decide)]
      · have w1 : up2 t (o + 148) 0 0 (o + 148) 5 = bI true := ht.fr0.2.2.2.1
        have w2 : up2 t (o + 148) 0 0 (o + 148) 1 = nI m := ht.fr0.1.1
        unfold f_R_way
        simp only [eR_pi SR, Option.bind_some, eR_gi SR, w1, bI_t, if_neg (show ¬ (1 : Int32) = 0 by decide), eR_is SR, R_noPair_n SR w2 h16 hb, hm_and_some]
    · rcases ix2 x1 h16 with z1 | ⟨i, hi, e1⟩
      · exact absurd (Or.inl z1) hb
      · rcases ix2 x2 h16 with z2 | ⟨j, hj, e2⟩
        · exact absurd (Or.inr z2) hb
        · exact good i j hi hj rfl e1 e2
theorem ref_least {x1 x2 : Int32} (SD : shD K R o) (SR : shR K R (o + 148)) (wf : WFs m A row rk mk LO LI TO TI hd) (hD : RelD o I m A row rk mk LO LI TO TI ch hd) (hR : RelR (o + 148) I m A row rk mk LO LI TO TI ch hd) (good : ∀ i j, i < m → j < m → hd = true → x1 = nI i → x2 = nI j → Cal K R n s o I (f_D_least F o x1 x2) (f_R_least F (o + 148) x1 x2)) : Cal K R n s o I (f_D_least F o x1 x2) (f_R_least F (o + 148) x1 x2) := by
  have h16 := wf.1.1
  cases hd with
  | false =>
    refine Cal.same (r := -4) wf hD hR (I1 := I) ?_ (fun _ _ _ => rfl) (fun t ht => ⟨up2 t (o + 148) 0 0, ?_, fun x hx => up2_ne hx, fun j hj _ _ => up2_nj hj⟩)
    · unfold f_D_least
      simp only [eD_is SD, Option.bind_some, D_ref_t SD hD, hm_and_some, if_neg (show ¬ (-4 : Int32) = 0 by decide)]
    · have w1 : up2 t (o + 148) 0 0 (o + 148) 5 = bI false := ht.fr0.2.2.2.1
      unfold f_R_least
      simp only [eR_pi SR, Option.bind_some, eR_gi SR, w1, bI_f, if_true]
  | true =>
    by_cases hb : (x1 < 0 ∨ nI m ≤ x1) ∨ (x2 < 0 ∨ nI m ≤ x2)
    · refine Cal.same (r := -2) wf hD hR (I1 := I) ?_ (fun _ _ _ => rfl) (fun t ht => ⟨up2 t (o + 148) 0 0, ?_, fun x hx => up2_ne hx, fun j hj _ _ => up2_nj hj⟩)
      · unfold f_D_least
        simp only [eD_is SD, Option.bind_some, D_ref_n SD hD h16 hb, hm_and_some, if_neg (show ¬ (-2 : Int32) = 0 by decide)]
      · have w1 : up2 t (o + 148) 0 0 (o + 148) 5 = bI true := ht.fr0.2.2.2.1
        have w2 : up2 t (o + 148) 0 0 (o + 148) 1 = nI m := ht.fr0.1.1
        unfold f_R_least
        simp only [eR_pi SR, Option.bind_some, eR_gi SR, w1, bI_t, if_neg (show ¬ (1 : Int32) = 0 by decide), eR_is SR, R_noPair_n SR w2 h16 hb, hm_and_some]
    · rcases ix2 x1 h16 with z1 | ⟨i, hi, e1⟩
      · exact absurd (Or.inl z1) hb
      · rcases ix2 x2 h16 with z2 | ⟨j, hj, e2⟩
        · exact absurd (Or.inr z2) hb
        · exact good i j hi hj rfl e1 e2
theorem ref_most {x1 x2 : Int32} (SD : shD K R o) (SR : shR K R (o + 148)) (wf : WFs m A row rk mk LO LI TO TI hd) (hD : RelD o I m A row rk mk LO LI TO TI ch hd) (hR : RelR (o + 148) I m A row rk mk LO LI TO TI ch hd) (good : ∀ i j, i < m → j < m → hd = true → x1 = nI i → x2 = nI j → Cal K R n s o I (f_D_most F o x1 x2) (f_R_most F (o + 148) x1 x2)) : Cal K R n s o I (f_D_most F o x1 x2) (f_R_most F (o + 148) x1 x2) := by
  have h16 := wf.1.1
  cases hd with
  | false =>
    refine Cal.same (r := -4) wf hD hR (I1 := I) ?_ (fun _ _ _ => rfl) (fun t ht => ⟨up2 t (o + 148) 0 0, ?_, fun x hx => up2_ne hx, fun j hj _ _ => up2_nj hj⟩)
    · unfold f_D_most
      simp only [eD_is SD, Option.bind_some, D_ref_t SD hD, hm_and_some, if_neg (show ¬ (-4 : Int32) = 0 by decide)]
    · have w1 : up2 t (o + 148) 0 0 (o + 148) 5 = bI false := ht.fr0.2.2.2.1
      unfold f_R_most
      simp only [eR_pi SR, Option.bind_some, eR_gi SR, w1, bI_f, if_true]
  | true =>
    by_cases hb : (x1 < 0 ∨ nI m ≤ x1) ∨ (x2 < 0 ∨ nI m ≤ x2)
    · refine Cal.same (r := -2) wf hD hR (I1 := I) ?_ (fun _ _ _ => rfl) (fun t ht => ⟨up2 t (o + 148) 0 0, ?_, fun x hx => up2_ne hx, fun j hj _ _ => up2_nj hj⟩)
      · unfold f_D_most
        simp only [eD_is SD, Option.bind_some, D_ref_n SD hD h16 hb, hm_and_some, if_neg (show ¬ (-2 : Int32) = 0 by decide)]
      · have w1 : up2 t (o + 148) 0 0 (o + 148) 5 = bI true := ht.fr0.2.2.2.1
        have w2 : up2 t (o + 148) 0 0 (o + 148) 1 = nI m := ht.fr0.1.1
        unfold f_R_most
        simp only [eR_pi SR, Option.bind_some, eR_gi SR, w1, bI_t, if_neg (show ¬ (1 : Int32) = 0 by decide), eR_is SR, R_noPair_n SR w2 h16 hb, hm_and_some]
    · rcases ix2 x1 h16 with z1 | ⟨i, hi, e1⟩
      · exact absurd (Or.inl z1) hb
      · rcases ix2 x2 h16 with z2 | ⟨j, hj, e2⟩
        · exact absurd (Or.inr z2) hb
        · exact good i j hi hj rfl e1 e2
end RQ
