/-! THE CALLS ask, meeting, check, climb, most -/
theorem up2_up2 (I : Nat → Nat → Int32) (a j : Nat) (x y : Int32) : up2 (up2 I a j x) a j y = up2 I a j y := by
  funext b i
  rw [up2_eq, up2_eq, up2_eq]
  by_cases e : b = a ∧ i = j
  · rw [if_pos e, if_pos e]
  · rw [if_neg e, if_neg e, if_neg e]
theorem nI_sub2 (k : Nat) : nI (k + 2) - 2 = nI k := by
  have h : (2 : Int32) = nI 2 := by decide +kernel
  rw [h, ← nI_add, Int32.add_sub_cancel]
theorem enR_le {z : Option Nat} {e : Nat} (hz : on_ok 999999 z) (he : e ≤ 999999) : enR z ≤ nI e ↔ ¬ on_lt (some e) z = true := by
  cases z with
  | none => simp only [enR]; rw [nI_leI (by omega) (by omega)]; simp [on_lt]; omega
  | some c => have := hz c rfl; simp only [enR]; rw [nI_leI (by omega) (by omega)]; simp [on_lt]
theorem enR_inj {x y : Option Nat} (hx : on_ok 999999 x) (hy : on_ok 999999 y) : enR x = enR y ↔ x = y := by
  refine ⟨fun q => ?_, fun q => by rw [q]⟩
  cases x with
  | none =>
    cases y with
    | none => rfl
    | some b =>
      have := hy b rfl
      have q2 : nI 1000000 = nI b := q
      rw [nI_eq (by omega) (by omega)] at q2
      omega
  | some a =>
    have := hx a rfl
    cases y with
    | none =>
      have q2 : nI a = nI 1000000 := q
      rw [nI_eq (by omega) (by omega)] at q2
      omega
    | some b =>
      have := hy b rfl
      have q2 : nI a = nI b := q
      rw [nI_eq (by omega) (by omega)] at q2
      rw [q2]
def bst (TO TI : Nat → Nat → Option Nat) (a b : Nat) (x : Option Nat) : Option Nat := match x with
  | none => none
  | some h => on_add (TO a h) (TI b h)
def mt (TO TI : Nat → Nat → Option Nat) (row : Nat → Nat) (a b : Nat) : Nat → Option Nat
  | 0 => none
  | i + 1 => if on_lt (on_add (TO a (row i)) (TI b (row i))) (bst TO TI a b (mt TO TI row a b i)) = true then some (row i) else mt TO TI row a b i
section MT
variable {K : Nat → Option ((Nat ⊕ Nat) × Nat)} {R : Nat → Nat → Option Nat} {n s F o q m ch : Nat} {I : Nat → Nat → Int32} {A LO LI TO TI : Nat → Nat → Option Nat} {row rk : Nat → Nat} {mk : Nat → Bool}
theorem mt_c {a b : Nat} (hp0 : prm m row rk) : ∀ i, i ≤ m → mt TO TI row a b i = none ∨ ∃ h, h < m ∧ mt TO TI row a b i = some h ∧ on_add (TO a h) (TI b h) ≠ none
  | 0, _ => Or.inl rfl
  | i + 1, hi => by
    by_cases hc : on_lt (on_add (TO a (row i)) (TI b (row i))) (bst TO TI a b (mt TO TI row a b i)) = true
    · refine Or.inr ⟨row i, (hp0.2.1 i (by omega)).1, if_pos hc, fun z => ?_⟩
      rw [z] at hc
      cases hb : bst TO TI a b (mt TO TI row a b i) <;> simp [hb, on_lt] at hc
    · rw [show mt TO TI row a b (i + 1) = mt TO TI row a b i from if_neg hc]
      exact mt_c hp0 i (by omega)
theorem bst_ok {a b i : Nat} (hp0 : prm m row rk) (ha : a < m) (hb : b < m) (hi : i ≤ m) (hT : ∀ x y, x < m → y < m → on_ok 90000 (TO x y) ∧ on_ok 90000 (TI x y)) : on_ok 180000 (bst TO TI a b (mt TO TI row a b i)) := by
  rcases mt_c (TO := TO) (TI := TI) (a := a) (b := b) hp0 i hi with h | ⟨h, h1, h2, _⟩
  · rw [h]; intro d hd; cases hd
  · rw [h2]; exact on_ok_add (hT a h ha h1).1 (hT b h hb h1).2
theorem D_meet {a b : Nat} (hF : 20 ≤ F) (SD : shD K R o) (wf : WFs m A row rk mk LO LI TO TI true) (hD : RelD o I m A row rk mk LO LI TO TI ch true) (ha : a < m) (hb : b < m) : f_D_meetingOf F o (nI a) (nI b) (hp K R n s I) = some (enD (mt TO TI row a b m), hp K R n s I) := by
  have h16 := wf.1.1
  have hT := wf.2.2.2.2 rfl
  have g2 := (hD.2.2.2.2 rfl).2.1
  unfold f_D_meetingOf
  rw [← nI_0]
  refine hl_up (fun N i (z : Option Nat) => f_D_meetingOf_8 F N o (nI a) (nI b) (enD (bst TO TI a b z)) (enD z) (nI i) (hp K R n s I)) (fun z => z = some (enD (mt TO TI row a b m), hp K R n s I)) (fun i z => z = mt TO TI row a b i) m ?_ ?_ F 0 none (by omega) (by omega) rfl
  · intro N i z hi hz
    subst hz
    have hri := (wf.1.2.1 i hi).1
    refine Or.inr ⟨_, rfl, ?_⟩
    show g_D_meetingOf_8 F (f_D_meetingOf_8 F N) o (nI a) (nI b) (enD (bst TO TI a b (mt TO TI row a b i))) (enD (mt TO TI row a b i)) (nI i) (hp K R n s I) = _
    have x1 : hm_ild (hp K R n s I) (o + 1 + 18) (nI i) = some (nI (row i)) := by rw [hp_ild SD.N1.K18 (by omega) (by omega), hD.1.2.1 i hi]
    have x2 : hm_ild (hp K R n s I) (o + 38 + 18 + 1 + a) (nI (row i)) = some (enD (TO a (row i))) := by rw [gd_ild SD.L38.g18 (by omega) (by omega), (g2 a (row i) ha hri).1]
    have x3 : hm_ild (hp K R n s I) (o + 73 + 18 + 1 + b) (nI (row i)) = some (enD (TI b (row i))) := by rw [gd_ild SD.L73.g18 (by omega) (by omega), (g2 b (row i) hb hri).2]
    have o1 := (hT a (row i) ha hri).1
    have o2 := (hT b (row i) hb hri).2
    have x4 := D_sum (F := F) (h := hp K R n s I) (on_ok_mono o1 (show 90000 ≤ 1000000000 by omega)) (on_ok_mono o2 (show 90000 ≤ 1000000000 by omega))
    have x5 := D_isLess (F := F) (h := hp K R n s I) (on_ok_mono (on_ok_add o1 o2) (show 90000 + 90000 ≤ 2000000000 by omega)) (on_ok_mono (bst_ok wf.1 ha hb (show i ≤ m by omega) hT) (show 180000 ≤ 2000000000 by omega))
    unfold g_D_meetingOf_8 f_D_meetingOf_77
    simp only [eD_r0 SD, Option.bind_some, eN_gi SD.N1, hD.1.1, if_neg (nI_ge hi (show m < 2 ^ 31 by omega)), eN_r3 SD.N1, x1, eD_r2 SD, eL_r1 SD.L38, gd_ald SD.L38.g18 (show a < 16 by omega), x2, eD_r3 SD, eL_r1 SD.L73, gd_ald SD.L73.g18 (show b < 16 by omega), x3, x4, hm_and_some, x5, nI_1]
    by_cases hc : on_lt (on_add (TO a (row i)) (TI b (row i))) (bst TO TI a b (mt TO TI row a b i)) = true
    · rw [if_pos hc, if_neg (show ¬ (1 : Int32) = 0 by decide), show mt TO TI row a b (i + 1) = some (row i) from if_pos hc]
      rfl
    · rw [if_neg hc, if_pos rfl, show mt TO TI row a b (i + 1) = mt TO TI row a b i from if_neg hc]
  · intro N z hz
    subst hz
    show g_D_meetingOf_8 F (f_D_meetingOf_8 F N) o (nI a) (nI b) _ _ (nI m) (hp K R n s I) = _
    unfold g_D_meetingOf_8
    simp only [eD_r0 SD, Option.bind_some, eN_gi SD.N1, hD.1.1, if_pos (Int32.le_refl (nI m))]
theorem R_meet {a b : Nat} (hF : 20 ≤ F) (SR : shR K R q) (wf : WFs m A row rk mk LO LI TO TI true) (hR : RelR q I m A row rk mk LO LI TO TI ch true) (ha : a < m) (hb : b < m) : f_R_meet F q (nI a) (nI b) (hp K R n s I) = some (enD (mt TO TI row a b m), hp K R n s (up2 I q 24 (enR (bst TO TI a b (mt TO TI row a b m))))) := by
  have h16 := wf.1.1
  have hT := wf.2.2.2.2 rfl
  have g2 := (hR.2.2.2.2 rfl).2.1
  unfold f_R_meet
  rw [eR_pi SR, Option.bind_some, ← nI_0, n_far]
  refine hl_up (fun N i (z : Option Nat) => f_R_meet_11 F N q (nI a) (nI b) (enD z) (nI i) (hp K R n s (up2 I q 24 (enR (bst TO TI a b z))))) (fun z => z = some (enD (mt TO TI row a b m), hp K R n s (up2 I q 24 (enR (bst TO TI a b (mt TO TI row a b m)))))) (fun i z => z = mt TO TI row a b i) m ?_ ?_ F 0 none (by omega) (by omega) rfl
  · intro N i z hi hz
    subst hz
    have hri := (wf.1.2.1 i hi).1
    have hbk := bst_ok wf.1 ha hb (show i ≤ m by omega) hT
    refine Or.inr ⟨_, rfl, ?_⟩
    generalize hI1 : up2 I q 24 (enR (bst TO TI a b (mt TO TI row a b i))) = I1
    have fr : ∀ x, x ≠ q → I1 x = I x := fun x hx => by rw [← hI1, up2_ne hx]
    have w1 : I1 q 1 = nI m := by rw [← hI1, up2_nj (by omega)]; exact hR.1.1
    have w2 : I1 q 24 = enR (bst TO TI a b (mt TO TI row a b i)) := by rw [← hI1, up2_at]
    show g_R_meet_11 F (f_R_meet_11 F N) q (nI a) (nI b) (enD (mt TO TI row a b i)) (nI i) (hp K R n s I1) = _
    have x1 : hm_ild (hp K R n s I1) (q + 2) (nI i) = some (nI (row i)) := by rw [hp_ild SR.K2 (by omega) (by omega), fr _ (by omega), hR.1.2.2 i hi]
    have x2 : hm_ild (hp K R n s I1) (q + 7) ((16 : Int32) * nI a + nI (row i)) = some (enS (TO a (row i))) := by rw [ix16, hp_ild SR.K7 (by omega) (by omega), fr _ (by omega), (g2 a (row i) ha hri).1]
    have x3 : hm_ild (hp K R n s I1) (q + 7) ((256 : Int32) + (16 : Int32) * nI b + nI (row i)) = some (enS (TI b (row i))) := by
      rw [n_256, n_16, pk_mul, nI_add, nI_add, show 256 + 16 * b + row i = 256 + (16 * b + row i) by omega, hp_ild SR.K7 (by omega) (by omega), fr _ (by omega), (g2 b (row i) hb hri).2]
    have o1 := (hT a (row i) ha hri).1
    have o2 := (hT b (row i) hb hri).2
    unfold g_R_meet_11 f_R_meet_99
    simp only [eR_gi SR, Option.bind_some, w1, if_neg (nI_ge hi (show m < 2 ^ 31 by omega)), eR_r3 SR, x1, eR_r9 SR, x2, x3, w2, nI_1]
    have keep : mt TO TI row a b (i + 1) = mt TO TI row a b i → f_R_meet_11 F N q (nI a) (nI b) (enD (mt TO TI row a b i)) (nI (i + 1)) (hp K R n s I1) = f_R_meet_11 F N q (nI a) (nI b) (enD (mt TO TI row a b (i + 1))) (nI (i + 1)) (hp K R n s (up2 I q 24 (enR (bst TO TI a b (mt TO TI row a b (i + 1)))))) := fun e => by rw [e, hI1]
    cases hx : TO a (row i) with
    | none =>
      rw [if_pos (show enS none ≤ 0 from Int32.le_refl _)]
      exact keep (if_neg (by rw [hx]; cases bst TO TI a b (mt TO TI row a b i) <;> simp [on_add, on_lt]))
    | some c =>
      have hc := o1 c hx
      rw [if_neg (show ¬ enS (some c) ≤ 0 from nI_nle (by omega) (by omega))]
      cases hy : TI b (row i) with
      | none =>
        rw [if_pos (show enS none ≤ 0 from Int32.le_refl _)]
        exact keep (if_neg (by rw [hx, hy]; cases bst TO TI a b (mt TO TI row a b i) <;> simp [on_add, on_lt]))
      | some d =>
        have hd := o2 d hy
        rw [if_neg (show ¬ enS (some d) ≤ 0 from nI_nle (by omega) (by omega))]
        have es : enS (some c) + enS (some d) - 2 = nI (c + d) := by
          show nI (c + 1) + nI (d + 1) - 2 = _
          rw [nI_add, show c + 1 + (d + 1) = c + d + 2 by omega, nI_sub2]
        rw [es]
        have hle := enR_le (e := c + d) (on_ok_mono hbk (show 180000 ≤ 999999 by omega)) (by omega)
        by_cases hl : on_lt (some (c + d)) (bst TO TI a b (mt TO TI row a b i)) = true
        · rw [if_neg (fun z => (hle.mp z) hl)]
          have em : mt TO TI row a b (i + 1) = some (row i) := if_pos (by rw [hx, hy]; exact hl)
          simp only [eR_pi SR, Option.bind_some]
          rw [em, ← hI1, up2_up2]
          show f_R_meet_11 F N q (nI a) (nI b) (nI (row i)) (nI (i + 1)) (hp K R n s (up2 I q 24 (nI (c + d)))) = f_R_meet_11 F N q (nI a) (nI b) (nI (row i)) (nI (i + 1)) (hp K R n s (up2 I q 24 (enR (on_add (TO a (row i)) (TI b (row i))))))
          rw [hx, hy]
          rfl
        · rw [if_pos (hle.mpr hl)]
          exact keep (if_neg (by rw [hx, hy]; exact hl))
  · intro N z hz
    subst hz
    generalize hI1 : up2 I q 24 (enR (bst TO TI a b (mt TO TI row a b m))) = I1
    have w1 : I1 q 1 = nI m := by rw [← hI1, up2_nj (by omega)]; exact hR.1.1
    show g_R_meet_11 F (f_R_meet_11 F N) q (nI a) (nI b) _ (nI m) (hp K R n s I1) = _
    unfold g_R_meet_11
    simp only [eR_gi SR, Option.bind_some, w1, if_pos (Int32.le_refl (nI m))]
theorem D_asked {a b : Nat} (hF : 20 ≤ F) (SD : shD K R o) (wf : WFs m A row rk mk LO LI TO TI true) (hD : RelD o I m A row rk mk LO LI TO TI ch true) (ha : a < m) (hb : b < m) : f_D_askedOf F o (nI a) (nI b) (hp K R n s I) = some (enD (bst TO TI a b (mt TO TI row a b m)), hp K R n s I) := by
  have h16 := wf.1.1
  have hT := wf.2.2.2.2 rfl
  have g2 := (hD.2.2.2.2 rfl).2.1
  unfold f_D_askedOf
  simp only [eD_is SD, Option.bind_some, D_meet hF SD wf hD ha hb, hm_and_some]
  rcases mt_c (TO := TO) (TI := TI) (a := a) (b := b) wf.1 m (Nat.le_refl _) with h | ⟨h, h1, h2, h3⟩
  · rw [h, if_pos (show enD none = -1 from rfl)]; rfl
  · have x2 : hm_ild (hp K R n s I) (o + 38 + 18 + 1 + a) (nI h) = some (enD (TO a h)) := by rw [gd_ild SD.L38.g18 (by omega) (by omega), (g2 a h ha h1).1]
    have x3 : hm_ild (hp K R n s I) (o + 73 + 18 + 1 + b) (nI h) = some (enD (TI b h)) := by rw [gd_ild SD.L73.g18 (by omega) (by omega), (g2 b h hb h1).2]
    have x4 := D_sum (F := F) (h := hp K R n s I) (on_ok_mono (hT a h ha h1).1 (show 90000 ≤ 1000000000 by omega)) (on_ok_mono (hT b h hb h1).2 (show 90000 ≤ 1000000000 by omega))
    rw [h2, if_neg (show ¬ enD (some h) = -1 from enD_ne (by omega))]
    show (hm_gr 3 9 2 (hp K R n s I) o).bind _ = _
    simp only [eD_r2 SD, Option.bind_some, eL_r1 SD.L38, gd_ald SD.L38.g18 (show a < 16 by omega), show enD (some h) = nI h from rfl, x2, eD_r3 SD, eL_r1 SD.L73, gd_ald SD.L73.g18 (show b < 16 by omega), x3, x4, hm_and_some]
    rfl
theorem mt_sgn {a b : Nat} (hp0 : prm m row rk) {i : Nat} (hi : i ≤ m) : (0 ≤ enD (mt TO TI row a b i) → enR (bst TO TI a b (mt TO TI row a b i)) = enD (bst TO TI a b (mt TO TI row a b i))) ∧ (¬ 0 ≤ enD (mt TO TI row a b i) → bst TO TI a b (mt TO TI row a b i) = none) := by
  have h16 := hp0.1
  rcases mt_c (TO := TO) (TI := TI) (a := a) (b := b) hp0 i hi with h | ⟨h, h1, h2, h3⟩
  · rw [h]
    exact ⟨fun z => absurd z (by decide), fun _ => rfl⟩
  · rw [h2]
    refine ⟨fun _ => ?_, fun z => absurd (show 0 ≤ nI h from nI_pos' (by omega)) z⟩
    show enR (on_add (TO a h) (TI b h)) = enD (on_add (TO a h) (TI b h))
    cases hc : on_add (TO a h) (TI b h) with
    | none => exact absurd hc h3
    | some d => rfl
theorem call_ask {x1 x2 : Int32} (hF : 5000 ≤ F) (SD : shD K R o) (SR : shR K R (o + 148)) (g : SG) (h : Sim o I g) : Cal K R n s o I (f_D_ask F o x1 x2) (f_R_ask F (o + 148) x1 x2) := by
  obtain ⟨m, A, row, rk, mk, LO, LI, TO, TI, ch, hd⟩ := g
  obtain ⟨wf, hD, hR⟩ : WFs m A row rk mk LO LI TO TI hd ∧ RelD o I m A row rk mk LO LI TO TI ch hd ∧ RelR (o + 148) I m A row rk mk LO LI TO TI ch hd := h
  have h16 := wf.1.1
  refine ref_ask SD SR wf hD hR (fun i j hi hj hh e1 e2 => ?_)
  subst hh e1 e2
  refine Cal.same (r := enD (bst TO TI i j (mt TO TI row i j m))) wf hD hR (I1 := I) ?_ (fun _ _ _ => rfl) (fun t ht => ⟨up2 (up2 t (o + 148) 0 0) (o + 148) 24 (enR (bst TO TI i j (mt TO TI row i j m))), ?_, fun x hx => by rw [up2_ne hx, up2_ne hx], fun j hj _ hk => by rw [up2_nj hk, up2_nj hj]⟩)
  · unfold f_D_ask
    simp only [eD_is SD, Option.bind_some, D_ref_y SD hD h16 hi hj, hm_and_some, if_true, D_asked (show 20 ≤ F by omega) SD wf hD hi hj]
  · have w1 : up2 t (o + 148) 0 0 (o + 148) 5 = bI true := ht.fr0.2.2.2.1
    have w2 : up2 t (o + 148) 0 0 (o + 148) 1 = nI m := ht.fr0.1.1
    have w3 := R_meet (F := F) (n := n) (s := s) (by omega) SR wf ht.fr0 hi hj
    unfold f_R_ask
    simp only [eR_pi SR, Option.bind_some, eR_gi SR, w1, bI_t, if_neg (show ¬ (1 : Int32) = 0 by decide), eR_is SR, R_noPair_y SR w2 h16 hi hj, hm_and_some, if_true, w3, up2_at]
    have sg := mt_sgn (TO := TO) (TI := TI) (a := i) (b := j) wf.1 (Nat.le_refl m)
    by_cases z : 0 ≤ enD (mt TO TI row i j m)
    · rw [if_pos z, sg.1 z]
    · rw [if_neg z, sg.2 z]; rfl
theorem call_meeting {x1 x2 : Int32} (hF : 5000 ≤ F) (SD : shD K R o) (SR : shR K R (o + 148)) (g : SG) (h : Sim o I g) : Cal K R n s o I (f_D_meeting F o x1 x2) (f_R_meeting F (o + 148) x1 x2) := by
  obtain ⟨m, A, row, rk, mk, LO, LI, TO, TI, ch, hd⟩ := g
  obtain ⟨wf, hD, hR⟩ : WFs m A row rk mk LO LI TO TI hd ∧ RelD o I m A row rk mk LO LI TO TI ch hd ∧ RelR (o + 148) I m A row rk mk LO LI TO TI ch hd := h
  have h16 := wf.1.1
  refine ref_meeting SD SR wf hD hR (fun i j hi hj hh e1 e2 => ?_)
  subst hh e1 e2
  refine Cal.same (r := enD (mt TO TI row i j m)) wf hD hR (I1 := I) ?_ (fun _ _ _ => rfl) (fun t ht => ⟨up2 (up2 t (o + 148) 0 0) (o + 148) 24 (enR (bst TO TI i j (mt TO TI row i j m))), ?_, fun x hx => by rw [up2_ne hx, up2_ne hx], fun j hj _ hk => by rw [up2_nj hk, up2_nj hj]⟩)
  · unfold f_D_meeting
    simp only [eD_is SD, Option.bind_some, D_ref_y SD hD h16 hi hj, hm_and_some, if_true, D_meet (show 20 ≤ F by omega) SD wf hD hi hj]
  · have w1 : up2 t (o + 148) 0 0 (o + 148) 5 = bI true := ht.fr0.2.2.2.1
    have w2 : up2 t (o + 148) 0 0 (o + 148) 1 = nI m := ht.fr0.1.1
    have w3 := R_meet (F := F) (n := n) (s := s) (by omega) SR wf ht.fr0 hi hj
    unfold f_R_meeting
    simp only [eR_pi SR, Option.bind_some, eR_gi SR, w1, bI_t, if_neg (show ¬ (1 : Int32) = 0 by decide), eR_is SR, R_noPair_y SR w2 h16 hi hj, hm_and_some, if_true, w3]
theorem call_climb {x1 x2 : Int32} (hF : 5000 ≤ F) (SD : shD K R o) (SR : shR K R (o + 148)) (g : SG) (h : Sim o I g) : Cal K R n s o I (f_D_climb F o x1 x2) (f_R_climb F (o + 148) x1 x2) := by
  obtain ⟨m, A, row, rk, mk, LO, LI, TO, TI, ch, hd⟩ := g
  obtain ⟨wf, hD, hR⟩ : WFs m A row rk mk LO LI TO TI hd ∧ RelD o I m A row rk mk LO LI TO TI ch hd ∧ RelR (o + 148) I m A row rk mk LO LI TO TI ch hd := h
  have h16 := wf.1.1
  refine ref_climb SD SR wf hD hR (fun i j hi hj hh e1 e2 => ?_)
  subst hh e1 e2
  have oW := cW_ok wf.1 wf.nok m (Nat.le_refl m)
  have hk : kH o m I row rk (cW A row rk m m) := ⟨hD.1.1, wf.1, hD.1.2.1, hD.1.2.2.1, fun x y hx hy => ⟨(hD.2.2.2.2 rfl).2.2.2.1 x y hx hy, oW x y hx hy⟩⟩
  obtain ⟨I1, e3, f3⟩ := K_climb (F := F) (n := n) (s := s) (by omega) SD hk hi hj
  have okc : on_ok 999999 (clm (cW A row rk m m) row m i j) := by
    have hb : m * 15000 + m * 15000 ≤ 999999 := by omega
    refine mn_ok m (fun l hl => on_ok_mono (on_ok_add (cu_ok wf.1 oW m (Nat.le_refl m) i l hi) (cu_ok wf.1 (fun x y hx hy => oW y x hy hx) m (Nat.le_refl m) j l hj)) hb)
  refine Cal.same (r := enD (clm (cW A row rk m m) row m i j)) wf hD hR (I1 := I1) ?_ f3 (fun t ht => ⟨up2 t (o + 148) 0 0, ?_, fun x hx => up2_ne hx, fun j hj _ _ => up2_nj hj⟩)
  · unfold f_D_climb
    simp only [eD_is SD, Option.bind_some, D_ref_y SD hD h16 hi hj, hm_and_some, if_true, eD_r4 SD, eD_r0 SD, eC_is SD.C108, e3]
  · have w1 : up2 t (o + 148) 0 0 (o + 148) 5 = bI true := ht.fr0.2.2.2.1
    have w2 : up2 t (o + 148) 0 0 (o + 148) 1 = nI m := ht.fr0.1.1
    have l1 : hm_ild (hp K R n s (up2 t (o + 148) 0 0)) (o + 148 + 12) ((16 : Int32) * nI i + nI j) = some (enR (clm (cW A row rk m m) row m i j)) := by rw [ix16, hp_ild SR.K12 (by omega) (by omega), (ht.fr0.2.2.2.2 rfl).2.2.2.2 i j hi hj]
    unfold f_R_climb
    simp only [eR_pi SR, Option.bind_some, eR_gi SR, w1, bI_t, if_neg (show ¬ (1 : Int32) = 0 by decide), eR_is SR, R_noPair_y SR w2 h16 hi hj, hm_and_some, if_true, eR_r15 SR, l1]
    by_cases z : clm (cW A row rk m m) row m i j = none
    · rw [if_pos ((enR_far okc).mpr z), z]; rfl
    · rw [if_neg (fun w => z ((enR_far okc).mp w))]
      cases hc : clm (cW A row rk m m) row m i j with
      | none => exact absurd hc z
      | some d => rfl
end MT
