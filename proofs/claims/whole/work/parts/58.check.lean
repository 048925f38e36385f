/-! THE CALLS check, most, least, shortcut -/
def ms (D : Nat → Nat → Option Nat) (mk : Nat → Bool) (a b : Nat) : Nat → Option Nat
  | 0 => none
  | i + 1 => if mk i = true then on_min (ms D mk a b i) (on_add (D a i) (D i b)) else ms D mk a b i
def leadI (x y : Option Nat) : Int32 := match x, y with
  | some p, some q => nI p - nI q
  | _, _ => 0
theorem mx_eq (x y : Int32) : (if x ≤ y then y else x) = if y < x then x else y := by
  by_cases h : x ≤ y
  · rw [if_pos h, if_neg (Int32.not_lt.mpr h)]
  · rw [if_neg h, if_pos (Int32.not_le.mp h)]
section CK
variable {K : Nat → Option ((Nat ⊕ Nat) × Nat)} {R : Nat → Nat → Option Nat} {n s F o q m ch : Nat} {I : Nat → Nat → Int32} {A LO LI TO TI : Nat → Nat → Option Nat} {row rk : Nat → Nat} {mk : Nat → Bool}
/-- what the two hold of distances -/
theorem D_dist {x y : Nat} (SD : shD K R o) (wf : WFs m A row rk mk LO LI TO TI true) (hD : RelD o I m A row rk mk LO LI TO TI ch true) (hx : x < m) (hy : y < m) : hm_ild (hp K R n s I) (o + 21 + 1 + x) (nI y) = some (enD (dD A row m x y)) := by
  have h16 := wf.1.1
  rw [gd_ild SD.g21 (by omega) (by omega), (hD.2.2.2.2 rfl).1 x y hx hy]
theorem R_dist {x y : Nat} (SR : shR K R q) (wf : WFs m A row rk mk LO LI TO TI true) (hR : RelR q I m A row rk mk LO LI TO TI ch true) (hx : x < m) (hy : y < m) : hm_ild (hp K R n s I) (q + 4) ((16 : Int32) * nI x + nI y) = some (enR (dD A row m x y)) := by
  have h16 := wf.1.1
  rw [ix16, hp_ild SR.K4 (by omega) (by omega), (hR.2.2.2.2 rfl).1 x y hx hy]
theorem R_isWay {x y : Nat} (SR : shR K R q) (wf : WFs m A row rk mk LO LI TO TI true) (hR : RelR q I m A row rk mk LO LI TO TI ch true) (hx : x < m) (hy : y < m) : f_R_isWay F q (nI x) (nI y) (hp K R n s I) = some (if dD A row m x y = none then 0 else 1, hp K R n s I) := by
  unfold f_R_isWay
  have hok := on_ok_mono (wf.dok hx hy) (show 17000 ≤ 999999 by omega)
  simp only [eR_r6 SR, Option.bind_some, R_dist SR wf hR hx hy, zr_0, zr_1]
  by_cases z : dD A row m x y = none
  · rw [if_pos ((enR_far hok).mpr z), if_pos z]
  · rw [if_neg (fun w => z ((enR_far hok).mp w)), if_neg z]
theorem enD_no {x y : Nat} (wf : WFs m A row rk mk LO LI TO TI true) (hx : x < m) (hy : y < m) : enD (dD A row m x y) = -1 ↔ dD A row m x y = none := enD_none (on_ok_mono (wf.dok hx hy) (by omega))
theorem call_check (hF : 5000 ≤ F) (SD : shD K R o) (SR : shR K R (o + 148)) (g : SG) (h : Sim o I g) : Cal K R n s o I (f_D_check F o) (f_R_check F (o + 148)) := by
  obtain ⟨m, A, row, rk, mk, LO, LI, TO, TI, ch, hd⟩ := g
  obtain ⟨wf, hD, hR⟩ : WFs m A row rk mk LO LI TO TI hd ∧ RelD o I m A row rk mk LO LI TO TI ch hd ∧ RelR (o + 148) I m A row rk mk LO LI TO TI ch hd := h
  have h16 := wf.1.1
  cases hd with
  | false =>
    refine Cal.same (r := -4) wf hD hR (I1 := I) ?_ (fun _ _ _ => rfl) (fun t ht => ⟨up2 t (o + 148) 0 0, ?_, fun x hx => up2_ne hx, fun j hj _ _ => up2_nj hj⟩)
    · unfold f_D_check
      simp only [eD_gi SD, Option.bind_some, hD.2.2.2.1, bI_f, if_true]
    · have w1 : up2 t (o + 148) 0 0 (o + 148) 5 = bI false := ht.fr0.2.2.2.1
      unfold f_R_check
      simp only [eR_pi SR, Option.bind_some, eR_gi SR, w1, bI_f, if_true]
  | true =>
    -- the two loops side by side
    have hR0 := hR.fr0
    have key : ∃ r t', f_D_check_12 F F o (nI 0) (hp K R n s I) = some (r, hp K R n s I) ∧ f_R_check_17 F F (o + 148) (nI 0) (hp K R n s (up2 I (o + 148) 0 0)) = some (r, hp K R n s t') ∧ (∀ x, x ≠ o + 148 → t' x = I x) ∧ (∀ j, j ≠ 0 → j ≠ 23 → j ≠ 24 → t' (o + 148) j = I (o + 148) j) := by
      have := hl_up (fun N a (t : Nat → Nat → Int32) => (f_D_check_12 F N o (nI a) (hp K R n s I), f_R_check_17 F N (o + 148) (nI a) (hp K R n s t))) (fun z => ∃ r t', z.1 = some (r, hp K R n s I) ∧ z.2 = some (r, hp K R n s t') ∧ (∀ x, x ≠ o + 148 → t' x = I x) ∧ (∀ j, j ≠ 0 → j ≠ 23 → j ≠ 24 → t' (o + 148) j = I (o + 148) j)) (fun a t => (∀ x, x ≠ o + 148 → t x = I x) ∧ (∀ j, j ≠ 0 → j ≠ 23 → j ≠ 24 → t (o + 148) j = I (o + 148) j)) m ?_ ?_ F 0 (up2 I (o + 148) 0 0) (by omega) (by omega) ⟨fun x hx => up2_ne hx, fun j hj _ _ => up2_nj hj⟩
      · exact this
      · intro N a t ha ⟨h1, h2⟩
        -- the inner loop
        have inner := hl_up (fun N2 b (t : Nat → Nat → Int32) => (f_D_check_25 F (f_D_check_12 F N) N2 o (nI a) (nI b) (hp K R n s I), f_R_check_27 F (f_R_check_17 F N) N2 (o + 148) (nI a) (nI b) (hp K R n s t))) (fun z => (∃ r t', z.1 = some (r, hp K R n s I) ∧ z.2 = some (r, hp K R n s t') ∧ (∀ x, x ≠ o + 148 → t' x = I x) ∧ (∀ j, j ≠ 0 → j ≠ 23 → j ≠ 24 → t' (o + 148) j = I (o + 148) j)) ∨ ∃ t', ((∀ x, x ≠ o + 148 → t' x = I x) ∧ (∀ j, j ≠ 0 → j ≠ 23 → j ≠ 24 → t' (o + 148) j = I (o + 148) j)) ∧ z = (f_D_check_12 F N o (nI (a + 1)) (hp K R n s I), f_R_check_17 F N (o + 148) (nI (a + 1)) (hp K R n s t'))) (fun b t => (∀ x, x ≠ o + 148 → t x = I x) ∧ (∀ j, j ≠ 0 → j ≠ 23 → j ≠ 24 → t (o + 148) j = I (o + 148) j)) m ?_ ?_ F 0 t (by omega) (by omega) ⟨h1, h2⟩
        · have wa : t (o + 148) 1 = nI m := by rw [h2 1 (by omega) (by omega) (by omega)]; exact hR.1.1
          have e12 : f_D_check_12 F (N + 1) o (nI a) (hp K R n s I) = f_D_check_25 F (f_D_check_12 F N) F o (nI a) (nI 0) (hp K R n s I) := by
            show g_D_check_12 F (f_D_check_12 F N) o (nI a) (hp K R n s I) = _
            unfold g_D_check_12
            simp only [eD_r0 SD, Option.bind_some, eN_gi SD.N1, hD.1.1, if_neg (nI_ge ha (show m < 2 ^ 31 by omega)), nI_0]
          have e17 : f_R_check_17 F (N + 1) (o + 148) (nI a) (hp K R n s t) = f_R_check_27 F (f_R_check_17 F N) F (o + 148) (nI a) (nI 0) (hp K R n s t) := by
            show g_R_check_17 F (f_R_check_17 F N) (o + 148) (nI a) (hp K R n s t) = _
            unfold g_R_check_17
            simp only [eR_gi SR, Option.bind_some, wa, if_neg (nI_ge ha (show m < 2 ^ 31 by omega)), nI_0]
          show (∃ r t', f_D_check_12 F (N + 1) o (nI a) (hp K R n s I) = some (r, hp K R n s I) ∧ f_R_check_17 F (N + 1) (o + 148) (nI a) (hp K R n s t) = some (r, hp K R n s t') ∧ _) ∨ ∃ t', _ ∧ (f_D_check_12 F (N + 1) o (nI a) (hp K R n s I), f_R_check_17 F (N + 1) (o + 148) (nI a) (hp K R n s t)) = _
          rw [e12, e17]
          exact inner
        · intro N2 b t hb ⟨h1, h2⟩
          have ht : RelR (o + 148) t m A row rk mk LO LI TO TI ch true := hR.fr (fun x hx => h1 x (by omega)) h2
          have w2 := R_meet (F := F) (n := n) (s := s) (by omega) SR wf ht ha hb
          have w3 := D_asked (F := F) (n := n) (s := s) (by omega) SD wf hD ha hb
          have sg := mt_sgn (TO := TO) (TI := TI) (a := a) (b := b) wf.1 (Nat.le_refl m)
          have hbk := bst_ok (TO := TO) (TI := TI) wf.1 ha hb (Nat.le_refl m) (wf.2.2.2.2 rfl)
          have hdk := wf.dok ha hb
          generalize hv : bst TO TI a b (mt TO TI row a b m) = v at *
          generalize hI1 : up2 t (o + 148) 24 (enR v) = t1 at *
          have k1 : ∀ x, x ≠ o + 148 → t1 x = I x := fun x hx => by rw [← hI1, up2_ne hx]; exact h1 x hx
          have k2 : ∀ j, j ≠ 0 → j ≠ 23 → j ≠ 24 → t1 (o + 148) j = I (o + 148) j := fun j a1 a2 a3 => by rw [← hI1, up2_nj a3]; exact h2 j a1 a2 a3
          have ht1 : RelR (o + 148) t1 m A row rk mk LO LI TO TI ch true := hR.fr (fun x hx => k1 x (by omega)) k2
          have w4 : t1 (o + 148) 24 = enR v := by rw [← hI1, up2_at]
          have hok := on_ok_mono hdk (show 17000 ≤ 999999 by omega)
          -- the reference's step
          have er : g_R_check_27 F (f_R_check_17 F N) (f_R_check_27 F (f_R_check_17 F N) N2) (o + 148) (nI a) (nI b) (hp K R n s t) = if v = dD A row m a b then f_R_check_27 F (f_R_check_17 F N) N2 (o + 148) (nI a) (nI (b + 1)) (hp K R n s t1) else some (nI (16 * a + b), hp K R n s t1) := by
            have e53 : f_R_check_53 F (f_R_check_27 F (f_R_check_17 F N) N2) (o + 148) (nI a) (nI b) (enR v) (hp K R n s t1) = if v = dD A row m a b then f_R_check_27 F (f_R_check_17 F N) N2 (o + 148) (nI a) (nI (b + 1)) (hp K R n s t1) else some (nI (16 * a + b), hp K R n s t1) := by
              have e86 : f_R_check_86 F (f_R_check_27 F (f_R_check_17 F N) N2) (o + 148) (nI a) (nI b) (enR v) (enR (dD A row m a b)) (hp K R n s t1) = if v = dD A row m a b then f_R_check_27 F (f_R_check_17 F N) N2 (o + 148) (nI a) (nI (b + 1)) (hp K R n s t1) else some (nI (16 * a + b), hp K R n s t1) := by
                unfold f_R_check_86 f_R_check_94
                rw [nI_1, ix16]
                by_cases z : v = dD A row m a b
                · rw [if_pos (by rw [z]), if_pos z]
                · rw [if_neg (fun w => z ((enR_inj (on_ok_mono hbk (by omega)) hok).mp w)), if_neg z]
              unfold f_R_check_53
              simp only [eR_r6 SR, Option.bind_some, R_dist SR wf ht1 ha hb]
              by_cases z : dD A row m a b = none
              · rw [if_pos ((enR_far hok).mpr z), ← e86, z]
                rw [show (1000000 : Int32) = enR none from n_far]
              · rw [if_neg (fun w => z ((enR_far hok).mp w))]
                exact e86
            unfold g_R_check_27
            have w1 : t (o + 148) 1 = nI m := ht.1.1
            simp only [eR_gi SR, Option.bind_some, w1, if_neg (nI_ge hb (show m < 2 ^ 31 by omega)), eR_is SR, w2, hm_and_some, w4]
            by_cases z : 0 ≤ enD (mt TO TI row a b m)
            · rw [if_pos z]; exact e53
            · rw [if_neg z, ← e53, sg.2 z]
              rw [show (1000000 : Int32) = enR none from n_far]
          have ed : g_D_check_25 F (f_D_check_12 F N) (f_D_check_25 F (f_D_check_12 F N) N2) o (nI a) (nI b) (hp K R n s I) = if v = dD A row m a b then f_D_check_25 F (f_D_check_12 F N) N2 o (nI a) (nI (b + 1)) (hp K R n s I) else some (nI (16 * a + b), hp K R n s I) := by
            unfold g_D_check_25 f_D_check_53
            simp only [eD_r0 SD, Option.bind_some, eN_gi SD.N1, hD.1.1, if_neg (nI_ge hb (show m < 2 ^ 31 by omega)), eD_is SD, w3, hm_and_some, eD_r1 SD, gd_ald SD.g21 (show a < 16 by omega), D_dist SD wf hD ha hb, nI_1, ix16]
            have := enD_inj (on_ok_mono hbk (show 180000 ≤ 2000000000 by omega)) (on_ok_mono hdk (show 17000 ≤ 2000000000 by omega))
            by_cases z : v = dD A row m a b
            · rw [if_pos (by rw [z]), if_pos z]
            · rw [if_neg (fun w => z (this.mp w)), if_neg z]
          show ((∃ r t', g_D_check_25 F (f_D_check_12 F N) (f_D_check_25 F (f_D_check_12 F N) N2) o (nI a) (nI b) (hp K R n s I) = some (r, hp K R n s I) ∧ g_R_check_27 F (f_R_check_17 F N) (f_R_check_27 F (f_R_check_17 F N) N2) (o + 148) (nI a) (nI b) (hp K R n s t) = some (r, hp K R n s t') ∧ _) ∨ _) ∨ ∃ t', _ ∧ (g_D_check_25 F (f_D_check_12 F N) (f_D_check_25 F (f_D_check_12 F N) N2) o (nI a) (nI b) (hp K R n s I), g_R_check_27 F (f_R_check_17 F N) (f_R_check_27 F (f_R_check_17 F N) N2) (o + 148) (nI a) (nI b) (hp K R n s t)) = _
          rw [er, ed]
          by_cases z : v = dD A row m a b
          · rw [if_pos z, if_pos z]
            exact Or.inr ⟨t1, ⟨k1, k2⟩, rfl⟩
          · rw [if_neg z, if_neg z]
            exact Or.inl (Or.inl ⟨nI (16 * a + b), t1, rfl, rfl, k1, k2⟩)
        · intro N2 t ⟨h1, h2⟩
          have w1 : t (o + 148) 1 = nI m := by rw [h2 1 (by omega) (by omega) (by omega)]; exact hR.1.1
          refine Or.inr ⟨t, ⟨h1, h2⟩, ?_⟩
          show (g_D_check_25 F (f_D_check_12 F N) (f_D_check_25 F (f_D_check_12 F N) N2) o (nI a) (nI m) (hp K R n s I), g_R_check_27 F (f_R_check_17 F N) (f_R_check_27 F (f_R_check_17 F N) N2) (o + 148) (nI a) (nI m) (hp K R n s t)) = _
          unfold g_D_check_25 g_R_check_27 f_D_check_66 f_R_check_107
          simp only [eD_r0 SD, Option.bind_some, eN_gi SD.N1, hD.1.1, if_pos (Int32.le_refl (nI m)), eR_gi SR, w1, nI_1]
      · intro N t ⟨h1, h2⟩
        have w1 : t (o + 148) 1 = nI m := by rw [h2 1 (by omega) (by omega) (by omega)]; exact hR.1.1
        refine ⟨-1, t, ?_, ?_, h1, h2⟩
        · show g_D_check_12 F (f_D_check_12 F N) o (nI m) (hp K R n s I) = _
          unfold g_D_check_12
          simp only [eD_r0 SD, Option.bind_some, eN_gi SD.N1, hD.1.1, if_pos (Int32.le_refl (nI m))]
        · show g_R_check_17 F (f_R_check_17 F N) (o + 148) (nI m) (hp K R n s t) = _
          unfold g_R_check_17
          simp only [eR_gi SR, Option.bind_some, w1, if_pos (Int32.le_refl (nI m))]
    obtain ⟨r, t', k1, k2, k3, k4⟩ := key
    refine ⟨r, (m, A, row, rk, mk, LO, LI, TO, TI, ch, true), I, t', ?_, ?_, wf, hD.fr wf.1.1 (fun x hx _ _ => k3 x (by omega)), hR.fr (fun x hx => k3 x (by omega)) k4⟩
    · unfold f_D_check
      simp only [eD_gi SD, Option.bind_some, hD.2.2.2.1, bI_t, if_neg (show ¬ (1 : Int32) = 0 by decide)]
      rw [← nI_0]; exact k1
    · have w1 : up2 I (o + 148) 0 0 (o + 148) 5 = bI true := hR0.2.2.2.1
      unfold f_R_check
      simp only [eR_pi SR, Option.bind_some, eR_gi SR, w1, bI_t, if_neg (show ¬ (1 : Int32) = 0 by decide)]
      rw [← nI_0]; exact k2
theorem call_most {x1 x2 : Int32} (hF : 5000 ≤ F) (SD : shD K R o) (SR : shR K R (o + 148)) (g : SG) (h : Sim o I g) : Cal K R n s o I (f_D_most F o x1 x2) (f_R_most F (o + 148) x1 x2) := by
  obtain ⟨m, A, row, rk, mk, LO, LI, TO, TI, ch, hd⟩ := g
  obtain ⟨wf, hD, hR⟩ : WFs m A row rk mk LO LI TO TI hd ∧ RelD o I m A row rk mk LO LI TO TI ch hd ∧ RelR (o + 148) I m A row rk mk LO LI TO TI ch hd := h
  have h16 := wf.1.1
  refine ref_most SD SR wf hD hR (fun a b ha hb hh e1 e2 => ?_)
  subst hh e1 e2
  have msok : ∀ i, i ≤ m → on_ok 34000 (ms (dD A row m) mk a b i) := by
    intro i
    induction i with
    | zero => intro _ d hd; cases hd
    | succ i ih =>
      intro hi
      show on_ok _ (if mk i = true then _ else _)
      split
      · exact on_ok_min (ih (by omega)) (on_ok_add (wf.dok ha (by omega)) (wf.dok (by omega) hb))
      · exact ih (by omega)
  refine Cal.same (r := enD (ms (dD A row m) mk a b m)) wf hD hR (I1 := I) ?_ (fun _ _ _ => rfl) (fun t ht => ⟨up2 t (o + 148) 0 0, ?_, fun x hx => up2_ne hx, fun j hj _ _ => up2_nj hj⟩)
  · unfold f_D_most
    simp only [eD_is SD, Option.bind_some, D_ref_y SD hD h16 ha hb, hm_and_some, if_true]
    rw [← nI_0]
    refine hl_up (fun N l (z : Option Nat) => f_D_most_19 F N o (nI a) (nI b) (enD z) (nI l) (hp K R n s I)) (fun z => z = some (enD (ms (dD A row m) mk a b m), hp K R n s I)) (fun l z => z = ms (dD A row m) mk a b l) m ?_ ?_ F 0 none (by omega) (by omega) rfl
    · intro N l z hl hz
      subst hz
      refine Or.inr ⟨_, rfl, ?_⟩
      show g_D_most_19 F (f_D_most_19 F N) o (nI a) (nI b) (enD (ms (dD A row m) mk a b l)) (nI l) (hp K R n s I) = _
      have l1 : hm_zld (hp K R n s I) (o + 147) (nI l) = some (bI (mk l)) := by rw [hp_zld SD.K147 (by omega) (by omega), hD.2.1.1 l (by omega)]
      have x4 := D_sum (F := F) (h := hp K R n s I) (on_ok_mono (wf.dok ha hl) (show 17000 ≤ 1000000000 by omega)) (on_ok_mono (wf.dok hl hb) (show 17000 ≤ 1000000000 by omega))
      have x5 := D_lesser (F := F) (h := hp K R n s I) (on_ok_mono (msok l (by omega)) (show 34000 ≤ 2000000000 by omega)) (on_ok_mono (on_ok_add (wf.dok ha hl) (wf.dok hl hb)) (show 17000 + 17000 ≤ 2000000000 by omega))
      unfold g_D_most_19 f_D_most_69
      simp only [eD_r0 SD, Option.bind_some, eN_gi SD.N1, hD.1.1, if_neg (nI_ge hl (show m < 2 ^ 31 by omega)), eD_r5 SD, l1, eD_r1 SD, gd_ald SD.g21 (show a < 16 by omega), gd_ald SD.g21 (show l < 16 by omega), D_dist SD wf hD ha hl, D_dist SD wf hD hl hb, x4, hm_and_some, x5, nI_1]
      cases hk : mk l with
      | false => rw [bI_f, if_pos rfl, show ms (dD A row m) mk a b (l + 1) = ms (dD A row m) mk a b l from if_neg (by rw [hk]; decide)]
      | true => rw [bI_t, if_neg (show ¬ (1 : Int32) = 0 by decide), show ms (dD A row m) mk a b (l + 1) = on_min (ms (dD A row m) mk a b l) (on_add (dD A row m a l) (dD A row m l b)) from if_pos hk, on_min_cm]
    · intro N z hz
      subst hz
      show g_D_most_19 F (f_D_most_19 F N) o (nI a) (nI b) _ (nI m) (hp K R n s I) = _
      unfold g_D_most_19
      simp only [eD_r0 SD, Option.bind_some, eN_gi SD.N1, hD.1.1, if_pos (Int32.le_refl (nI m))]
  · have ht0 := ht.fr0
    have w1 : up2 t (o + 148) 0 0 (o + 148) 5 = bI true := ht.fr0.2.2.2.1
    have w2 : up2 t (o + 148) 0 0 (o + 148) 1 = nI m := ht.fr0.1.1
    unfold f_R_most
    simp only [eR_pi SR, Option.bind_some, eR_gi SR, w1, bI_t, if_neg (show ¬ (1 : Int32) = 0 by decide), eR_is SR, R_noPair_y SR w2 h16 ha hb, hm_and_some, if_true]
    generalize up2 t (o + 148) 0 0 = t0 at ht0 w2 ⊢
    rw [← nI_0, n_far]
    refine hl_up (fun N l (z : Option Nat) => f_R_most_33 F N (o + 148) (nI a) (nI b) (enR z) (nI l) (hp K R n s t0)) (fun z => z = some (enD (ms (dD A row m) mk a b m), hp K R n s t0)) (fun l z => z = ms (dD A row m) mk a b l) m ?_ ?_ F 0 none (by omega) (by omega) rfl
    · intro N l z hl hz
      subst hz
      refine Or.inr ⟨_, rfl, ?_⟩
      show g_R_most_33 F (f_R_most_33 F N) (o + 148) (nI a) (nI b) (enR (ms (dD A row m) mk a b l)) (nI l) (hp K R n s t0) = _
      have l1 : hm_zld (hp K R n s t0) (o + 148 + 3) (nI l) = some (bI (mk l)) := by rw [hp_zld SR.K3 (by omega) (by omega), ht0.2.1 l (by omega)]
      unfold g_R_most_33 f_R_most_90 f_R_most_91
      simp only [eR_gi SR, Option.bind_some, w2, if_neg (nI_ge hl (show m < 2 ^ 31 by omega)), eR_r6 SR, R_dist SR wf ht0 ha hl, R_dist SR wf ht0 hl hb, eR_r4 SR, l1, nI_1]
      cases hk : mk l with
      | false => rw [bI_f, if_pos rfl, show ms (dD A row m) mk a b (l + 1) = ms (dD A row m) mk a b l from if_neg (by rw [hk]; decide)]
      | true =>
        rw [bI_t, if_neg (show ¬ (1 : Int32) = 0 by decide), show ms (dD A row m) mk a b (l + 1) = on_min (ms (dD A row m) mk a b l) (on_add (dD A row m a l) (dD A row m l b)) from if_pos hk]
        exact enR_min (fun c => f_R_most_33 F N (o + 148) (nI a) (nI b) c (nI (l + 1)) (hp K R n s t0)) (on_ok_mono (wf.dok ha hl) (by omega)) (on_ok_mono (wf.dok hl hb) (by omega)) (on_ok_mono (msok l (by omega)) (by omega))
    · intro N z hz
      subst hz
      show g_R_most_33 F (f_R_most_33 F N) (o + 148) (nI a) (nI b) (enR (ms (dD A row m) mk a b m)) (nI m) (hp K R n s t0) = _
      unfold g_R_most_33 f_R_most_98
      simp only [eR_gi SR, Option.bind_some, w2, if_pos (Int32.le_refl (nI m))]
      have hok := on_ok_mono (msok m (Nat.le_refl m)) (show 34000 ≤ 999999 by omega)
      by_cases z : ms (dD A row m) mk a b m = none
      · rw [if_pos ((enR_far hok).mpr z), z]; rfl
      · rw [if_neg (fun w => z ((enR_far hok).mp w))]
        cases hc : ms (dD A row m) mk a b m with
        | none => exact absurd hc z
        | some d => rfl
end CK
