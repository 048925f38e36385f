/-! THE CALLS label, damage -/
theorem m1_cases (x : Int32) : x = -1 ∨ (x < -1 ∧ x < 0 ∧ ¬ x = -1 ∧ ¬ 0 ≤ x) ∨ (0 ≤ x ∧ ¬ x < 0 ∧ ¬ x < -1 ∧ ¬ x = -1) := by
  have a1 : (-1 : Int32).toInt = -1 := by decide
  have a0 : (0 : Int32).toInt = 0 := by decide
  simp only [Int32.lt_iff_toInt_lt, Int32.le_iff_toInt_le, ← Int32.toInt_inj, a1, a0]
  omega
theorem n_90000 : (90000 : Int32) = nI 90000 := by decide +kernel
section LB
variable {K : Nat → Option ((Nat ⊕ Nat) × Nat)} {R : Nat → Nat → Option Nat} {n s F o q m ch : Nat} {I : Nat → Nat → Int32} {A LO LI TO TI : Nat → Nat → Option Nat} {row rk : Nat → Nat} {mk : Nat → Bool}
theorem isSide_y {sd : Nat} {h : hm_T} (hs : sd < 2) : f_D_isSide F (nI sd) h = some (1, h) := by
  unfold f_D_isSide f_D_isSide_9
  have : sd = 0 ∨ sd = 1 := by omega
  rcases this with e | e <;> rw [e]
  · rw [if_pos (show nI 0 = 0 from rfl), zr_1, Option.bind_some]
  · rw [if_neg (show ¬ nI 1 = 0 by decide +kernel), if_pos (show nI 1 = (1 : Int32) by decide +kernel), zr_1, Option.bind_some]
theorem isSide_n {x : Int32} {h : hm_T} (h0 : ¬ x = 0) (h1 : ¬ x = 1) : f_D_isSide F x h = some (0, h) := by
  unfold f_D_isSide
  rw [if_neg h0, if_neg h1, zr_0, Option.bind_some]
theorem in01_y {sd : Nat} {h : hm_T} (hs : sd < 2) : f_R_in F (nI sd) (0 : Int32) (1 : Int32) h = some (1, h) := by
  unfold f_R_in
  rw [if_neg (nI_pos (by omega)), if_neg (by rw [n_1, nI_ltI (by omega) (by omega)]; omega), zr_1, Option.bind_some]
theorem in01_n {x : Int32} {h : hm_T} (hx : x < 0 ∨ (1 : Int32) < x) : f_R_in F x (0 : Int32) (1 : Int32) h = some (0, h) := by
  unfold f_R_in
  by_cases h0 : x < 0
  · rw [if_pos h0, zr_0, Option.bind_some]
  · rw [if_neg h0, if_pos (hx.resolve_left h0), zr_0, Option.bind_some]
theorem sd_all {x : Int32} : (¬ x = 0 ∧ ¬ x = 1 ∧ (x < 0 ∨ (1 : Int32) < x)) ∨ ∃ sd, sd < 2 ∧ x = nI sd := by
  rcases sd_cases x with h | h | h
  · exact Or.inl h
  · exact Or.inr ⟨0, by omega, h⟩
  · exact Or.inr ⟨1, by omega, h⟩
/-- one side: where it lies, what it tells -/
def sdA (o sd : Nat) : Nat := if sd = 0 then o + 38 else o + 73
def sdT (sd : Nat) (TO TI : Nat → Nat → Option Nat) : Nat → Nat → Option Nat := if sd = 0 then TO else TI
theorem sd_L {sd : Nat} (SD : shD K R o) (hs : sd < 2) : shL K R (sdA o sd) := by
  unfold sdA
  split
  · exact SD.L38
  · exact SD.L73
theorem sd_of {sd : Nat} (SD : shD K R o) (hs : sd < 2) : f_D_ofSide F o (nI sd) (hp K R n s I) = some (sdA o sd, hp K R n s I) := by
  unfold f_D_ofSide sdA
  have : sd = 0 ∨ sd = 1 := by omega
  rcases this with e | e <;> rw [e]
  · rw [if_pos (show nI 0 = 0 from rfl), if_pos rfl, eD_r2 SD, Option.bind_some]
  · rw [if_neg (show ¬ nI 1 = 0 by decide +kernel), if_neg (by omega), eD_r3 SD, Option.bind_some]
theorem sd_D {sd : Nat} (wf : WFs m A row rk mk LO LI TO TI true) (hD : RelD o I m A row rk mk LO LI TO TI ch true) : ∀ x y, x < m → y < m → I (sdA o sd + 18 + 1 + x) y = enD (sdT sd TO TI x y) ∧ on_ok 90000 (sdT sd TO TI x y) := fun x y hx hy => by
  have h1 := (hD.2.2.2.2 rfl).2.1 x y hx hy
  have h2 := wf.2.2.2.2 rfl x y hx hy
  unfold sdA sdT
  split
  · exact ⟨h1.1, h2.1⟩
  · exact ⟨h1.2, h2.2⟩
theorem sd_R {sd : Nat} (hs : sd < 2) (wf : WFs m A row rk mk LO LI TO TI true) (hR : RelR q I m A row rk mk LO LI TO TI ch true) : ∀ x y, x < m → y < m → I (q + 7) (256 * sd + (16 * x + y)) = enS (sdT sd TO TI x y) ∧ on_ok 90000 (sdT sd TO TI x y) := fun x y hx hy => by
  have h1 := (hR.2.2.2.2 rfl).2.1 x y hx hy
  have h2 := wf.2.2.2.2 rfl x y hx hy
  have : sd = 0 ∨ sd = 1 := by omega
  unfold sdT
  rcases this with e | e <;> rw [e]
  · rw [if_pos rfl, Nat.mul_zero, Nat.zero_add]; exact ⟨h1.1, h2.1⟩
  · rw [if_neg (by omega), Nat.mul_one]; exact ⟨h1.2, h2.2⟩
theorem fst_bad {f : Nat → Option Nat} {k : Int32} {r : Option Nat} (h16 : m ≤ 16) (hk : k < 0 ∨ k = 99) (h : fst (fun i => f (row i) ≠ none ∧ nI (cs f row i) = k) m r) : r = none := by
  rcases h with ⟨i, hi, hP, _, _⟩ | ⟨_, h⟩
  · exfalso
    have hc := cs_le f row i
    rcases hk with hk | hk
    · exact absurd (show nI (cs f row i) < 0 by rw [hP.2]; exact hk) (nI_pos (by omega))
    · have e := hP.2
      rw [hk, show (99 : Int32) = nI 99 by decide +kernel, nI_eq (by omega) (by omega)] at e
      omega
  · exact h
theorem call_label {x1 x2 x3 x4 : Int32} (hF : 5000 ≤ F) (SD : shD K R o) (SR : shR K R (o + 148)) (g : SG) (h : Sim o I g) : Cal K R n s o I (f_D_label F o x1 x2 x3 x4) (f_R_label F (o + 148) x1 x2 x3 x4) := by
  obtain ⟨m, A, row, rk, mk, LO, LI, TO, TI, ch, hd⟩ := g
  obtain ⟨wf, hD, hR⟩ : WFs m A row rk mk LO LI TO TI hd ∧ RelD o I m A row rk mk LO LI TO TI ch hd ∧ RelR (o + 148) I m A row rk mk LO LI TO TI ch hd := h
  have h16 := wf.1.1
  have fin : ∀ (r : Int32), f_D_label F o x1 x2 x3 x4 (hp K R n s I) = some (r, hp K R n s I) → (∀ t, RelR (o + 148) t m A row rk mk LO LI TO TI ch hd → f_R_label F (o + 148) x1 x2 x3 x4 (hp K R n s t) = some (r, hp K R n s (up2 t (o + 148) 0 0)) ∨ ∃ v, f_R_label F (o + 148) x1 x2 x3 x4 (hp K R n s t) = some (r, hp K R n s (up2 (up2 t (o + 148) 0 0) (o + 148) 23 v))) → Cal K R n s o I (f_D_label F o x1 x2 x3 x4) (f_R_label F (o + 148) x1 x2 x3 x4) := fun r e1 e2 =>
    Cal.same (r := r) wf hD hR (I1 := I) e1 (fun _ _ _ => rfl) (fun t ht => by
      rcases e2 t ht with e | ⟨v, e⟩
      · exact ⟨up2 t (o + 148) 0 0, e, fun x hx => up2_ne hx, fun j hj _ _ => up2_nj hj⟩
      · exact ⟨up2 (up2 t (o + 148) 0 0) (o + 148) 23 v, e, fun x hx => by rw [up2_ne hx, up2_ne hx], fun j hj hj2 _ => by rw [up2_nj hj2, up2_nj hj]⟩)
  have n10 : ¬ (1 : Int32) = 0 := by decide
  cases hd with
  | false =>
    refine fin (-4) ?_ (fun t ht => Or.inl ?_)
    · unfold f_D_label
      simp only [eD_gi SD, Option.bind_some, hD.2.2.2.1, bI_f, if_true]
    · have w1 : up2 t (o + 148) 0 0 (o + 148) 5 = bI false := ht.fr0.2.2.2.1
      unfold f_R_label
      simp only [eR_pi SR, Option.bind_some, eR_gi SR, w1, bI_f, if_true]
  | true =>
    have w5 : ∀ t, RelR (o + 148) t m A row rk mk LO LI TO TI ch true → up2 t (o + 148) 0 0 (o + 148) 5 = bI true := fun t ht => ht.fr0.2.2.2.1
    have wm : ∀ t, RelR (o + 148) t m A row rk mk LO LI TO TI ch true → up2 t (o + 148) 0 0 (o + 148) 1 = nI m := fun t ht => ht.fr0.1.1
    rcases sd_all (x := x1) with ⟨z0, z1, z2⟩ | ⟨sd, hs, rfl⟩
    · refine fin (-2) ?_ (fun t ht => Or.inl ?_)
      · unfold f_D_label
        simp only [eD_gi SD, Option.bind_some, hD.2.2.2.1, bI_t, if_neg n10, isSide_n z0 z1, hm_and_some, if_true]
      · unfold f_R_label
        simp only [eR_pi SR, Option.bind_some, eR_gi SR, w5 t ht, bI_t, if_neg n10, in01_n z2, hm_and_some, if_true]
    · rcases ix2 x2 h16 with hb | ⟨v, hv, rfl⟩
      · refine fin (-2) ?_ (fun t ht => Or.inl ?_)
        · unfold f_D_label
          simp only [eD_gi SD, Option.bind_some, hD.2.2.2.1, bI_t, if_neg n10, isSide_y hs, hm_and_some, eD_r0 SD, eN_is SD.N1, N_has_n SD.N1 hD.1.1 hb, if_true]
        · unfold f_R_label
          simp only [eR_pi SR, Option.bind_some, eR_gi SR, w5 t ht, bI_t, if_neg n10, in01_y hs, hm_and_some, eR_is SR, R_noNode_n SR (wm t ht) h16 hb]
      · have hTD := sd_D (sd := sd) wf hD
        have hTR : ∀ t, RelR (o + 148) t m A row rk mk LO LI TO TI ch true → ∀ x y, x < m → y < m → up2 t (o + 148) 0 0 (o + 148 + 7) (256 * sd + (16 * x + y)) = enS (sdT sd TO TI x y) ∧ on_ok 90000 (sdT sd TO TI x y) := fun t ht => sd_R hs wf ht.fr0
        have hrR : ∀ t, RelR (o + 148) t m A row rk mk LO LI TO TI ch true → ∀ i, i < m → up2 t (o + 148) 0 0 (o + 148 + 2) i = nI (row i) := fun t ht => ht.fr0.1.2.2
        have SL := sd_L SD hs
        have eof := sd_of (F := F) (n := n) (s := s) (I := I) SD hs
        generalize sdT sd TO TI = T at *
        rcases m1_cases x3 with c | ⟨c1, c2, c3, c4⟩ | ⟨c1, c2, c3, c4⟩
        · -- how many
          subst c
          refine fin (nI (sm (fun h => cnt (T v h)) m)) ?_ (fun t ht => Or.inr ⟨nI (cs (T v) row m), ?_⟩)
          · unfold f_D_label
            simp only [eD_gi SD, Option.bind_some, hD.2.2.2.1, bI_t, if_neg n10, isSide_y hs, hm_and_some, eD_r0 SD, eN_is SD.N1, N_has_y SD.N1 hD.1.1 h16 hv, eD_is SD, eof, if_true, eL_is SL, L_size (show 20 ≤ F by omega) SD.N1 SL hD.1.1 h16 hTD hv]
          · obtain ⟨r, e1, e2⟩ := R_nth (F := F) (n := n) (s := s) (k := 99) (by omega) SR (wm t ht) wf.1 (hrR t ht) hs (hTR t ht) hv
            have er := fst_bad h16 (Or.inr rfl) e2
            subst er
            have hsm : cs (T v) row m = sm (fun h => cnt (T v h)) m := sm_perm (f := fun h => cnt (T v h)) wf.1
            rw [if_pos rfl] at e1
            unfold f_R_label f_R_label_54 f_R_label_67
            simp only [eR_pi SR, Option.bind_some, eR_gi SR, w5 t ht, bI_t, if_neg n10, in01_y hs, hm_and_some, eR_is SR, R_noNode_y SR (wm t ht) h16 hv, if_true, if_neg (show ¬ (-1 : Int32) < -1 by decide), if_pos (show (-1 : Int32) < 0 by decide), if_neg (show ¬ (0 : Int32) ≤ -1 by decide), e1, up2_at]
            rw [hsm]
        · refine fin (-2) ?_ (fun t ht => Or.inl ?_)
          · obtain ⟨r, e1, e2⟩ := L_stat (F := F) (n := n) (s := s) (k := x3) (by omega) SD.N1 SL hD.1.1 wf.1 hD.1.2.1 hTD hv
            have er := fst_bad h16 (Or.inl c2) e2
            subst er
            have em : enD (Option.map row none) = -1 := rfl
            unfold f_D_label
            simp only [eD_gi SD, Option.bind_some, hD.2.2.2.1, bI_t, if_neg n10, isSide_y hs, hm_and_some, eD_r0 SD, eN_is SD.N1, N_has_y SD.N1 hD.1.1 h16 hv, eD_is SD, eof, if_neg c3, eL_is SL, e1, em, if_true]
          · unfold f_R_label
            simp only [eR_pi SR, Option.bind_some, eR_gi SR, w5 t ht, bI_t, if_neg n10, in01_y hs, hm_and_some, eR_is SR, R_noNode_y SR (wm t ht) h16 hv, if_true, if_pos c1]
        · obtain ⟨r, e1, e2⟩ := L_stat (F := F) (n := n) (s := s) (k := x3) (by omega) SD.N1 SL hD.1.1 wf.1 hD.1.2.1 hTD hv
          have eR : ∀ t, RelR (o + 148) t m A row rk mk LO LI TO TI ch true → f_R_nth F (o + 148) (nI sd) (nI v) x3 (hp K R n s (up2 t (o + 148) 0 0)) = some (enD (r.map row), hp K R n s (if r = none then up2 (up2 t (o + 148) 0 0) (o + 148) 23 (nI (cs (T v) row m)) else up2 t (o + 148) 0 0)) := fun t ht => by
            obtain ⟨r', e3, e4⟩ := R_nth (F := F) (n := n) (s := s) (k := x3) (by omega) SR (wm t ht) wf.1 (hrR t ht) hs (hTR t ht) hv
            rw [fst_one e2 e4]; exact e3
          rcases sd_all (x := x4) with ⟨y0, y1, y2⟩ | ⟨wh, hw, rfl⟩
          · refine fin (-2) ?_ (fun t ht => Or.inl ?_)
            · unfold f_D_label
              simp only [eD_gi SD, Option.bind_some, hD.2.2.2.1, bI_t, if_neg n10, isSide_y hs, hm_and_some, eD_r0 SD, eN_is SD.N1, N_has_y SD.N1 hD.1.1 h16 hv, eD_is SD, eof, if_neg c4, eL_is SL, e1]
              split
              · rfl
              · split
                · rfl
                · rename_i _ y3
                  rw [if_neg (Int32.not_le.mpr (y2.resolve_left y3))]
            · unfold f_R_label
              simp only [eR_pi SR, Option.bind_some, eR_gi SR, w5 t ht, bI_t, if_neg n10, in01_y hs, hm_and_some, eR_is SR, R_noNode_y SR (wm t ht) h16 hv, if_true, if_neg c3, if_neg c2, in01_n y2]
          · cases r with
            | none =>
              have em : enD (Option.map row none) = -1 := rfl
              refine fin (-2) ?_ (fun t ht => Or.inr ⟨nI (cs (T v) row m), ?_⟩)
              · unfold f_D_label
                simp only [eD_gi SD, Option.bind_some, hD.2.2.2.1, bI_t, if_neg n10, isSide_y hs, hm_and_some, eD_r0 SD, eN_is SD.N1, N_has_y SD.N1 hD.1.1 h16 hv, eD_is SD, eof, if_neg c4, eL_is SL, e1, em, if_true]
              · have e3 := eR t ht
                rw [if_pos rfl, em] at e3
                unfold f_R_label f_R_label_54 f_R_label_67
                simp only [eR_pi SR, Option.bind_some, eR_gi SR, w5 t ht, bI_t, if_neg n10, in01_y hs, hm_and_some, eR_is SR, R_noNode_y SR (wm t ht) h16 hv, if_true, if_neg c3, if_neg c2, in01_y hw, if_pos c1, e3, if_neg (show ¬ (0 : Int32) ≤ -1 by decide)]
            | some i =>
              have em : enD (Option.map row (some i)) = nI (row i) := rfl
              rcases e2 with ⟨i', hi, hP, _, e9⟩ | ⟨_, e9⟩
              · cases e9
                have hri := (wf.1.2.1 i hi).1
                obtain ⟨d, hdv⟩ : ∃ d, T v (row i) = some d := by
                  cases hc : T v (row i) with
                  | none => exact absurd hc hP.1
                  | some d => exact ⟨d, rfl⟩
                have hle := (hTD v _ hv hri).2 d hdv
                have xD : hm_ild (hp K R n s I) (sdA o sd + 18 + 1 + v) (nI (row i)) = some (nI d) := by rw [gd_ild SL.g18 (by omega) (by omega), (hTD v _ hv hri).1, hdv]; rfl
                have hwc : wh = 0 ∨ wh = 1 := by omega
                have w01 : nI wh ≤ (1 : Int32) := by rw [n_1, nI_leI (by omega) (by omega)]; omega
                refine fin (if nI wh = 0 then nI (row i) else nI d) ?_ (fun t ht => Or.inl ?_)
                · unfold f_D_label
                  simp only [eD_gi SD, Option.bind_some, hD.2.2.2.1, bI_t, if_neg n10, isSide_y hs, hm_and_some, eD_r0 SD, eN_is SD.N1, N_has_y SD.N1 hD.1.1 h16 hv, eD_is SD, eof, if_neg c4, eL_is SL, e1, em, if_neg (nI_m1 (show row i < 2 ^ 31 by omega)), if_neg (nI_pos (show wh < 2 ^ 31 by omega)), if_pos w01, eL_r1 SL, gd_ald SL.g18 (show v < 16 by omega), xD]
                  split <;> rfl
                · have e3 := eR t ht
                  rw [if_neg (fun z => by cases z), em] at e3
                  have xR : hm_ild (hp K R n s (up2 t (o + 148) 0 0)) (o + 148 + 7) ((256 : Int32) * nI sd + (16 : Int32) * nI v + nI (row i)) = some (nI (d + 1)) := by rw [ix3, hp_ild SR.K7 (by omega) (by omega), (hTR t ht v _ hv hri).1, hdv]; rfl
                  have p0 : (0 : Int32) ≤ nI (row i) := Int32.not_lt.mp (nI_pos (by omega))
                  unfold f_R_label f_R_label_54 f_R_label_67
                  simp only [eR_pi SR, Option.bind_some, eR_gi SR, w5 t ht, bI_t, if_neg n10, in01_y hs, hm_and_some, eR_is SR, R_noNode_y SR (wm t ht) h16 hv, if_true, if_neg c3, if_neg c2, in01_y hw, if_pos c1, e3, if_pos p0, eR_r9 SR, xR, nI_pred]
                  split <;> rfl
              · cases e9
/-! what is told is changed at one place -/
theorem RelD.told {sd v y d : Nat} (hs : sd < 2) (h16 : m ≤ 16) (hv : v < m) (hy : y < m) (h : RelD o I m A row rk mk LO LI TO TI ch true) : RelD o (up2 I (sdA o sd + 18 + 1 + v) y (nI d)) m A row rk mk LO LI (if sd = 0 then fu2 TO v y (some d) else TO) (if sd = 0 then TI else fu2 TI v y (some d)) ch true := by
  obtain ⟨⟨a1, a2, a3, a4, a5⟩, ⟨b1, b2⟩, c, d0, f⟩ := h
  obtain ⟨g1, g2, g3, g4, g5⟩ := f rfl
  have hlo : o + 57 ≤ sdA o sd + 18 + 1 + v ∧ sdA o sd + 18 + 1 + v < o + 108 ∧ ¬ (o + 75 ≤ sdA o sd + 18 + 1 + v ∧ sdA o sd + 18 + 1 + v < o + 91) := by
    unfold sdA
    split <;> omega
  generalize hz : sdA o sd + 18 + 1 + v = z at hlo ⊢
  obtain ⟨z1, z2, z3⟩ := hlo
  refine ⟨⟨?_, fun i hi => ?_, fun i hi => ?_, fun x y hx hy => ?_, ?_⟩, ⟨fun v hv => ?_, ?_⟩, fun x y hx hy => ?_, ?_, fun _ => ⟨fun x y hx hy => ?_, fun x y' hx hy' => ?_, ?_, fun x y hx hy => ?_, ?_, fun i x hx => ?_⟩⟩
  · rw [up2_ne (by omega)]; exact a1
  · rw [up2_ne (by omega)]; exact a2 i hi
  · rw [up2_ne (by omega)]; exact a3 i hi
  · rw [up2_ne (by omega)]; exact a4 x y hx hy
  · rw [up2_ne (by omega)]; exact a5
  · rw [up2_ne (by omega)]; exact b1 v hv
  · rw [up2_ne (by omega)]; exact b2
  · rw [up2_ne (by omega), up2_ne (by omega)]; exact c x y hx hy
  · rw [up2_ne (by omega)]; exact d0
  · rw [up2_ne (by omega)]; exact g1 x y hx hy
  · have hg := g2 x y' hx hy'
    have hsd : sd = 0 ∨ sd = 1 := by omega
    rcases hsd with e | e
    · rw [e] at hz ⊢
      rw [if_pos rfl, if_pos rfl]
      have hz2 : z = o + 38 + 18 + 1 + v := hz.symm
      refine ⟨?_, ?_⟩
      · rw [up2_eq]
        by_cases e2 : x = v ∧ y' = y
        · rw [if_pos ⟨by omega, e2.2⟩, e2.1, e2.2, fu2_at]; rfl
        · rw [if_neg (fun z => e2 ⟨by omega, z.2⟩), fu2_ne e2]; exact hg.1
      · rw [up2_ne (by omega)]; exact hg.2
    · rw [e] at hz ⊢
      rw [if_neg (by omega), if_neg (by omega)]
      have hz2 : z = o + 73 + 18 + 1 + v := hz.symm
      refine ⟨?_, ?_⟩
      · rw [up2_ne (by omega)]; exact hg.1
      · rw [up2_eq]
        by_cases e2 : x = v ∧ y' = y
        · rw [if_pos ⟨by omega, e2.2⟩, e2.1, e2.2, fu2_at]; rfl
        · rw [if_neg (fun z => e2 ⟨by omega, z.2⟩), fu2_ne e2]; exact hg.2
  · rw [up2_ne (by omega)]; exact g3
  · rw [up2_ne (by omega)]; exact g4 x y hx hy
  · rw [up2_ne (by omega)]; exact g5.1
  · rw [up2_ne (by omega), up2_ne (by omega)]; exact g5.2 i x hx
theorem RelR.told {sd v y d : Nat} (hs : sd < 2) (h16 : m ≤ 16) (hv : v < m) (hy : y < m) (h : RelR q I m A row rk mk LO LI TO TI ch true) : RelR q (up2 I (q + 7) (256 * sd + (16 * v + y)) (nI (d + 1))) m A row rk mk LO LI (if sd = 0 then fu2 TO v y (some d) else TO) (if sd = 0 then TI else fu2 TI v y (some d)) ch true := by
  obtain ⟨⟨a1, a2, a3⟩, b, c, d0, f⟩ := h
  obtain ⟨g1, g2, g3, g4, g5⟩ := f rfl
  refine ⟨⟨?_, fun x y hx hy => ?_, fun i hi => ?_⟩, fun v hv => ?_, fun k hk => ?_, ?_, fun _ => ⟨fun x y hx hy => ?_, fun x y' hx hy' => ?_, ?_, ⟨?_, fun i x hx => ?_⟩, fun x y hx hy => ?_⟩⟩
  · rw [up2_ne (by omega)]; exact a1
  · rw [up2_ne (by omega)]; exact a2 x y hx hy
  · rw [up2_ne (by omega)]; exact a3 i hi
  · rw [up2_ne (by omega)]; exact b v hv
  · rw [up2_ne (by omega)]; exact c k hk
  · rw [up2_ne (by omega)]; exact d0
  · rw [up2_ne (by omega)]; exact g1 x y hx hy
  · have hg := g2 x y' hx hy'
    have hsd : sd = 0 ∨ sd = 1 := by omega
    rcases hsd with e | e
    · rw [e, if_pos rfl, if_pos rfl]
      refine ⟨?_, ?_⟩
      · rw [up2_eq]
        by_cases e2 : x = v ∧ y' = y
        · rw [if_pos ⟨rfl, by omega⟩, e2.1, e2.2, fu2_at]; rfl
        · rw [if_neg (fun z => e2 (by omega)), fu2_ne e2]; exact hg.1
      · rw [up2_nj (by omega)]; exact hg.2
    · rw [e, if_neg (by omega), if_neg (by omega)]
      refine ⟨?_, ?_⟩
      · rw [up2_nj (by omega)]; exact hg.1
      · rw [up2_eq]
        by_cases e2 : x = v ∧ y' = y
        · rw [if_pos ⟨rfl, by omega⟩, e2.1, e2.2, fu2_at]; rfl
        · rw [if_neg (fun z => e2 (by omega)), fu2_ne e2]; exact hg.2
  · rw [up2_ne (by omega)]; exact g3
  · rw [up2_ne (by omega)]; exact g4.1
  · rw [up2_ne (by omega), up2_ne (by omega), up2_ne (by omega), up2_ne (by omega)]; exact g4.2 i x hx
  · rw [up2_ne (by omega)]; exact g5 x y hx hy
theorem WFs.told {sd v y d : Nat} (hd : d ≤ 90000) (h : WFs m A row rk mk LO LI TO TI true) : WFs m A row rk mk LO LI (if sd = 0 then fu2 TO v y (some d) else TO) (if sd = 0 then TI else fu2 TI v y (some d)) true := by
  refine ⟨h.1, h.2.1, h.2.2.1, h.2.2.2.1, fun _ a b ha hb => ?_⟩
  have h0 := h.2.2.2.2 rfl a b ha hb
  have key : ∀ T : Nat → Nat → Option Nat, on_ok 90000 (T a b) → on_ok 90000 (fu2 T v y (some d) a b) := fun T hT => by
    by_cases e : a = v ∧ b = y
    · rw [e.1, e.2, fu2_at]
      intro d' hd'
      cases hd'
      exact hd
    · rw [fu2_ne e]; exact hT
  by_cases e : sd = 0
  · rw [if_pos e, if_pos e]; exact ⟨key TO h0.1, h0.2⟩
  · rw [if_neg e, if_neg e]; exact ⟨h0.1, key TI h0.2⟩
theorem call_damage {x1 x2 x3 x4 : Int32} (hF : 5000 ≤ F) (SD : shD K R o) (SR : shR K R (o + 148)) (g : SG) (h : Sim o I g) : Cal K R n s o I (f_D_damage F o x1 x2 x3 x4) (f_R_damage F (o + 148) x1 x2 x3 x4) := by
  obtain ⟨m, A, row, rk, mk, LO, LI, TO, TI, ch, hd⟩ := g
  obtain ⟨wf, hD, hR⟩ : WFs m A row rk mk LO LI TO TI hd ∧ RelD o I m A row rk mk LO LI TO TI ch hd ∧ RelR (o + 148) I m A row rk mk LO LI TO TI ch hd := h
  have h16 := wf.1.1
  have fin : ∀ (r : Int32), f_D_damage F o x1 x2 x3 x4 (hp K R n s I) = some (r, hp K R n s I) → (∀ t, RelR (o + 148) t m A row rk mk LO LI TO TI ch hd → f_R_damage F (o + 148) x1 x2 x3 x4 (hp K R n s t) = some (r, hp K R n s (up2 t (o + 148) 0 0)) ∨ ∃ v, f_R_damage F (o + 148) x1 x2 x3 x4 (hp K R n s t) = some (r, hp K R n s (up2 (up2 t (o + 148) 0 0) (o + 148) 23 v))) → Cal K R n s o I (f_D_damage F o x1 x2 x3 x4) (f_R_damage F (o + 148) x1 x2 x3 x4) := fun r e1 e2 =>
    Cal.same (r := r) wf hD hR (I1 := I) e1 (fun _ _ _ => rfl) (fun t ht => by
      rcases e2 t ht with e | ⟨v, e⟩
      · exact ⟨up2 t (o + 148) 0 0, e, fun x hx => up2_ne hx, fun j hj _ _ => up2_nj hj⟩
      · exact ⟨up2 (up2 t (o + 148) 0 0) (o + 148) 23 v, e, fun x hx => by rw [up2_ne hx, up2_ne hx], fun j hj hj2 _ => by rw [up2_nj hj2, up2_nj hj]⟩)
  have n10 : ¬ (1 : Int32) = 0 := by decide
  have hm10 : (-1 : Int32) < 0 := by decide
  cases hd with
  | false =>
    refine fin (-4) ?_ (fun t ht => Or.inl ?_)
    · unfold f_D_damage
      simp only [eD_gi SD, Option.bind_some, hD.2.2.2.1, bI_f, if_true]
    · have w1 : up2 t (o + 148) 0 0 (o + 148) 5 = bI false := ht.fr0.2.2.2.1
      unfold f_R_damage
      simp only [eR_pi SR, Option.bind_some, eR_gi SR, w1, bI_f, if_true]
  | true =>
    have w5 : ∀ t, RelR (o + 148) t m A row rk mk LO LI TO TI ch true → up2 t (o + 148) 0 0 (o + 148) 5 = bI true := fun t ht => ht.fr0.2.2.2.1
    have wm : ∀ t, RelR (o + 148) t m A row rk mk LO LI TO TI ch true → up2 t (o + 148) 0 0 (o + 148) 1 = nI m := fun t ht => ht.fr0.1.1
    rcases sd_all (x := x1) with ⟨z0, z1, z2⟩ | ⟨sd, hs, rfl⟩
    · refine fin (-2) ?_ (fun t ht => Or.inl ?_)
      · unfold f_D_damage
        simp only [eD_gi SD, Option.bind_some, hD.2.2.2.1, bI_t, if_neg n10, isSide_n z0 z1, hm_and_some, if_true]
      · unfold f_R_damage f_R_damage_46 f_R_damage_47
        simp only [eR_pi SR, Option.bind_some, eR_gi SR, w5 t ht, bI_t, if_neg n10, in01_n z2, hm_and_some, if_true, if_pos hm10]
    · rcases ix2 x2 h16 with hb | ⟨v, hv, rfl⟩
      · refine fin (-2) ?_ (fun t ht => Or.inl ?_)
        · unfold f_D_damage
          simp only [eD_gi SD, Option.bind_some, hD.2.2.2.1, bI_t, if_neg n10, isSide_y hs, hm_and_some, eD_r0 SD, eN_is SD.N1, N_has_n SD.N1 hD.1.1 hb, if_true]
        · unfold f_R_damage f_R_damage_46 f_R_damage_47
          simp only [eR_pi SR, Option.bind_some, eR_gi SR, w5 t ht, bI_t, if_neg n10, in01_y hs, hm_and_some, eR_is SR, R_noNode_n SR (wm t ht) h16 hb, if_pos hm10]
      · have hTD := sd_D (sd := sd) wf hD
        have hTR : ∀ t, RelR (o + 148) t m A row rk mk LO LI TO TI ch true → ∀ x y, x < m → y < m → up2 t (o + 148) 0 0 (o + 148 + 7) (256 * sd + (16 * x + y)) = enS (sdT sd TO TI x y) ∧ on_ok 90000 (sdT sd TO TI x y) := fun t ht => sd_R hs wf ht.fr0
        have hrR : ∀ t, RelR (o + 148) t m A row rk mk LO LI TO TI ch true → ∀ i, i < m → up2 t (o + 148) 0 0 (o + 148 + 2) i = nI (row i) := fun t ht => ht.fr0.1.2.2
        have SL := sd_L SD hs
        have eof := sd_of (F := F) (n := n) (s := s) (I := I) SD hs
        generalize sdT sd TO TI = T at *
        obtain ⟨r, e1, e2⟩ := L_stat (F := F) (n := n) (s := s) (k := x3) (by omega) SD.N1 SL hD.1.1 wf.1 hD.1.2.1 hTD hv
        by_cases c2 : x3 < 0
        · have er := fst_bad h16 (Or.inl c2) e2
          subst er
          have em : enD (Option.map row none) = -1 := rfl
          refine fin (-2) ?_ (fun t ht => Or.inl ?_)
          · unfold f_D_damage
            simp only [eD_gi SD, Option.bind_some, hD.2.2.2.1, bI_t, if_neg n10, isSide_y hs, hm_and_some, eD_r0 SD, eN_is SD.N1, N_has_y SD.N1 hD.1.1 h16 hv, eD_is SD, eof, eL_is SL, e1, em, if_true]
            split
            · rfl
            · split <;> rfl
          · unfold f_R_damage f_R_damage_46 f_R_damage_47
            simp only [eR_pi SR, Option.bind_some, eR_gi SR, w5 t ht, bI_t, if_neg n10, in01_y hs, hm_and_some, eR_is SR, R_noNode_y SR (wm t ht) h16 hv, if_true, if_pos c2, if_pos hm10]
        · have eR : ∀ t, RelR (o + 148) t m A row rk mk LO LI TO TI ch true → f_R_nth F (o + 148) (nI sd) (nI v) x3 (hp K R n s (up2 t (o + 148) 0 0)) = some (enD (r.map row), hp K R n s (if r = none then up2 (up2 t (o + 148) 0 0) (o + 148) 23 (nI (cs (T v) row m)) else up2 t (o + 148) 0 0)) := fun t ht => by
            obtain ⟨r', e3, e4⟩ := R_nth (F := F) (n := n) (s := s) (k := x3) (by omega) SR (wm t ht) wf.1 (hrR t ht) hs (hTR t ht) hv
            rw [fst_one e2 e4]; exact e3
          cases r with
          | none =>
            have em : enD (Option.map row none) = -1 := rfl
            refine fin (-2) ?_ (fun t ht => Or.inr ⟨nI (cs (T v) row m), ?_⟩)
            · unfold f_D_damage
              simp only [eD_gi SD, Option.bind_some, hD.2.2.2.1, bI_t, if_neg n10, isSide_y hs, hm_and_some, eD_r0 SD, eN_is SD.N1, N_has_y SD.N1 hD.1.1 h16 hv, eD_is SD, eof, eL_is SL, e1, em, if_true]
              split
              · rfl
              · split <;> rfl
            · have e3 := eR t ht
              rw [if_pos rfl, em] at e3
              unfold f_R_damage f_R_damage_47
              simp only [eR_pi SR, Option.bind_some, eR_gi SR, w5 t ht, bI_t, if_neg n10, in01_y hs, hm_and_some, eR_is SR, R_noNode_y SR (wm t ht) h16 hv, if_true, if_neg c2, e3, if_pos hm10]
          | some i =>
            have em : enD (Option.map row (some i)) = nI (row i) := rfl
            rcases e2 with ⟨i', hi, hP, _, e9⟩ | ⟨_, e9⟩
            · cases e9
              have hri := (wf.1.2.1 i hi).1
              have p0 : ¬ nI (row i) < 0 := nI_pos (by omega)
              have eR' : ∀ t, RelR (o + 148) t m A row rk mk LO LI TO TI ch true → f_R_nth F (o + 148) (nI sd) (nI v) x3 (hp K R n s (up2 t (o + 148) 0 0)) = some (nI (row i), hp K R n s (up2 t (o + 148) 0 0)) := fun t ht => by
                have e3 := eR t ht
                rw [if_neg (fun z => by cases z), em] at e3
                exact e3
              by_cases l1 : x4 < (-1000 : Int32)
              · refine fin (-2) ?_ (fun t ht => Or.inl ?_)
                · unfold f_D_damage
                  simp only [eD_gi SD, Option.bind_some, hD.2.2.2.1, bI_t, if_neg n10, isSide_y hs, hm_and_some, eD_r0 SD, eN_is SD.N1, N_has_y SD.N1 hD.1.1 h16 hv, if_pos l1]
                · have inn : ∀ h : hm_T, f_R_in F x4 (-1000 : Int32) (1000 : Int32) h = some (0, h) := fun h => by
                    unfold f_R_in
                    rw [if_pos l1, zr_0, Option.bind_some]
                  unfold f_R_damage f_R_damage_47
                  simp only [eR_pi SR, Option.bind_some, eR_gi SR, w5 t ht, bI_t, if_neg n10, in01_y hs, hm_and_some, eR_is SR, R_noNode_y SR (wm t ht) h16 hv, if_true, if_neg c2, eR' t ht, if_neg p0, inn]
              by_cases l2 : x4 ≤ (1000 : Int32)
              · obtain ⟨d, hdv⟩ : ∃ d, T v (row i) = some d := by
                  cases hc : T v (row i) with
                  | none => exact absurd hc hP.1
                  | some d => exact ⟨d, rfl⟩
                have hle := (hTD v _ hv hri).2 d hdv
                have xD : hm_ild (hp K R n s I) (sdA o sd + 18 + 1 + v) (nI (row i)) = some (nI d) := by rw [gd_ild SL.g18 (by omega) (by omega), (hTD v _ hv hri).1, hdv]; rfl
                have xR : ∀ t, RelR (o + 148) t m A row rk mk LO LI TO TI ch true → hm_ild (hp K R n s (up2 t (o + 148) 0 0)) (o + 148 + 7) ((256 : Int32) * nI sd + (16 : Int32) * nI v + nI (row i)) = some (nI (d + 1)) := fun t ht => by rw [ix3, hp_ild SR.K7 (by omega) (by omega), (hTR t ht v _ hv hri).1, hdv]; rfl
                have iny : ∀ h : hm_T, f_R_in F x4 (-1000 : Int32) (1000 : Int32) h = some (1, h) := fun h => by
                  unfold f_R_in
                  rw [if_neg l1, if_neg (Int32.not_lt.mpr l2), zr_1, Option.bind_some]
                rcases pk_ix (nI d + x4) (n := 90001) (by omega) with hb | hb | ⟨d', hd', he⟩
                · refine fin (-2) ?_ (fun t ht => Or.inl ?_)
                  · unfold f_D_damage
                    simp only [eD_gi SD, Option.bind_some, hD.2.2.2.1, bI_t, if_neg n10, isSide_y hs, hm_and_some, eD_r0 SD, eN_is SD.N1, N_has_y SD.N1 hD.1.1 h16 hv, if_neg l1, if_pos l2, eD_is SD, eof, eL_is SL, e1, em, if_neg (nI_m1 (show row i < 2 ^ 31 by omega)), eL_r1 SL, gd_ald SL.g18 (show v < 16 by omega), xD, if_pos hb]
                  · have inn : ∀ h : hm_T, f_R_in F (nI d + x4) (0 : Int32) (90000 : Int32) h = some (0, h) := fun h => by
                      unfold f_R_in
                      rw [if_pos hb, zr_0, Option.bind_some]
                    unfold f_R_damage f_R_damage_47
                    simp only [eR_pi SR, Option.bind_some, eR_gi SR, w5 t ht, bI_t, if_neg n10, in01_y hs, hm_and_some, eR_is SR, R_noNode_y SR (wm t ht) h16 hv, if_true, if_neg c2, eR' t ht, if_neg p0, iny, eR_r9 SR, xR t ht, nI_pred, inn]
                · have hb0 : ¬ nI d + x4 < 0 := fun z => absurd (Int32.lt_of_le_of_lt hb z) (nI_pos (by omega))
                  have hb1 : (90000 : Int32) < nI d + x4 := Int32.lt_of_lt_of_le (show (90000 : Int32) < nI 90001 by decide +kernel) hb
                  refine fin (-2) ?_ (fun t ht => Or.inl ?_)
                  · unfold f_D_damage
                    simp only [eD_gi SD, Option.bind_some, hD.2.2.2.1, bI_t, if_neg n10, isSide_y hs, hm_and_some, eD_r0 SD, eN_is SD.N1, N_has_y SD.N1 hD.1.1 h16 hv, if_neg l1, if_pos l2, eD_is SD, eof, eL_is SL, e1, em, if_neg (nI_m1 (show row i < 2 ^ 31 by omega)), eL_r1 SL, gd_ald SL.g18 (show v < 16 by omega), xD, if_neg hb0, if_neg (Int32.not_le.mpr hb1)]
                  · have inn : ∀ h : hm_T, f_R_in F (nI d + x4) (0 : Int32) (90000 : Int32) h = some (0, h) := fun h => by
                      unfold f_R_in
                      rw [if_neg hb0, if_pos hb1, zr_0, Option.bind_some]
                    unfold f_R_damage f_R_damage_47
                    simp only [eR_pi SR, Option.bind_some, eR_gi SR, w5 t ht, bI_t, if_neg n10, in01_y hs, hm_and_some, eR_is SR, R_noNode_y SR (wm t ht) h16 hv, if_true, if_neg c2, eR' t ht, if_neg p0, iny, eR_r9 SR, xR t ht, nI_pred, inn]
                · have hb0 : ¬ nI d' < 0 := nI_pos (by omega)
                  have hb1 : nI d' ≤ (90000 : Int32) := by rw [n_90k, nI_leI (by omega) (by omega)]; omega
                  have e9 : f_D_damage F o (nI sd) (nI v) x3 x4 (hp K R n s I) = some (nI d', hp K R n s (up2 I (sdA o sd + 18 + 1 + v) (row i) (nI d'))) := by
                    unfold f_D_damage
                    simp only [eD_gi SD, Option.bind_some, hD.2.2.2.1, bI_t, if_neg n10, isSide_y hs, hm_and_some, eD_r0 SD, eN_is SD.N1, N_has_y SD.N1 hD.1.1 h16 hv, if_neg l1, if_pos l2, eD_is SD, eof, eL_is SL, e1, em, if_neg (nI_m1 (show row i < 2 ^ 31 by omega)), eL_r1 SL, gd_ald SL.g18 (show v < 16 by omega), xD, he, if_neg hb0, if_pos hb1, gd_ist SL.g18 (show v < 16 by omega) (show row i < 16 by omega)]
                  have hlo : sdA o sd + 18 + 1 + v < o + 148 := by
                    unfold sdA
                    split <;> omega
                  refine Cal.of m A row rk mk LO LI _ _ ch true hR e9 (fun x hx => up2_ne (by omega)) (hD.told hs h16 hv hri) (fun t ht => ⟨_, ?_, fun x hx => ?_, (ht.fr0).told hs h16 hv hri⟩) (wf.told (by omega))
                  · have inn : ∀ h : hm_T, f_R_in F (nI d') (0 : Int32) (90000 : Int32) h = some (1, h) := fun h => by
                      unfold f_R_in
                      rw [if_neg hb0, if_neg (Int32.not_lt.mpr hb1), zr_1, Option.bind_some]
                    have xS : hm_ist (hp K R n s (up2 t (o + 148) 0 0)) (o + 148 + 7) ((256 : Int32) * nI sd + (16 : Int32) * nI v + nI (row i)) (nI (d' + 1)) = some (hp K R n s (up2 (up2 t (o + 148) 0 0) (o + 148 + 7) (256 * sd + (16 * v + row i)) (nI (d' + 1)))) := by rw [ix3, hp_ist SR.K7 (by omega) (by omega)]
                    unfold f_R_damage f_R_damage_47
                    simp only [eR_pi SR, Option.bind_some, eR_gi SR, w5 t ht, bI_t, if_neg n10, in01_y hs, hm_and_some, eR_is SR, R_noNode_y SR (wm t ht) h16 hv, if_true, if_neg c2, eR' t ht, if_neg p0, iny, eR_r9 SR, xR t ht, nI_pred, he, inn, nI_1, xS]
                  · rw [up2_ne (by omega), up2_ne (by omega)]
              · refine fin (-2) ?_ (fun t ht => Or.inl ?_)
                · unfold f_D_damage
                  simp only [eD_gi SD, Option.bind_some, hD.2.2.2.1, bI_t, if_neg n10, isSide_y hs, hm_and_some, eD_r0 SD, eN_is SD.N1, N_has_y SD.N1 hD.1.1 h16 hv, if_neg l1, if_neg l2]
                · have inn : ∀ h : hm_T, f_R_in F x4 (-1000 : Int32) (1000 : Int32) h = some (0, h) := fun h => by
                    unfold f_R_in
                    rw [if_neg l1, if_pos (Int32.not_le.mp l2), zr_0, Option.bind_some]
                  unfold f_R_damage f_R_damage_47
                  simp only [eR_pi SR, Option.bind_some, eR_gi SR, w5 t ht, bI_t, if_neg n10, in01_y hs, hm_and_some, eR_is SR, R_noNode_y SR (wm t ht) h16 hv, if_true, if_neg c2, eR' t ht, if_neg p0, inn]
            · cases e9
end LB
