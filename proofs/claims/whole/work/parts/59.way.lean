/-! THE CALLS least, shortcut, way -/
theorem least_ex {P : Nat → Prop} : ∀ m, (∃ v, v < m ∧ P v) → ∃ v, v < m ∧ P v ∧ ∀ v', v' < v → ¬ P v'
  | 0, ⟨v, h, _⟩ => by omega
  | m + 1, ⟨v, h, hv⟩ => by
    by_cases hc : ∃ v, v < m ∧ P v
    · obtain ⟨w, h1, h2⟩ := least_ex m hc
      exact ⟨w, by omega, h2⟩
    · refine ⟨v, h, hv, fun v' hv' hp => hc ⟨v', by omega, hp⟩⟩
section WY
variable {K : Nat → Option ((Nat ⊕ Nat) × Nat)} {R : Nat → Nat → Option Nat} {n s F o q m ch : Nat} {I : Nat → Nat → Int32} {A LO LI TO TI : Nat → Nat → Option Nat} {row rk : Nat → Nat} {mk : Nat → Bool}
theorem D_lead {x y : Option Nat} {h : hm_T} (hx : on_ok 1000000 x) (hy : on_ok 1000000 y) : f_D_lead F (enD x) (enD y) h = some (leadI x y, h) := by
  unfold f_D_lead f_D_lead_10
  cases x with
  | none => rw [if_pos (show enD none = -1 from rfl)]; rfl
  | some a =>
    have := hx a rfl
    rw [if_neg (show ¬ enD (some a) = -1 from enD_ne (by omega))]
    cases y with
    | none => rw [if_pos (show enD none = -1 from rfl)]; rfl
    | some b =>
      have := hy b rfl
      rw [if_neg (show ¬ enD (some b) = -1 from enD_ne (by omega))]
      rfl
def sure (D : Nat → Nat → Option Nat) (l a b : Nat) : Prop := (D l a ≠ none ∧ D l b = none) ∨ (D b l ≠ none ∧ D a l = none)
def lstN (D : Nat → Nat → Option Nat) (l a b : Nat) (x : Int32) : Int32 := if (if x < leadI (D l b) (D l a) then leadI (D l b) (D l a) else x) < leadI (D a l) (D b l) then leadI (D a l) (D b l) else (if x < leadI (D l b) (D l a) then leadI (D l b) (D l a) else x)
theorem D_sure {l a b : Nat} (SD : shD K R o) (wf : WFs m A row rk mk LO LI TO TI true) (hD : RelD o I m A row rk mk LO LI TO TI ch true) (hl : l < m) (ha : a < m) (hb : b < m) : (sure (dD A row m) l a b → f_D_isSureBy F o (nI l) (nI a) (nI b) (hp K R n s I) = some (1, hp K R n s I)) ∧ (¬ sure (dD A row m) l a b → f_D_isSureBy F o (nI l) (nI a) (nI b) (hp K R n s I) = some (0, hp K R n s I)) := by
  have h16 := wf.1.1
  have e1 := enD_no wf hl ha
  have e2 := enD_no wf hl hb
  have e3 := enD_no wf hb hl
  have e4 := enD_no wf ha hl
  unfold f_D_isSureBy f_D_isSureBy_24 f_D_isSureBy_48 sure
  simp only [eD_r1 SD, Option.bind_some, gd_ald SD.g21 (show l < 16 by omega), gd_ald SD.g21 (show a < 16 by omega), gd_ald SD.g21 (show b < 16 by omega), D_dist SD wf hD hl ha, D_dist SD wf hD hl hb, D_dist SD wf hD hb hl, D_dist SD wf hD ha hl, e1, e2, e3, e4, zr_0, zr_1]
  by_cases c1 : dD A row m l a = none <;> by_cases c2 : dD A row m l b = none <;> by_cases c3 : dD A row m b l = none <;> by_cases c4 : dD A row m a l = none <;> simp [c1, c2, c3, c4]
theorem R_lst {l a b N : Nat} {x : Int32} (SR : shR K R q) (wf : WFs m A row rk mk LO LI TO TI true) (hR : RelR q I m A row rk mk LO LI TO TI ch true) (hl : l < m) (ha : a < m) (hb : b < m) (hk : mk l = true) : (sure (dD A row m) l a b → f_R_least_32 F (N + 1) q (nI a) (nI b) x (nI l) (hp K R n s I) = some (-1, hp K R n s I)) ∧ (¬ sure (dD A row m) l a b → f_R_least_32 F (N + 1) q (nI a) (nI b) x (nI l) (hp K R n s I) = f_R_least_32 F N q (nI a) (nI b) (lstN (dD A row m) l a b x) (nI (l + 1)) (hp K R n s I)) := by
  have h16 := wf.1.1
  have tail : ∀ v w : Int32, f_R_least_193 F (f_R_least_32 F N) q (nI a) (nI b) x (nI l) v w (hp K R n s I) = f_R_least_32 F N q (nI a) (nI b) (if (if x < v then v else x) < w then w else (if x < v then v else x)) (nI (l + 1)) (hp K R n s I) := by
    intro v w
    unfold f_R_least_193 f_R_least_207 f_R_least_220 f_R_least_221
    rw [nI_1]
    by_cases z : v ≤ x
    · rw [if_pos z, if_neg (show ¬ x < v from Int32.not_lt.mpr z)]
      by_cases y : w ≤ x
      · rw [if_pos y, if_neg (Int32.not_lt.mpr y)]
      · rw [if_neg y, if_pos (Int32.not_le.mp y)]
    · rw [if_neg z, if_pos (show x < v from Int32.not_le.mp z)]
      by_cases y : w ≤ v
      · rw [if_pos y, if_neg (Int32.not_lt.mpr y)]
      · rw [if_neg y, if_pos (Int32.not_le.mp y)]
  have l1 : hm_zld (hp K R n s I) (q + 3) (nI l) = some 1 := by rw [hp_zld SR.K3 (by omega) (by omega), hR.2.1 l (by omega), hk]; rfl
  have i1 := R_isWay (F := F) (n := n) (s := s) SR wf hR hl ha
  have i2 := R_isWay (F := F) (n := n) (s := s) SR wf hR hl hb
  have i3 := R_isWay (F := F) (n := n) (s := s) SR wf hR hb hl
  have i4 := R_isWay (F := F) (n := n) (s := s) SR wf hR ha hl
  have d1 := R_dist (n := n) (s := s) SR wf hR hl ha
  have d2 := R_dist (n := n) (s := s) SR wf hR hl hb
  have d3 := R_dist (n := n) (s := s) SR wf hR hb hl
  have d4 := R_dist (n := n) (s := s) SR wf hR ha hl
  have n10 : ¬ (1 : Int32) = 0 := by decide
  show (_ → g_R_least_32 F (f_R_least_32 F N) q (nI a) (nI b) x (nI l) (hp K R n s I) = _) ∧ (_ → g_R_least_32 F (f_R_least_32 F N) q (nI a) (nI b) x (nI l) (hp K R n s I) = _)
  unfold g_R_least_32 f_R_least_71 f_R_least_93 f_R_least_141 f_R_least_142 f_R_least_192 lstN sure
  simp only [eR_gi SR, Option.bind_some, hR.1.1, if_neg (nI_ge hl (show m < 2 ^ 31 by omega)), eR_r4 SR, l1, if_neg n10, eR_is SR, i1, i2, i3, i4, hm_and_some, eR_r6 SR, d1, d2, d3, d4, tail]
  cases c1 : dD A row m l a <;> cases c2 : dD A row m l b <;> cases c3 : dD A row m b l <;> cases c4 : dD A row m a l <;> (simp [leadI, enR]; try rfl)
theorem call_least {x1 x2 : Int32} (hF : 5000 ≤ F) (SD : shD K R o) (SR : shR K R (o + 148)) (g : SG) (h : Sim o I g) : Cal K R n s o I (f_D_least F o x1 x2) (f_R_least F (o + 148) x1 x2) := by
  obtain ⟨m, A, row, rk, mk, LO, LI, TO, TI, ch, hd⟩ := g
  obtain ⟨wf, hD, hR⟩ : WFs m A row rk mk LO LI TO TI hd ∧ RelD o I m A row rk mk LO LI TO TI ch hd ∧ RelR (o + 148) I m A row rk mk LO LI TO TI ch hd := h
  have h16 := wf.1.1
  refine ref_least SD SR wf hD hR (fun a b ha hb hh e1 e2 => ?_)
  subst hh e1 e2
  have hR0 := hR.fr0
  have w1 : up2 I (o + 148) 0 0 (o + 148) 5 = bI true := hR0.2.2.2.1
  have w2 : up2 I (o + 148) 0 0 (o + 148) 1 = nI m := hR0.1.1
  have key : ∃ r, f_D_least_19 F F o (nI a) (nI b) (nI 0) (nI 0) (hp K R n s I) = some (r, hp K R n s I) ∧ f_R_least_32 F F (o + 148) (nI a) (nI b) (nI 0) (nI 0) (hp K R n s (up2 I (o + 148) 0 0)) = some (r, hp K R n s (up2 I (o + 148) 0 0)) := by
    generalize up2 I (o + 148) 0 0 = t0 at hR0 w2 ⊢
    refine hl_up (fun N l (x : Int32) => (f_D_least_19 F N o (nI a) (nI b) x (nI l) (hp K R n s I), f_R_least_32 F N (o + 148) (nI a) (nI b) x (nI l) (hp K R n s t0))) (fun z => ∃ r, z.1 = some (r, hp K R n s I) ∧ z.2 = some (r, hp K R n s t0)) (fun _ _ => True) m ?_ ?_ F 0 (nI 0) (by omega) (by omega) trivial
    · intro N l x hl _
      have l1 : hm_zld (hp K R n s I) (o + 147) (nI l) = some (bI (mk l)) := by rw [hp_zld SD.K147 (by omega) (by omega), hD.2.1.1 l (by omega)]
      have hDu : f_D_least_19 F (N + 1) o (nI a) (nI b) x (nI l) (hp K R n s I) = g_D_least_19 F (f_D_least_19 F N) o (nI a) (nI b) x (nI l) (hp K R n s I) := rfl
      cases hk : mk l with
      | false =>
        refine Or.inr ⟨x, trivial, ?_⟩
        have l2 : hm_zld (hp K R n s t0) (o + 148 + 3) (nI l) = some 0 := by rw [hp_zld SR.K3 (by omega) (by omega), hR0.2.1 l (by omega), hk]; rfl
        show (g_D_least_19 F (f_D_least_19 F N) o (nI a) (nI b) x (nI l) (hp K R n s I), g_R_least_32 F (f_R_least_32 F N) (o + 148) (nI a) (nI b) x (nI l) (hp K R n s t0)) = _
        unfold g_D_least_19 g_R_least_32 f_D_least_110 f_R_least_221
        simp only [eD_r0 SD, Option.bind_some, eN_gi SD.N1, hD.1.1, if_neg (nI_ge hl (show m < 2 ^ 31 by omega)), eD_r5 SD, l1, hk, bI_f, if_true, eR_gi SR, w2, eR_r4 SR, l2, nI_1]
      | true =>
        have sD := D_sure (F := F) (n := n) (s := s) SD wf hD hl ha hb
        have sR := R_lst (F := F) (n := n) (s := s) (N := N) (x := x) SR wf hR0 hl ha hb hk
        by_cases z : sure (dD A row m) l a b
        · refine Or.inl ⟨-1, ?_, sR.1 z⟩
          show g_D_least_19 F (f_D_least_19 F N) o (nI a) (nI b) x (nI l) (hp K R n s I) = _
          unfold g_D_least_19
          simp only [eD_r0 SD, Option.bind_some, eN_gi SD.N1, hD.1.1, if_neg (nI_ge hl (show m < 2 ^ 31 by omega)), eD_r5 SD, l1, hk, bI_t, if_neg (show ¬ (1 : Int32) = 0 by decide), eD_is SD, sD.1 z, hm_and_some]
        · refine Or.inr ⟨lstN (dD A row m) l a b x, trivial, ?_⟩
          have x1 := D_lead (F := F) (h := hp K R n s I) (on_ok_mono (wf.dok hl hb) (show 17000 ≤ 1000000 by omega)) (on_ok_mono (wf.dok hl ha) (show 17000 ≤ 1000000 by omega))
          have x2 := D_lead (F := F) (h := hp K R n s I) (on_ok_mono (wf.dok ha hl) (show 17000 ≤ 1000000 by omega)) (on_ok_mono (wf.dok hb hl) (show 17000 ≤ 1000000 by omega))
          show (g_D_least_19 F (f_D_least_19 F N) o (nI a) (nI b) x (nI l) (hp K R n s I), f_R_least_32 F (N + 1) (o + 148) (nI a) (nI b) x (nI l) (hp K R n s t0)) = _
          rw [sR.2 z]
          unfold g_D_least_19 f_D_least_110
          simp only [eD_r0 SD, Option.bind_some, eN_gi SD.N1, hD.1.1, if_neg (nI_ge hl (show m < 2 ^ 31 by omega)), eD_r5 SD, l1, hk, bI_t, if_neg (show ¬ (1 : Int32) = 0 by decide), eD_is SD, sD.2 z, hm_and_some, if_true, eD_r1 SD, gd_ald SD.g21 (show l < 16 by omega), gd_ald SD.g21 (show a < 16 by omega), gd_ald SD.g21 (show b < 16 by omega), D_dist SD wf hD hl ha, D_dist SD wf hD hl hb, D_dist SD wf hD hb hl, D_dist SD wf hD ha hl, x1, x2, nI_1]
          rfl
    · intro N x _
      refine ⟨x, ?_, ?_⟩
      · show g_D_least_19 F (f_D_least_19 F N) o (nI a) (nI b) x (nI m) (hp K R n s I) = _
        unfold g_D_least_19
        simp only [eD_r0 SD, Option.bind_some, eN_gi SD.N1, hD.1.1, if_pos (Int32.le_refl (nI m))]
      · show g_R_least_32 F (f_R_least_32 F N) (o + 148) (nI a) (nI b) x (nI m) (hp K R n s t0) = _
        unfold g_R_least_32
        simp only [eR_gi SR, Option.bind_some, w2, if_pos (Int32.le_refl (nI m))]
  obtain ⟨r, k1, k2⟩ := key
  refine ⟨r, (m, A, row, rk, mk, LO, LI, TO, TI, ch, true), I, up2 I (o + 148) 0 0, ?_, ?_, wf, hD.fr wf.1.1 (fun x hx _ _ => up2_ne (by omega)), hR0⟩
  · unfold f_D_least
    simp only [eD_is SD, Option.bind_some, D_ref_y SD hD h16 ha hb, hm_and_some, if_true]
    rw [← nI_0]; exact k1
  · unfold f_R_least
    simp only [eR_pi SR, Option.bind_some, eR_gi SR, w1, bI_t, if_neg (show ¬ (1 : Int32) = 0 by decide), eR_is SR, R_noPair_y SR w2 h16 ha hb, hm_and_some, if_true]
    rw [← nI_0]; exact k2
/-- the next node of a least way -/
def nxt (A : Nat → Nat → Option Nat) (D : Nat → Nat → Option Nat) (x b v : Nat) : Prop := on_add (A x v) (D v b) = D x b
theorem nxt_ex {x b d : Nat} (hp0 : prm m row rk) (hA : nok m A) (hx : x < m) (hb : b < m) (hne : x ≠ b) (hd : dD A row m x b = some d) : ∃ v, v < m ∧ nxt A (dD A row m) x b v := by
  have h2 : fwI A row m x b = some d := (fw_dg hne).symm.trans hd
  obtain ⟨p, hp, e⟩ := (fw_D A row m x b).2 d h2
  have low : ∀ v, v < m → on_le (dD A row m x b) (on_add (A x v) (dD A row m v b)) := fun v hv => by
    refine on_le_tr (dD_tri hp0 hv) (on_add_mono ?_ (on_le_rf _))
    exact on_le_tr fw_le (dg_le A x v)
  cases p with
  | nil =>
    refine ⟨b, hb, ?_⟩
    have e' : A x b = some d := e
    unfold nxt
    rw [dD_0, on_add_0, e', hd]
  | cons u p =>
    obtain ⟨i, hi, hu⟩ := hp u List.mem_cons_self
    have hum : u < m := by rw [← hu]; exact (hp0.2.1 i hi).1
    refine ⟨u, hum, on_le_as ?_ (low u hum)⟩
    have e' : on_add (A x u) (wk_len A u p b) = some d := e
    rw [hd, ← e']
    exact on_add_mono (on_le_rf _) (on_le_tr ((fw_D (dg A) row m u b).1 p (fun v hv => hp v (List.mem_cons_of_mem _ hv))) (wk_mono (dg_le A) b p u))
theorem D_next {x b v d : Nat} (hF : 20 ≤ F) (SD : shD K R o) (wf : WFs m A row rk mk LO LI TO TI true) (hD : RelD o I m A row rk mk LO LI TO TI ch true) (hx : x < m) (hb : b < m) (hd : dD A row m x b = some d) (hv : v < m) (h1 : nxt A (dD A row m) x b v) (h2 : ∀ v', v' < v → ¬ nxt A (dD A row m) x b v') : f_D_nextOnWay F o (nI x) (nI b) (hp K R n s I) = some (nI v, hp K R n s I) := by
  have h16 := wf.1.1
  unfold f_D_nextOnWay
  rw [← nI_0]
  have Aok : ∀ y, y < m → on_ok 1000 (A x y) := fun y hy d hd => (wf.2.1 x y (by omega) (by omega) d hd).2.1
  have st : ∀ N y, y < m → (nxt A (dD A row m) x b y → g_D_nextOnWay_2 F (f_D_nextOnWay_2 F N) o (nI x) (nI b) (nI y) (hp K R n s I) = some (nI y, hp K R n s I)) ∧ (¬ nxt A (dD A row m) x b y → g_D_nextOnWay_2 F (f_D_nextOnWay_2 F N) o (nI x) (nI b) (nI y) (hp K R n s I) = f_D_nextOnWay_2 F N o (nI x) (nI b) (nI (y + 1)) (hp K R n s I)) := by
    intro N y hy
    have x1 : hm_ild (hp K R n s I) (o + 1 + 1 + 1 + x) (nI y) = some (enD (A x y)) := by rw [gd_ild SD.N1.g1 (by omega) (by omega), hD.1.2.2.2.1 x y (by omega) (by omega)]
    have x4 := D_sum (F := F) (h := hp K R n s I) (on_ok_mono (Aok y hy) (show 1000 ≤ 1000000000 by omega)) (on_ok_mono (wf.dok hy hb) (show 17000 ≤ 1000000000 by omega))
    have hno : enD (A x y) = -1 ↔ A x y = none := enD_none (on_ok_mono (Aok y hy) (by omega))
    have heq := enD_inj (on_ok_mono (on_ok_add (Aok y hy) (wf.dok hy hb)) (show 1000 + 17000 ≤ 2000000000 by omega)) (on_ok_mono (wf.dok hx hb) (show 17000 ≤ 2000000000 by omega))
    unfold g_D_nextOnWay_2 f_D_nextOnWay_58 nxt
    simp only [eD_r0 SD, Option.bind_some, eN_gi SD.N1, hD.1.1, if_neg (nI_ge hy (show m < 2 ^ 31 by omega)), eN_r2 SD.N1, gd_ald SD.N1.g1 (show x < 16 by omega), x1, hno, eD_r1 SD, gd_ald SD.g21 (show y < 16 by omega), gd_ald SD.g21 (show x < 16 by omega), D_dist SD wf hD hy hb, D_dist SD wf hD hx hb, x4, hm_and_some, heq, nI_1]
    by_cases c1 : A x y = none
    · refine ⟨fun z => ?_, fun _ => by rw [if_pos c1]⟩
      rw [c1, hd] at z
      cases z
    · rw [if_neg c1]
      exact ⟨fun z => if_pos z, fun z => if_neg z⟩
  refine hl_up (fun N y (_ : Unit) => f_D_nextOnWay_2 F N o (nI x) (nI b) (nI y) (hp K R n s I)) (fun z => z = some (nI v, hp K R n s I)) (fun _ _ => True) v ?_ ?_ F 0 () (by omega) (by omega) trivial
  · intro N y _ hy _
    exact Or.inr ⟨(), trivial, (st N y (by omega)).2 (h2 y hy)⟩
  · intro N _ _
    exact (st N v hv).1 h1
theorem R_next {x b v d : Nat} (hF : 20 ≤ F) (SR : shR K R q) (wf : WFs m A row rk mk LO LI TO TI true) (hR : RelR q I m A row rk mk LO LI TO TI ch true) (hx : x < m) (hb : b < m) (hd : dD A row m x b = some d) (hv : v < m) (h1 : nxt A (dD A row m) x b v) (h2 : ∀ v', v' < v → ¬ nxt A (dD A row m) x b v') : f_R_next F q (nI x) (nI b) (hp K R n s I) = some (nI v, hp K R n s I) := by
  have h16 := wf.1.1
  unfold f_R_next
  rw [← nI_0]
  have Aok : ∀ y, y < m → on_ok 1000 (A x y) := fun y hy d hd => (wf.2.1 x y (by omega) (by omega) d hd).2.1
  have hdb := wf.dok hx hb d hd
  have st : ∀ N y, y < m → (nxt A (dD A row m) x b y → g_R_next_2 F (f_R_next_2 F N) q (nI x) (nI b) (nI y) (hp K R n s I) = some (nI y, hp K R n s I)) ∧ (¬ nxt A (dD A row m) x b y → g_R_next_2 F (f_R_next_2 F N) q (nI x) (nI b) (nI y) (hp K R n s I) = f_R_next_2 F N q (nI x) (nI b) (nI (y + 1)) (hp K R n s I)) := by
    intro N y hy
    have x1 : hm_ild (hp K R n s I) (q + 1) ((16 : Int32) * nI x + nI y) = some (enR (A x y)) := by rw [ix16, hp_ild SR.K1 (by omega) (by omega), hR.1.2.1 x y (by omega) (by omega)]
    have heq := enR_eq (c := d) (on_ok_mono (Aok y hy) (show 1000 ≤ 499999 by omega)) (on_ok_mono (wf.dok hy hb) (show 17000 ≤ 499999 by omega)) (by omega)
    have ed : enR (some d) = nI d := rfl
    unfold g_R_next_2 f_R_next_44
    by_cases e : y = x
    · have hn : ¬ nxt A (dD A row m) x b y := fun z => by
        unfold nxt at z
        rw [e, wf.nok.2 x hx, hd] at z
        cases z
      refine ⟨fun z => absurd z hn, fun _ => ?_⟩
      rw [if_pos (by rw [e]), nI_1]
    · have e' : ¬ nI y = nI x := fun z => e ((nI_eq (by omega) (by omega)).mp z)
      unfold nxt
      simp only [if_neg e', eR_r2 SR, Option.bind_some, x1, eR_r6 SR, R_dist SR wf hR hy hb, R_dist SR wf hR hx hb, hd, ed, heq, nI_1]
      exact ⟨fun z => if_pos z, fun z => if_neg z⟩
  refine hl_up (fun N y (_ : Unit) => f_R_next_2 F N q (nI x) (nI b) (nI y) (hp K R n s I)) (fun z => z = some (nI v, hp K R n s I)) (fun _ _ => True) v ?_ ?_ F 0 () (by omega) (by omega) trivial
  · intro N y _ hy _
    exact Or.inr ⟨(), trivial, (st N y (by omega)).2 (h2 y hy)⟩
  · intro N _ _
    exact (st N v hv).1 h1
/-- how many nodes are nearer to b -/
def nr (D : Nat → Nat → Option Nat) (m x b : Nat) : Nat := sm (fun v => if on_lt (D v b) (D x b) = true then 1 else 0) m
theorem nr_lt {x b : Nat} {D : Nat → Nat → Option Nat} (hx : x < m) : nr D m x b < m := by
  have h : nr D m x b + sm (fun v => if v = x then 1 else 0) m ≤ sm (fun _ => 1) m := by
    unfold nr
    rw [← sm_add]
    refine sm_le m (fun v hv => ?_)
    by_cases e : v = x
    · subst e
      have : on_lt (D v b) (D v b) = false := by cases D v b <;> simp [on_lt]
      rw [if_pos rfl, this]; simp
    · rw [if_neg e]; split <;> omega
  rw [sm_one, if_pos hx, sm_c] at h
  omega
theorem nr_step {x y b : Nat} {D : Nat → Nat → Option Nat} (hy : y < m) (h : on_lt (D y b) (D x b) = true) : nr D m y b < nr D m x b := by
  have h1 : nr D m y b + sm (fun v => if v = y then 1 else 0) m ≤ nr D m x b := by
    unfold nr
    rw [← sm_add]
    refine sm_le m (fun v hv => ?_)
    by_cases e : v = y
    · subst e
      have : on_lt (D v b) (D v b) = false := by cases D v b <;> simp [on_lt]
      rw [if_pos rfl, this, if_pos h]; simp
    · rw [if_neg e]
      by_cases z : on_lt (D v b) (D y b) = true
      · have : on_lt (D v b) (D x b) = true := by
          cases h3 : D v b <;> cases h4 : D y b <;> cases h5 : D x b <;> simp_all [on_lt]
          omega
        rw [if_pos z, if_pos this]; exact Nat.le_refl _
      · rw [if_neg z]; exact Nat.zero_le _
  rw [sm_one, if_pos hy] at h1
  omega
theorem call_way {x1 x2 x3 : Int32} (hF : 5000 ≤ F) (SD : shD K R o) (SR : shR K R (o + 148)) (g : SG) (h : Sim o I g) : Cal K R n s o I (f_D_way F o x1 x2 x3) (f_R_way F (o + 148) x1 x2 x3) := by
  obtain ⟨m, A, row, rk, mk, LO, LI, TO, TI, ch, hd⟩ := g
  obtain ⟨wf, hD, hR⟩ : WFs m A row rk mk LO LI TO TI hd ∧ RelD o I m A row rk mk LO LI TO TI ch hd ∧ RelR (o + 148) I m A row rk mk LO LI TO TI ch hd := h
  have h16 := wf.1.1
  refine ref_way SD SR wf hD hR (fun a b ha hb hh e1 e2 => ?_)
  subst hh e1 e2
  have hR0 := hR.fr0
  have w1 : up2 I (o + 148) 0 0 (o + 148) 5 = bI true := hR0.2.2.2.1
  have w2 : up2 I (o + 148) 0 0 (o + 148) 1 = nI m := hR0.1.1
  have hok := on_ok_mono (wf.dok ha hb) (show 17000 ≤ 999999 by omega)
  have dab := R_dist (n := n) (s := s) SR wf hR0 ha hb
  have fin : ∀ r, f_D_way F o (nI a) (nI b) x3 (hp K R n s I) = some (r, hp K R n s I) → f_R_way F (o + 148) (nI a) (nI b) x3 (hp K R n s I) = some (r, hp K R n s (up2 I (o + 148) 0 0)) → Cal K R n s o I (f_D_way F o (nI a) (nI b) x3) (f_R_way F (o + 148) (nI a) (nI b) x3) := fun r k1 k2 =>
    ⟨r, (m, A, row, rk, mk, LO, LI, TO, TI, ch, true), I, up2 I (o + 148) 0 0, k1, k2, wf, hD.fr wf.1.1 (fun x hx _ _ => up2_ne (by omega)), hR0⟩
  by_cases hn : dD A row m a b = none
  · refine fin (-1) ?_ ?_
    · unfold f_D_way
      simp only [eD_is SD, Option.bind_some, D_ref_y SD hD h16 ha hb, hm_and_some, if_true, eD_r1 SD, gd_ald SD.g21 (show a < 16 by omega), D_dist SD wf hD ha hb, if_pos ((enD_no wf ha hb).mpr hn)]
    · unfold f_R_way
      simp only [eR_pi SR, Option.bind_some, eR_gi SR, w1, bI_t, if_neg (show ¬ (1 : Int32) = 0 by decide), eR_is SR, R_noPair_y SR w2 h16 ha hb, hm_and_some, if_true, eR_r6 SR, dab, if_neg (fun z => (enR_lt hok).mp z hn)]
  -- the reference's loop, the class's beside it
  have key : ∃ r, (-1 ≤ x3 → f_D_way_44 F F o (nI b) x3 (nI a) (nI 0) (hp K R n s I) = some (r, hp K R n s I)) ∧ (¬ -1 ≤ x3 → r = -2) ∧ f_R_way_51 F F (o + 148) (nI b) x3 (nI a) (nI 0) (hp K R n s (up2 I (o + 148) 0 0)) = some (r, hp K R n s (up2 I (o + 148) 0 0)) := by
    generalize up2 I (o + 148) 0 0 = t0 at hR0 ⊢
    refine hl_up (fun N k (x : Nat) => (f_D_way_44 F N o (nI b) x3 (nI x) (nI k) (hp K R n s I), f_R_way_51 F N (o + 148) (nI b) x3 (nI x) (nI k) (hp K R n s t0))) (fun z => ∃ r, (-1 ≤ x3 → z.1 = some (r, hp K R n s I)) ∧ (¬ -1 ≤ x3 → r = -2) ∧ z.2 = some (r, hp K R n s t0)) (fun k x => x < m ∧ dD A row m x b ≠ none ∧ k + nr (dD A row m) m x b ≤ 15) 15 ?_ ?_ F 0 a (by omega) (by omega) ⟨ha, hn, by have := nr_lt (D := dD A row m) (b := b) ha; omega⟩
    · intro N k x hk ⟨hx, hxn, hkn⟩
      show (∃ r, (-1 ≤ x3 → g_D_way_44 F (f_D_way_44 F N) o (nI b) x3 (nI x) (nI k) (hp K R n s I) = some (r, hp K R n s I)) ∧ (¬ -1 ≤ x3 → r = -2) ∧ g_R_way_51 F (f_R_way_51 F N) (o + 148) (nI b) x3 (nI x) (nI k) (hp K R n s t0) = some (r, hp K R n s t0)) ∨ ∃ t', _ ∧ (g_D_way_44 F (f_D_way_44 F N) o (nI b) x3 (nI x) (nI k) (hp K R n s I), g_R_way_51 F (f_R_way_51 F N) (o + 148) (nI b) x3 (nI x) (nI k) (hp K R n s t0)) = _
      have lt16 : ¬ (16 : Int32) ≤ nI k := by rw [n_16]; exact nI_ge (by omega) (by omega)
      by_cases hkx : nI k = x3
      · -- the node asked for
        refine Or.inl ⟨nI x, fun _ => ?_, fun z => absurd (by rw [← hkx]; exact Int32.le_trans (show (-1 : Int32) ≤ 0 by decide) (nI_pos' (by omega))) z, ?_⟩
        · unfold g_D_way_44
          rw [if_neg lt16, if_pos hkx]
        · unfold g_R_way_51 f_R_way_78
          have hm1 : ¬ x3 = -1 := by rw [← hkx]; exact nI_m1 (by omega)
          simp only [if_pos hkx, if_neg hm1, ite_self]
      · by_cases hxb : x = b
        · subst hxb
          by_cases hm1 : x3 = -1
          · refine Or.inl ⟨nI (k + 1), fun _ => ?_, fun z => absurd (by rw [hm1]; exact Int32.le_refl _) z, ?_⟩
            · unfold g_D_way_44 f_D_way_66
              rw [if_neg lt16, if_neg hkx, if_pos rfl, if_pos hm1, nI_1]
            · unfold g_R_way_51 f_R_way_78
              rw [if_pos rfl, if_pos hm1, nI_1]
          · refine Or.inl ⟨-2, fun _ => ?_, fun _ => rfl, ?_⟩
            · unfold g_D_way_44 f_D_way_66
              rw [if_neg lt16, if_neg hkx, if_pos rfl, if_neg hm1]
            · unfold g_R_way_51 f_R_way_78
              rw [if_pos rfl, if_neg hm1, if_neg hkx]
        · have hxb' : ¬ nI x = nI b := fun z => hxb ((nI_eq (by omega) (by omega)).mp z)
          obtain ⟨d, hd⟩ : ∃ d, dD A row m x b = some d := by
            cases hc : dD A row m x b with
            | none => exact absurd hc hxn
            | some d => exact ⟨d, rfl⟩
          obtain ⟨v, hv, hv1, hv2⟩ := least_ex m (nxt_ex wf.1 wf.nok hx hb hxb hd)
          have nD := D_next (F := F) (n := n) (s := s) (by omega) SD wf hD hx hb hd hv hv1 hv2
          have nR := R_next (F := F) (n := n) (s := s) (by omega) SR wf hR0 hx hb hd hv hv1 hv2
          have hlt : on_lt (dD A row m v b) (dD A row m x b) = true ∧ dD A row m v b ≠ none := by
            unfold nxt at hv1
            rw [hd] at hv1
            obtain ⟨p, e, h1, h2, h3⟩ := on_add_some hv1
            have := (wf.2.1 x v (by omega) (by omega) p h1).1
            rw [hd, h2]
            exact ⟨by simp [on_lt]; omega, fun z => by cases z⟩
          have := nr_step (D := dD A row m) hv hlt.1
          refine Or.inr ⟨v, ⟨hv, hlt.2, by omega⟩, ?_⟩
          unfold g_D_way_44 g_R_way_51
          simp only [if_neg lt16, if_neg hkx, if_neg hxb', eD_is SD, Option.bind_some, nD, hm_and_some, eR_is SR, nR, nI_1]
    · intro N x ⟨hx, hxn, hkn⟩
      have hxb : x = b := by
        refine Classical.byContradiction (fun hne => ?_)
        obtain ⟨d, hd⟩ : ∃ d, dD A row m x b = some d := by
          cases hc : dD A row m x b with
          | none => exact absurd hc hxn
          | some d => exact ⟨d, rfl⟩
        have hpos : d ≠ 0 := fun e => hne (dD_pos wf.1 wf.nok hx hb (by rw [hd, e]))
        have := nr_step (D := dD A row m) (x := x) (b := b) hb (by rw [dD_0, hd]; simp [on_lt]; omega)
        omega
      subst hxb
      show ∃ r, (-1 ≤ x3 → g_D_way_44 F (f_D_way_44 F N) o (nI x) x3 (nI x) (nI 15) (hp K R n s I) = some (r, hp K R n s I)) ∧ (¬ -1 ≤ x3 → r = -2) ∧ g_R_way_51 F (f_R_way_51 F N) (o + 148) (nI x) x3 (nI x) (nI 15) (hp K R n s t0) = some (r, hp K R n s t0)
      have lt16 : ¬ (16 : Int32) ≤ nI 15 := by decide +kernel
      by_cases hkx : nI 15 = x3
      · refine ⟨nI x, fun _ => ?_, fun z => absurd (by rw [← hkx]; decide +kernel) z, ?_⟩
        · unfold g_D_way_44
          rw [if_neg lt16, if_pos hkx]
        · unfold g_R_way_51 f_R_way_78
          have hm1 : ¬ x3 = -1 := by rw [← hkx]; exact nI_m1 (by omega)
          simp only [if_pos hkx, if_neg hm1, ite_self]
      · by_cases hm1 : x3 = -1
        · refine ⟨nI 15 + 1, fun _ => ?_, fun z => absurd (by rw [hm1]; exact Int32.le_refl _) z, ?_⟩
          · unfold g_D_way_44 f_D_way_66
            rw [if_neg lt16, if_neg hkx, if_pos rfl, if_pos hm1]
          · unfold g_R_way_51 f_R_way_78
            rw [if_pos rfl, if_pos hm1]
        · refine ⟨-2, fun _ => ?_, fun _ => rfl, ?_⟩
          · unfold g_D_way_44 f_D_way_66
            rw [if_neg lt16, if_neg hkx, if_pos rfl, if_neg hm1]
          · unfold g_R_way_51 f_R_way_78
            rw [if_pos rfl, if_neg hm1, if_neg hkx]
  obtain ⟨r, k1, k2, k3⟩ := key
  refine fin r ?_ ?_
  · unfold f_D_way
    simp only [eD_is SD, Option.bind_some, D_ref_y SD hD h16 ha hb, hm_and_some, if_true, eD_r1 SD, gd_ald SD.g21 (show a < 16 by omega), D_dist SD wf hD ha hb, if_neg (fun z => hn ((enD_no wf ha hb).mp z))]
    by_cases z : (-1 : Int32) ≤ x3
    · rw [if_pos z, ← nI_0]; exact k1 z
    · rw [if_neg z, k2 z]
  · unfold f_R_way
    simp only [eR_pi SR, Option.bind_some, eR_gi SR, w1, bI_t, if_neg (show ¬ (1 : Int32) = 0 by decide), eR_is SR, R_noPair_y SR w2 h16 ha hb, hm_and_some, if_true, eR_r6 SR, dab, if_pos ((enR_lt hok).mpr hn)]
    rw [← nI_0]; exact k3
end WY
