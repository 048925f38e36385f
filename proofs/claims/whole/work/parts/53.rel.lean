/-! WHAT THE CLASS AND THE REFERENCE HOLD IN COMMON -/
def fu {α : Type} (f : Nat → α) (i : Nat) (v : α) (j : Nat) : α := if j = i then v else f j
theorem fu_at {α : Type} (f : Nat → α) (i : Nat) (v : α) : fu f i v i = v := if_pos rfl
theorem fu_ne {α : Type} {f : Nat → α} {i j : Nat} {v : α} (h : j ≠ i) : fu f i v j = f j := if_neg h
def fu2 (A : Nat → Nat → Option Nat) (x y : Nat) (v : Option Nat) (a b : Nat) : Option Nat := if a = x ∧ b = y then v else A a b
theorem fu2_at (A : Nat → Nat → Option Nat) (x y : Nat) (v : Option Nat) : fu2 A x y v x y = v := if_pos ⟨rfl, rfl⟩
theorem fu2_ne {A : Nat → Nat → Option Nat} {x y a b : Nat} {v : Option Nat} (h : ¬ (a = x ∧ b = y)) : fu2 A x y v a b = A a b := if_neg h
def bI (b : Bool) : Int32 := if b = true then 1 else 0
theorem bI_t : bI true = 1 := rfl
theorem bI_f : bI false = 0 := rfl
theorem bI_01 (b : Bool) : bI b = 0 ∨ bI b = 1 := by cases b <;> simp [bI]
theorem bI_0 (b : Bool) : bI b = 0 ↔ b = false := by cases b <;> simp [bI]
/-- how many arcs; how many landmarks -/
def ac (A : Nat → Nat → Option Nat) : Nat := sm (fun c => cnt (A (c / 16) (c % 16))) 256
def mc (mk : Nat → Bool) (m : Nat) : Nat := sm (fun v => if mk v = true then 1 else 0) m
def WFs (m : Nat) (A : Nat → Nat → Option Nat) (row rk : Nat → Nat) (mk : Nat → Bool) (LO LI TO TI : Nat → Nat → Option Nat) (hd : Bool) : Prop :=
  prm m row rk ∧ (∀ x y, x < 16 → y < 16 → ∀ d, A x y = some d → 1 ≤ d ∧ d ≤ 1000 ∧ x < m ∧ y < m ∧ x ≠ y) ∧ ((∀ v, v < 16 → mk v = true → v < m) ∧ mc mk m ≤ 4) ∧ (∀ x y, x < 16 → y < 16 → on_ok 17000 (LO x y) ∧ on_ok 17000 (LI x y) ∧ (¬ (x < m ∧ y < m) → LO x y = none ∧ LI x y = none)) ∧ (hd = true → ∀ x y, x < m → y < m → on_ok 90000 (TO x y) ∧ on_ok 90000 (TI x y))
def nDD (o : Nat) (I : Nat → Nat → Int32) (m : Nat) (A : Nat → Nat → Option Nat) (row rk : Nat → Nat) : Prop :=
  I (o + 1) 0 = nI m ∧ (∀ i, i < m → I (o + 1 + 18) i = nI (row i)) ∧ (∀ v, v < m → I (o + 1 + 19) v = nI (rk v)) ∧ (∀ x y, x < 16 → y < 16 → I (o + 1 + 1 + 1 + x) y = enD (A x y)) ∧ I (o + 1) 1 = nI (ac A)
def mDD (o : Nat) (I : Nat → Nat → Int32) (m : Nat) (mk : Nat → Bool) : Prop := (∀ v, v < 16 → I (o + 147) v = bI (mk v)) ∧ I o 6 = nI (mc mk m)
def lDD (o : Nat) (I : Nat → Nat → Int32) (LO LI : Nat → Nat → Option Nat) : Prop := ∀ x y, x < 16 → y < 16 → I (o + 38 + 1 + 1 + x) y = enD (LO x y) ∧ I (o + 73 + 1 + 1 + x) y = enD (LI x y)
def hDD (o : Nat) (I : Nat → Nat → Int32) (m : Nat) (A : Nat → Nat → Option Nat) (row rk : Nat → Nat) (TO TI : Nat → Nat → Option Nat) (ch : Nat) : Prop :=
  (∀ x y, x < m → y < m → I (o + 21 + 1 + x) y = enD (dD A row m x y)) ∧ (∀ x y, x < m → y < m → I (o + 38 + 18 + 1 + x) y = enD (TO x y) ∧ I (o + 73 + 18 + 1 + x) y = enD (TI x y)) ∧ I o 8 = nI ch ∧ (∀ x y, x < m → y < m → I (o + 108 + 1 + 1 + x) y = enD (cW A row rk m m x y)) ∧ hold I (o + 108) (cL A row rk m m)
def RelD (o : Nat) (I : Nat → Nat → Int32) (m : Nat) (A : Nat → Nat → Option Nat) (row rk : Nat → Nat) (mk : Nat → Bool) (LO LI TO TI : Nat → Nat → Option Nat) (ch : Nat) (hd : Bool) : Prop :=
  nDD o I m A row rk ∧ mDD o I m mk ∧ lDD o I LO LI ∧ I o 7 = bI hd ∧ (hd = true → hDD o I m A row rk TO TI ch)
def nRR (q : Nat) (I : Nat → Nat → Int32) (m : Nat) (A : Nat → Nat → Option Nat) (row : Nat → Nat) : Prop :=
  I q 1 = nI m ∧ (∀ x y, x < 16 → y < 16 → I (q + 1) (16 * x + y) = enR (A x y)) ∧ ∀ i, i < m → I (q + 2) i = nI (row i)
def mRR (q : Nat) (I : Nat → Nat → Int32) (mk : Nat → Bool) : Prop := ∀ v, v < 16 → I (q + 3) v = bI (mk v)
def lRR (q : Nat) (I : Nat → Nat → Int32) (LO LI : Nat → Nat → Option Nat) : Prop := ∀ k, k < 512 → I (q + 5) k = enS (nS 16 LO LI k)
def hRR (q : Nat) (I : Nat → Nat → Int32) (m : Nat) (A : Nat → Nat → Option Nat) (row rk : Nat → Nat) (TO TI : Nat → Nat → Option Nat) (ch : Nat) : Prop :=
  (∀ x y, x < m → y < m → I (q + 4) (16 * x + y) = enR (dD A row m x y)) ∧ (∀ x y, x < m → y < m → I (q + 7) (16 * x + y) = enS (TO x y) ∧ I (q + 7) (256 + (16 * x + y)) = enS (TI x y)) ∧ I q 10 = nI ch ∧ holdR I q (cL A row rk m m) ∧ ∀ x y, x < m → y < m → I (q + 12) (16 * x + y) = enR (clm (cW A row rk m m) row m x y)
def RelR (q : Nat) (I : Nat → Nat → Int32) (m : Nat) (A : Nat → Nat → Option Nat) (row rk : Nat → Nat) (mk : Nat → Bool) (LO LI TO TI : Nat → Nat → Option Nat) (ch : Nat) (hd : Bool) : Prop :=
  nRR q I m A row ∧ mRR q I mk ∧ lRR q I LO LI ∧ I q 5 = bI hd ∧ (hd = true → hRR q I m A row rk TO TI ch)
abbrev SG : Type := Nat × (Nat → Nat → Option Nat) × (Nat → Nat) × (Nat → Nat) × (Nat → Bool) × (Nat → Nat → Option Nat) × (Nat → Nat → Option Nat) × (Nat → Nat → Option Nat) × (Nat → Nat → Option Nat) × Nat × Bool
def Sim (o : Nat) (I : Nat → Nat → Int32) (g : SG) : Prop :=
  WFs g.1 g.2.1 g.2.2.1 g.2.2.2.1 g.2.2.2.2.1 g.2.2.2.2.2.1 g.2.2.2.2.2.2.1 g.2.2.2.2.2.2.2.1 g.2.2.2.2.2.2.2.2.1 g.2.2.2.2.2.2.2.2.2.2 ∧ RelD o I g.1 g.2.1 g.2.2.1 g.2.2.2.1 g.2.2.2.2.1 g.2.2.2.2.2.1 g.2.2.2.2.2.2.1 g.2.2.2.2.2.2.2.1 g.2.2.2.2.2.2.2.2.1 g.2.2.2.2.2.2.2.2.2.1 g.2.2.2.2.2.2.2.2.2.2 ∧ RelR (o + 148) I g.1 g.2.1 g.2.2.1 g.2.2.2.1 g.2.2.2.2.1 g.2.2.2.2.2.1 g.2.2.2.2.2.2.1 g.2.2.2.2.2.2.2.1 g.2.2.2.2.2.2.2.2.1 g.2.2.2.2.2.2.2.2.2.1 g.2.2.2.2.2.2.2.2.2.2
section RL
variable {K : Nat → Option ((Nat ⊕ Nat) × Nat)} {R : Nat → Nat → Option Nat} {n s F o q m ch : Nat} {I : Nat → Nat → Int32} {A LO LI TO TI : Nat → Nat → Option Nat} {row rk : Nat → Nat} {mk : Nat → Bool} {hd : Bool}
theorem WFs.nok (h : WFs m A row rk mk LO LI TO TI hd) : nok m A := by
  have h16 := h.1.1
  refine ⟨fun x y hx hy d hd => ?_, fun x hx => ?_⟩
  · have := h.2.1 x y (by omega) (by omega) d hd
    exact ⟨this.1, this.2.1⟩
  · cases hc : A x x with
    | none => rfl
    | some d => exact absurd rfl (h.2.1 x x (by omega) (by omega) d hc).2.2.2.2
theorem WFs.dok (h : WFs m A row rk mk LO LI TO TI hd) {x y : Nat} (hx : x < m) (hy : y < m) : on_ok 17000 (dD A row m x y) := dD_ok h.1 h.nok hx hy
theorem WFs.off (h : WFs m A row rk mk LO LI TO TI hd) : WFs m A row rk mk LO LI TO TI false := ⟨h.1, h.2.1, h.2.2.1, h.2.2.2.1, fun z => by cases z⟩
theorem RelD.fr {I' : Nat → Nat → Int32} (h : RelD o I m A row rk mk LO LI TO TI ch hd) (h16 : m ≤ 16) (e : ∀ x, x < o + 148 → x ≠ o + 108 + 37 → x ≠ o + 108 + 38 → I' x = I x) : RelD o I' m A row rk mk LO LI TO TI ch hd := by
  obtain ⟨⟨a1, a2, a3, a4, a5⟩, ⟨b1, b2⟩, c, d, f⟩ := h
  refine ⟨⟨?_, fun i hi => ?_, fun i hi => ?_, fun x y hx hy => ?_, ?_⟩, ⟨fun v hv => ?_, ?_⟩, fun x y hx hy => ?_, ?_, fun hh => ?_⟩
  · rw [e _ (by omega) (by omega) (by omega)]; exact a1
  · rw [e _ (by omega) (by omega) (by omega)]; exact a2 i hi
  · rw [e _ (by omega) (by omega) (by omega)]; exact a3 i hi
  · rw [e _ (by omega) (by omega) (by omega)]; exact a4 x y hx hy
  · rw [e _ (by omega) (by omega) (by omega)]; exact a5
  · rw [e _ (by omega) (by omega) (by omega)]; exact b1 v hv
  · rw [e _ (by omega) (by omega) (by omega)]; exact b2
  · rw [e _ (by omega) (by omega) (by omega), e _ (by omega) (by omega) (by omega)]; exact c x y hx hy
  · rw [e _ (by omega) (by omega) (by omega)]; exact d
  · obtain ⟨g1, g2, g3, g4, g5⟩ := f hh
    refine ⟨fun x y hx hy => ?_, fun x y hx hy => ?_, ?_, fun x y hx hy => ?_, ?_, fun i x hx => ?_⟩
    · rw [e _ (by omega) (by omega) (by omega)]; exact g1 x y hx hy
    · rw [e _ (by omega) (by omega) (by omega), e _ (by omega) (by omega) (by omega)]; exact g2 x y hx hy
    · rw [e _ (by omega) (by omega) (by omega)]; exact g3
    · rw [e _ (by omega) (by omega) (by omega)]; exact g4 x y hx hy
    · rw [e _ (by omega) (by omega) (by omega)]; exact g5.1
    · rw [e _ (by omega) (by omega) (by omega), e _ (by omega) (by omega) (by omega)]; exact g5.2 i x hx
theorem RelR.fr {I' : Nat → Nat → Int32} (h : RelR q I m A row rk mk LO LI TO TI ch hd) (e : ∀ x, q < x → I' x = I x) (e2 : ∀ j, j ≠ 0 → j ≠ 23 → j ≠ 24 → I' q j = I q j) : RelR q I' m A row rk mk LO LI TO TI ch hd := by
  obtain ⟨⟨a1, a2, a3⟩, b, c, d, f⟩ := h
  refine ⟨⟨?_, fun x y hx hy => ?_, fun i hi => ?_⟩, fun v hv => ?_, fun k hk => ?_, ?_, fun hh => ?_⟩
  · rw [e2 _ (by omega) (by omega) (by omega)]; exact a1
  · rw [e _ (by omega)]; exact a2 x y hx hy
  · rw [e _ (by omega)]; exact a3 i hi
  · rw [e _ (by omega)]; exact b v hv
  · rw [e _ (by omega)]; exact c k hk
  · rw [e2 _ (by omega) (by omega) (by omega)]; exact d
  · obtain ⟨g1, g2, g3, g4, g5⟩ := f hh
    refine ⟨fun x y hx hy => ?_, fun x y hx hy => ?_, ?_, ⟨?_, fun i x hx => ?_⟩, fun x y hx hy => ?_⟩
    · rw [e _ (by omega)]; exact g1 x y hx hy
    · rw [e _ (by omega)]; exact g2 x y hx hy
    · rw [e2 _ (by omega) (by omega) (by omega)]; exact g3
    · rw [e2 _ (by omega) (by omega) (by omega)]; exact g4.1
    · rw [e _ (by omega), e _ (by omega), e _ (by omega), e _ (by omega)]; exact g4.2 i x hx
    · rw [e _ (by omega)]; exact g5 x y hx hy
theorem RelR.fr0 (h : RelR q I m A row rk mk LO LI TO TI ch hd) : RelR q (up2 I q 0 0) m A row rk mk LO LI TO TI ch hd := h.fr (fun x hx => up2_ne (by omega)) (fun j hj _ _ => up2_nj hj)
/-- one call on both sides -/
def Cal (K : Nat → Option ((Nat ⊕ Nat) × Nat)) (R : Nat → Nat → Option Nat) (n s o : Nat) (I : Nat → Nat → Int32) (fD fR : hm_T → Option (Int32 × hm_T)) : Prop :=
  ∃ (r : Int32) (g : SG) (I1 I2 : Nat → Nat → Int32), fD (hp K R n s I) = some (r, hp K R n s I1) ∧ fR (hp K R n s I1) = some (r, hp K R n s I2) ∧ Sim o I2 g
theorem Cal.of {fD fR : hm_T → Option (Int32 × hm_T)} {r : Int32} {I1 : Nat → Nat → Int32} (m' : Nat) (A' : Nat → Nat → Option Nat) (row' rk' : Nat → Nat) (mk' : Nat → Bool) (LO' LI' TO' TI' : Nat → Nat → Option Nat) (ch' : Nat) (hd' : Bool)
    (hR : RelR (o + 148) I m A row rk mk LO LI TO TI ch hd)
    (e1 : fD (hp K R n s I) = some (r, hp K R n s I1)) (f1 : ∀ x, o + 148 ≤ x → I1 x = I x) (hD1 : RelD o I1 m' A' row' rk' mk' LO' LI' TO' TI' ch' hd')
    (e2 : ∀ t, RelR (o + 148) t m A row rk mk LO LI TO TI ch hd → ∃ I2, fR (hp K R n s t) = some (r, hp K R n s I2) ∧ (∀ x, x < o + 148 → I2 x = t x) ∧ RelR (o + 148) I2 m' A' row' rk' mk' LO' LI' TO' TI' ch' hd')
    (wf : WFs m' A' row' rk' mk' LO' LI' TO' TI' hd') : Cal K R n s o I fD fR := by
  obtain ⟨I2, e3, f2, r2⟩ := e2 I1 (hR.fr (fun x hx => f1 x (by omega)) (fun j _ _ _ => by rw [f1 _ (Nat.le_refl _)]))
  exact ⟨r, (m', A', row', rk', mk', LO', LI', TO', TI', ch', hd'), I1, I2, e1, e3, wf, hD1.fr wf.1.1 (fun x hx _ _ => f2 x hx), r2⟩
/-- a call that changes nothing in common -/
theorem Cal.same {fD fR : hm_T → Option (Int32 × hm_T)} {r : Int32} {I1 : Nat → Nat → Int32} (wf : WFs m A row rk mk LO LI TO TI hd) (hD : RelD o I m A row rk mk LO LI TO TI ch hd) (hR : RelR (o + 148) I m A row rk mk LO LI TO TI ch hd)
    (e1 : fD (hp K R n s I) = some (r, hp K R n s I1)) (f1 : ∀ x, x ≠ o + 108 + 37 → x ≠ o + 108 + 38 → I1 x = I x)
    (e2 : ∀ t, RelR (o + 148) t m A row rk mk LO LI TO TI ch hd → ∃ I2, fR (hp K R n s t) = some (r, hp K R n s I2) ∧ (∀ x, x ≠ o + 148 → I2 x = t x) ∧ (∀ j, j ≠ 0 → j ≠ 23 → j ≠ 24 → I2 (o + 148) j = t (o + 148) j)) : Cal K R n s o I fD fR :=
  Cal.of m A row rk mk LO LI TO TI ch hd hR e1 (fun x hx => f1 x (by omega) (by omega)) (hD.fr wf.1.1 (fun x _ a b => f1 x a b)) (fun t ht => by
    obtain ⟨I2, a1, a2, a3⟩ := e2 t ht
    exact ⟨I2, a1, fun x hx => a2 x (by omega), ht.fr (fun x hx => a2 x (by omega)) a3⟩) wf
/-! the reference's tests of its arguments -/
theorem R_noNode_y {j : Nat} (S : shR K R q) (hm : I q 1 = nI m) (h16 : m ≤ 16) (hj : j < m) : f_R_noNode F q (nI j) (hp K R n s I) = some (0, hp K R n s I) := by
  obtain ⟨m', rfl⟩ : ∃ m', m = m' + 1 := ⟨m - 1, by omega⟩
  unfold f_R_noNode f_R_in
  have h2 : ¬ nI m' < nI j := fun z => by rw [nI_ltI (by omega) (by omega)] at z; omega
  simp only [eR_gi S, Option.bind_some, hm, nI_pred, if_neg (nI_pos (show j < 2 ^ 31 by omega)), if_neg h2, zr_1, hm_and_some, if_neg (show ¬ (1 : Int32) = 0 by decide), zr_0]
theorem lt_pred {x : Int32} (h16 : m ≤ 16) (h : nI m ≤ x) : nI m - 1 < x := by
  cases m with
  | zero => exact Int32.lt_of_lt_of_le (show nI 0 - 1 < nI 0 by decide +kernel) h
  | succ m => rw [nI_pred]; exact Int32.lt_of_lt_of_le (show nI m < nI (m + 1) by rw [nI_ltI (by omega) (by omega)]; omega) h
theorem R_noNode_n {x : Int32} (S : shR K R q) (hm : I q 1 = nI m) (h16 : m ≤ 16) (hx : x < 0 ∨ nI m ≤ x) : f_R_noNode F q x (hp K R n s I) = some (1, hp K R n s I) := by
  unfold f_R_noNode f_R_in
  by_cases h0 : x < 0
  · simp only [eR_gi S, Option.bind_some, if_pos h0, zr_0, hm_and_some, if_true, zr_1]
  · simp only [eR_gi S, Option.bind_some, hm, if_neg h0, if_pos (lt_pred h16 (hx.resolve_left h0)), zr_0, hm_and_some, if_true, zr_1]
theorem R_noPair_y {i j : Nat} (S : shR K R q) (hm : I q 1 = nI m) (h16 : m ≤ 16) (hi : i < m) (hj : j < m) : f_R_noPair F q (nI i) (nI j) (hp K R n s I) = some (0, hp K R n s I) := by
  unfold f_R_noPair
  simp only [eR_is S, Option.bind_some, R_noNode_y S hm h16 hi, R_noNode_y S hm h16 hj, hm_and_some, if_true, zr_0]
theorem R_noPair_n {x y : Int32} (S : shR K R q) (hm : I q 1 = nI m) (h16 : m ≤ 16) (hx : (x < 0 ∨ nI m ≤ x) ∨ (y < 0 ∨ nI m ≤ y)) : f_R_noPair F q x y (hp K R n s I) = some (1, hp K R n s I) := by
  unfold f_R_noPair f_R_noPair_16
  rcases pk_ix x (n := m) (by omega) with h | h | ⟨j, hj, rfl⟩
  · simp only [eR_is S, Option.bind_some, R_noNode_n S hm h16 (Or.inl h), hm_and_some, if_neg (show ¬ (1 : Int32) = 0 by decide), zr_1]
  · simp only [eR_is S, Option.bind_some, R_noNode_n S hm h16 (Or.inr h), hm_and_some, if_neg (show ¬ (1 : Int32) = 0 by decide), zr_1]
  · have hy : y < 0 ∨ nI m ≤ y := by
      rcases hx with h | h
      · rcases h with h | h
        · exact absurd h (nI_pos (by omega))
        · exact absurd h (nI_ge hj (by omega))
      · exact h
    simp only [eR_is S, Option.bind_some, R_noNode_y S hm h16 hj, R_noNode_n S hm h16 hy, hm_and_some, if_neg (show ¬ (1 : Int32) = 0 by decide), if_true, zr_1]
theorem ix2 (x : Int32) (h16 : m ≤ 16) : (x < 0 ∨ nI m ≤ x) ∨ ∃ j, j < m ∧ x = nI j := by
  rcases pk_ix x (n := m) (by omega) with h | h | h
  · exact Or.inl (Or.inl h)
  · exact Or.inl (Or.inr h)
  · exact Or.inr h
/-! node -/
theorem call_node (hF : 5000 ≤ F) (SD : shD K R o) (SR : shR K R (o + 148)) (g : SG) (h : Sim o I g) : Cal K R n s o I (f_D_node F o) (f_R_node F (o + 148)) := by
  obtain ⟨m, A, row, rk, mk, LO, LI, TO, TI, ch, hd⟩ := g
  obtain ⟨wf, hD, hR⟩ : WFs m A row rk mk LO LI TO TI hd ∧ RelD o I m A row rk mk LO LI TO TI ch hd ∧ RelR (o + 148) I m A row rk mk LO LI TO TI ch hd := h
  have h16 := wf.1.1
  by_cases hm : m < 16
  · obtain ⟨⟨a1, a2, a3, a4, a5⟩, ⟨b1, b2⟩, c, d, f⟩ := hD
    have e1 : f_D_node F o (hp K R n s I) = some (nI m, hp K R n s (up2 (up2 (up2 (up2 I o 7 0) (o + 1) 0 (nI (m + 1))) (o + 1 + 18) m (nI m)) (o + 1 + 19) m (nI m))) := by
      unfold f_D_node
      have lt : nI m < (16 : Int32) := by rw [n_16, nI_ltI (by omega) (by omega)]; exact hm
      have w1 : up2 I o 7 0 (o + 1) 0 = nI m := by rw [up2_ne (by omega)]; exact a1
      simp only [eD_r0 SD, Option.bind_some, eN_gi SD.N1, a1, if_pos lt, eD_p0 SD, eN_is SD.N1, N_addNode SD.N1 w1 hm, hm_and_some]
    have hmk0 : mk m = false := by
      cases hc : mk m with
      | false => rfl
      | true => have := wf.2.2.1.1 m hm hc; omega
    have hmc : mc mk (m + 1) = mc mk m := by
      show mc mk m + (if mk m = true then 1 else 0) = _
      rw [hmk0]; rfl
    refine Cal.of (m + 1) A (fu row m m) (fu rk m m) mk LO LI TO TI ch false hR e1 (fun x hx => by rw [up2_ne (by omega), up2_ne (by omega), up2_ne (by omega), up2_ne (by omega)]) ⟨⟨?_, fun i hi => ?_, fun i hi => ?_, fun x y hx hy => ?_, ?_⟩, ⟨fun v hv => ?_, ?_⟩, fun x y hx hy => ?_, ?_, fun z => by cases z⟩ (fun t ht => ?_) ?_
    · rw [up2_ne (by omega), up2_ne (by omega), up2_at]
    · rw [up2_ne (by omega), up2_eq]
      by_cases e : i = m
      · rw [if_pos ⟨rfl, e⟩, e, fu_at]
      · rw [if_neg (fun z => e z.2), fu_ne e, up2_ne (by omega), up2_ne (by omega)]; exact a2 i (by omega)
    · rw [up2_eq]
      by_cases e : i = m
      · rw [if_pos ⟨rfl, e⟩, e, fu_at]
      · rw [if_neg (fun z => e z.2), fu_ne e, up2_ne (by omega), up2_ne (by omega), up2_ne (by omega)]; exact a3 i (by omega)
    · rw [up2_ne (by omega), up2_ne (by omega), up2_ne (by omega), up2_ne (by omega)]; exact a4 x y hx hy
    · rw [up2_ne (by omega), up2_ne (by omega), up2_nj (by omega), up2_ne (by omega)]; exact a5
    · rw [up2_ne (by omega), up2_ne (by omega), up2_ne (by omega), up2_ne (by omega)]; exact b1 v hv
    · rw [up2_ne (by omega), up2_ne (by omega), up2_ne (by omega), up2_nj (by omega), hmc]; exact b2
    · rw [up2_ne (by omega), up2_ne (by omega), up2_ne (by omega), up2_ne (by omega), up2_ne (by omega), up2_ne (by omega), up2_ne (by omega), up2_ne (by omega)]; exact c x y hx hy
    · rw [up2_ne (by omega), up2_ne (by omega), up2_ne (by omega), up2_at]; rfl
    · obtain ⟨⟨p1, p2, p3⟩, p4, p5, p6, p7⟩ := ht
      refine ⟨up2 (up2 (up2 (up2 t (o + 148) 0 0) (o + 148 + 2) m (nI m)) (o + 148) 1 (nI (m + 1))) (o + 148) 5 0, ?_, fun x hx => ?_, ⟨?_, fun x y hx hy => ?_, fun i hi => ?_⟩, fun v hv => ?_, fun k hk => ?_, ?_, fun z => by cases z⟩
      · unfold f_R_node
        have w1 : up2 t (o + 148) 0 0 (o + 148) 1 = nI m := by rw [up2_nj (by omega)]; exact p1
        have w2 : up2 (up2 t (o + 148) 0 0) (o + 148 + 2) m (nI m) (o + 148) 1 = nI m := by rw [up2_ne (by omega)]; exact w1
        have w3 : up2 (up2 (up2 (up2 t (o + 148) 0 0) (o + 148 + 2) m (nI m)) (o + 148) 1 (nI (m + 1))) (o + 148) 5 0 (o + 148) 1 = nI (m + 1) := by rw [up2_nj (by omega), up2_at]
        have ne : ¬ nI m = (16 : Int32) := by rw [n_16, nI_eq (by omega) (by omega)]; omega
        simp only [eR_pi SR, Option.bind_some, eR_gi SR, w1, if_neg ne, eR_r3 SR, hp_ist SR.K2 hm (show 16 < 2 ^ 31 by omega), w2, nI_1, eR_p0 SR, w3, nI_pred]
      · rw [up2_ne (by omega), up2_ne (by omega), up2_ne (by omega), up2_ne (by omega)]
      · rw [up2_nj (by omega), up2_at]
      · rw [up2_ne (by omega), up2_ne (by omega), up2_ne (by omega), up2_ne (by omega)]; exact p2 x y hx hy
      · rw [up2_ne (by omega), up2_ne (by omega), up2_eq]
        by_cases e : i = m
        · rw [if_pos ⟨rfl, e⟩, e, fu_at]
        · rw [if_neg (fun z => e z.2), fu_ne e, up2_ne (by omega)]; exact p3 i (by omega)
      · rw [up2_ne (by omega), up2_ne (by omega), up2_ne (by omega), up2_ne (by omega)]; exact p4 v hv
      · rw [up2_ne (by omega), up2_ne (by omega), up2_ne (by omega), up2_ne (by omega)]; exact p5 k hk
      · rw [up2_at]; rfl
    · obtain ⟨q1, q2, q3, q4, q5⟩ := wf
      refine ⟨⟨hm, fun i hi => ?_, fun v hv => ?_⟩, fun x y hx hy d hd => ?_, ⟨fun v hv hk => by have := q3.1 v hv hk; omega, by rw [hmc]; exact q3.2⟩, fun x y hx hy => ⟨(q4 x y hx hy).1, (q4 x y hx hy).2.1, fun z => (q4 x y hx hy).2.2 (by omega)⟩, fun z => by cases z⟩
      · by_cases e : i = m
        · rw [e, fu_at, fu_at]; exact ⟨by omega, rfl⟩
        · have := q1.2.1 i (by omega)
          rw [fu_ne e, fu_ne (show row i ≠ m by omega)]
          exact ⟨by omega, this.2⟩
      · by_cases e : v = m
        · rw [e, fu_at, fu_at]; exact ⟨by omega, rfl⟩
        · have := q1.2.2 v (by omega)
          rw [fu_ne e, fu_ne (show rk v ≠ m by omega)]
          exact ⟨by omega, this.2⟩
      · have := q2 x y hx hy d hd
        omega
  · have hm2 : m = 16 := by omega
    have a1 := hD.1.1
    refine Cal.same (r := -3) wf hD hR (I1 := I) ?_ (fun _ _ _ => rfl) (fun t ht => ⟨up2 t (o + 148) 0 0, ?_, fun x hx => up2_ne hx, fun j hj _ _ => up2_nj hj⟩)
    · unfold f_D_node
      have lt : ¬ nI m < (16 : Int32) := by rw [n_16, nI_ltI (by omega) (by omega)]; exact hm
      simp only [eD_r0 SD, Option.bind_some, eN_gi SD.N1, a1, if_neg lt]
    · unfold f_R_node
      have w1 : up2 t (o + 148) 0 0 (o + 148) 1 = nI m := by rw [up2_nj (by omega)]; exact ht.1.1
      simp only [eR_pi SR, Option.bind_some, eR_gi SR, w1, if_pos (show nI m = (16 : Int32) by rw [hm2]; exact n_16.symm)]
end RL
