/-! make(): THE LABELS' LOOPS -/
def sm (f : Nat → Nat) : Nat → Nat
  | 0 => 0
  | n + 1 => sm f n + f n
def inLab (o a : Nat) : Prop := inG (o + 38 + 1) a ∨ inG (o + 38 + 18) a ∨ inG (o + 73 + 1) a ∨ inG (o + 73 + 18) a
/-- the four places of a pair -/
def four (t : Nat → Nat → Int32) (o x y : Nat) (u v u2 v2 : Int32) : Prop := t (o + 38 + 1 + 1 + x) y = u ∧ t (o + 38 + 18 + 1 + x) y = u2 ∧ t (o + 73 + 1 + 1 + y) x = v ∧ t (o + 73 + 18 + 1 + y) x = v2
def MKi (o : Nat) (I0 t : Nat → Nat → Int32) (f g : Nat → Nat → Option Nat) (pr : Nat → Nat → Prop) (ch : Nat) : Prop :=
  (∀ x, x ≠ o → ¬ inLab o x → t x = I0 x) ∧ (∀ j, j ≠ 8 → t o j = I0 o j) ∧ t o 8 = nI ch ∧
  ∀ x y, x < 16 → y < 16 → (pr x y → four t o x y (enD (f x y)) (enD (g y x)) (enD (f x y)) (enD (g y x))) ∧ (¬ pr x y → four t o x y (I0 (o + 38 + 1 + 1 + x) y) (I0 (o + 73 + 1 + 1 + y) x) (I0 (o + 38 + 18 + 1 + x) y) (I0 (o + 73 + 18 + 1 + y) x))
theorem lpI_four {o a b x y : Nat} {u v : Int32} {t : Nat → Nat → Int32} (ha : a < 16) (hb : b < 16) (hx : x < 16) (hy : y < 16) : four (lpI o a b u v t) o x y (if x = a ∧ y = b then u else t (o + 38 + 1 + 1 + x) y) (if x = a ∧ y = b then v else t (o + 73 + 1 + 1 + y) x) (if x = a ∧ y = b then u else t (o + 38 + 18 + 1 + x) y) (if x = a ∧ y = b then v else t (o + 73 + 18 + 1 + y) x) := by
  unfold lpI
  refine ⟨?_, ?_, ?_, ?_⟩
  · rw [up2_ne (by omega), up2_ne (by omega), up2_ne (by omega), up2_ne (by omega), up2_eq]
    by_cases h : x = a ∧ y = b
    · rw [if_pos h, if_pos ⟨by omega, h.2⟩]
    · rw [if_neg h, if_neg (fun q => h ⟨by omega, q.2⟩)]
  · rw [up2_ne (by omega), up2_ne (by omega), up2_ne (by omega), up2_eq]
    by_cases h : x = a ∧ y = b
    · rw [if_pos h, if_pos ⟨by omega, h.2⟩]
    · rw [if_neg h, if_neg (fun q => h ⟨by omega, q.2⟩), up2_ne (by omega)]
  · rw [up2_ne (by omega), up2_ne (by omega), up2_eq]
    by_cases h : x = a ∧ y = b
    · rw [if_pos h, if_pos ⟨by omega, h.1⟩]
    · rw [if_neg h, if_neg (fun q => h ⟨q.2, by omega⟩), up2_ne (by omega), up2_ne (by omega)]
  · rw [up2_ne (by omega), up2_eq]
    by_cases h : x = a ∧ y = b
    · rw [if_pos h, if_pos ⟨by omega, h.1⟩]
    · rw [if_neg h, if_neg (fun q => h ⟨q.2, by omega⟩), up2_ne (by omega), up2_ne (by omega), up2_ne (by omega)]
theorem MKi.step {o a b ch : Nat} {I0 t : Nat → Nat → Int32} {f g LO LI : Nat → Nat → Option Nat} {pr pr' : Nat → Nat → Prop} (h : MKi o I0 t f g pr ch) (ha : a < 16) (hb : b < 16) (hn : ¬ pr a b) (hLO : I0 (o + 38 + 1 + 1 + a) b = enD (LO a b)) (hLI : I0 (o + 73 + 1 + 1 + b) a = enD (LI b a)) (o1 : on_ok 2000000000 (LO a b)) (o2 : on_ok 2000000000 (LI b a)) (o3 : on_ok 2000000000 (f a b)) (o4 : on_ok 2000000000 (g b a)) (hpr : ∀ x y, pr' x y ↔ pr x y ∨ (x = a ∧ y = b)) : MKi o I0 (lpI o a b (enD (f a b)) (enD (g b a)) t) f g pr' (ch + (chgN (LO a b) (f a b) + chgN (LI b a) (g b a))) := by
  obtain ⟨h1, h2, h3, h4⟩ := h
  have hab := (h4 a b ha hb).2 hn
  refine ⟨fun x hx hl => ?_, fun j hj => ?_, ?_, fun x y hx hy => ⟨fun q => ?_, fun q => ?_⟩⟩
  · unfold lpI
    rw [up2_ne hx, up2_ne (fun q => hl (Or.inr (Or.inr (Or.inr (by rw [q]; exact ⟨by omega, by omega⟩))))), up2_ne (fun q => hl (Or.inr (Or.inr (Or.inl (by rw [q]; exact ⟨by omega, by omega⟩))))), up2_ne (fun q => hl (Or.inr (Or.inl (by rw [q]; exact ⟨by omega, by omega⟩)))), up2_ne (fun q => hl (Or.inl (by rw [q]; exact ⟨by omega, by omega⟩)))]
    exact h1 x hx hl
  · unfold lpI
    rw [up2_nj hj, up2_ne (by omega), up2_ne (by omega), up2_ne (by omega), up2_ne (by omega)]
    exact h2 j hj
  · unfold lpI
    rw [up2_at, h3, hab.1, hab.2.2.1, hLO, hLI, chg_en o1 o3, chg_en o2 o4, nI_add, nI_add]
  · have z := lpI_four (o := o) (u := enD (f a b)) (v := enD (g b a)) (t := t) ha hb hx hy
    by_cases e : x = a ∧ y = b
    · simp only [if_pos e] at z
      rw [e.1, e.2] at z ⊢
      exact z
    · simp only [if_neg e] at z
      rcases (hpr x y).mp q with w | w
      · have c := (h4 x y hx hy).1 w
        exact ⟨z.1.trans c.1, z.2.1.trans c.2.1, z.2.2.1.trans c.2.2.1, z.2.2.2.trans c.2.2.2⟩
      · exact absurd w e
  · have z := lpI_four (o := o) (u := enD (f a b)) (v := enD (g b a)) (t := t) ha hb hx hy
    have e : ¬ (x = a ∧ y = b) := fun w => q ((hpr x y).mpr (Or.inr w))
    simp only [if_neg e] at z
    have c := (h4 x y hx hy).2 (fun w => q ((hpr x y).mpr (Or.inl w)))
    exact ⟨z.1.trans c.1, z.2.1.trans c.2.1, z.2.2.1.trans c.2.2.1, z.2.2.2.trans c.2.2.2⟩
theorem MKi.eq {o ch : Nat} {I0 t : Nat → Nat → Int32} {f g : Nat → Nat → Option Nat} {pr pr' : Nat → Nat → Prop} (h : MKi o I0 t f g pr ch) (e : ∀ x y, pr' x y ↔ pr x y) : MKi o I0 t f g pr' ch :=
  ⟨h.1, h.2.1, h.2.2.1, fun x y hx hy => ⟨fun q => (h.2.2.2 x y hx hy).1 ((e x y).mp q), fun q => (h.2.2.2 x y hx hy).2 (fun z => q ((e x y).mpr z))⟩⟩
section ML
variable {K : Nat → Option ((Nat ⊕ Nat) × Nat)} {R : Nat → Nat → Option Nat} {n s F o m : Nat} {I : Nat → Nat → Int32} {row rk : Nat → Nat} {D LO LI : Nat → Nat → Option Nat}
/-- what stays true of the ints while the labels are laid -/
def mkH (o m : Nat) (I0 : Nat → Nat → Int32) (row rk : Nat → Nat) (D LO LI : Nat → Nat → Option Nat) : Prop :=
  I0 (o + 1) 0 = nI m ∧ prm m row rk ∧ (∀ i, i < m → I0 (o + 1 + 18) i = nI (row i)) ∧ (∀ x y, x < m → y < m → I0 (o + 21 + 1 + x) y = enD (D x y) ∧ on_ok 100000000 (D x y)) ∧ (∀ x, x < m → D x x = some 0) ∧
  ∀ x y, x < 16 → y < 16 → I0 (o + 38 + 1 + 1 + x) y = enD (LO x y) ∧ I0 (o + 73 + 1 + 1 + x) y = enD (LI x y) ∧ on_ok 100000000 (LO x y) ∧ on_ok 100000000 (LI x y)
theorem sO_ok {B : Nat} {x y : Nat} (h : on_ok B (D x y)) : on_ok B (sO D row rk x y) := by
  unfold sO; split
  · exact h
  · intro d q; cases q
theorem sI_ok {B : Nat} {x y : Nat} (h : on_ok B (D x y)) : on_ok B (sI D row rk y x) := by
  unfold sI; split
  · exact h
  · intro d q; cases q
theorem mk_pair {I0 t : Nat → Nat → Int32} {pr : Nat → Nat → Prop} {a b ch : Nat} (hF : 20 ≤ F) (S : shD K R o) (H : mkH o m I0 row rk D LO LI) (h : MKi o I0 t (sO D row rk) (sI D row rk) pr ch) (ha : a < m) (hb : b < m) (hn : ¬ pr a b) (pr' : Nat → Nat → Prop) (hpr : ∀ x y, pr' x y ↔ pr x y ∨ (x = a ∧ y = b)) :
    ∃ t', f_D_layPair F o (nI a) (nI b) (hp K R n s t) = some (nI (cnt (sO D row rk a b) + cnt (sI D row rk b a)), hp K R n s t') ∧ MKi o I0 t' (sO D row rk) (sI D row rk) pr' (ch + (chgN (LO a b) (sO D row rk a b) + chgN (LI b a) (sI D row rk b a))) := by
  obtain ⟨q1, q2, q3, q4, q5, q6⟩ := H
  have h16 := q2.1
  have nl : ∀ x, o < x → x ≤ o + 38 → ¬ inLab o x := fun x h1 h2 z => by
    rcases z with z | z | z | z <;> have := z.1 <;> omega
  have w1 : t (o + 1) 0 = nI m := by rw [h.1 _ (by omega) (nl _ (by omega) (by omega))]; exact q1
  have w2 : ∀ i, i < m → t (o + 1 + 18) i = nI (row i) := fun i hi => by rw [h.1 _ (by omega) (nl _ (by omega) (by omega))]; exact q3 i hi
  have w3 : ∀ x y, x < m → y < m → t (o + 21 + 1 + x) y = enD (D x y) ∧ on_ok 100000000 (D x y) := fun x y hx hy => by rw [h.1 _ (by omega) (nl _ (by omega) (by omega))]; exact q4 x y hx hy
  refine ⟨_, D_pair (F := F) (n := n) (s := s) hF S w1 q2 w2 w3 q5 ha hb, ?_⟩
  have hab := q6 a b (by omega) (by omega)
  have hba := q6 b a (by omega) (by omega)
  have hd := (q4 a b ha hb).2
  exact h.step (by omega) (by omega) hn hab.1 hba.2.1 (on_ok_mono hab.2.2.1 (by omega)) (on_ok_mono hba.2.2.2 (by omega)) (on_ok_mono (sO_ok hd) (by omega)) (on_ok_mono (sI_ok hd) (by omega)) hpr
/-- stations of a pair; what a pair makes otherwise -/
def pC (D : Nat → Nat → Option Nat) (row rk : Nat → Nat) (a b : Nat) : Nat := cnt (sO D row rk a b) + cnt (sI D row rk b a)
def pG (D LO LI : Nat → Nat → Option Nat) (row rk : Nat → Nat) (a b : Nat) : Nat := chgN (LO a b) (sO D row rk a b) + chgN (LI b a) (sI D row rk b a)
theorem mk_in {I0 t : Nat → Nat → Int32} {a c ch N : Nat} (k : Nat → Int32 → Int32 → hm_T → Option (Int32 × hm_T)) (hF : 20 ≤ F) (S : shD K R o) (H : mkH o m I0 row rk D LO LI) (h : MKi o I0 t (sO D row rk) (sI D row rk) (fun x y => x < a ∧ y < m) ch) (ha : a < m) (hN : 16 < N) :
    ∃ t', f_D_make_26 F k N o (nI c) (nI a) (nI 0) (hp K R n s t) = k o (nI (c + sm (pC D row rk a) m)) (nI (a + 1)) (hp K R n s t') ∧ MKi o I0 t' (sO D row rk) (sI D row rk) (fun x y => x < a + 1 ∧ y < m) (ch + sm (pG D LO LI row rk a) m) := by
  have h16 := H.2.1.1
  have nl : ¬ inLab o (o + 1) := fun z => by rcases z with z | z | z | z <;> have := z.1 <;> omega
  refine hl_up (fun N b (z : Nat × (Nat → Nat → Int32)) => f_D_make_26 F k N o (nI z.1) (nI a) (nI b) (hp K R n s z.2)) (fun z => ∃ t', z = k o (nI (c + sm (pC D row rk a) m)) (nI (a + 1)) (hp K R n s t') ∧ MKi o I0 t' (sO D row rk) (sI D row rk) (fun x y => x < a + 1 ∧ y < m) (ch + sm (pG D LO LI row rk a) m)) (fun b z => z.1 = c + sm (pC D row rk a) b ∧ MKi o I0 z.2 (sO D row rk) (sI D row rk) (fun x y => (x < a ∧ y < m) ∨ (x = a ∧ y < b)) (ch + sm (pG D LO LI row rk a) b)) m ?_ ?_ N 0 (c, t) (by omega) (by omega) ⟨rfl, h.eq (fun x y => by omega)⟩
  · intro N b z hb ⟨h1, h2⟩
    obtain ⟨c1, t1⟩ := z
    have w1 : t1 (o + 1) 0 = nI m := (congrFun (h2.1 (o + 1) (by omega) nl) 0).trans H.1
    obtain ⟨t', e1, e2⟩ := mk_pair (F := F) (n := n) (s := s) hF S H h2 ha hb (by omega) (fun x y => (x < a ∧ y < m) ∨ (x = a ∧ y < b + 1)) (fun x y => by omega)
    refine Or.inr ⟨(c1 + pC D row rk a b, t'), ⟨by show c1 + _ = _; rw [show c1 = c + sm (pC D row rk a) b from h1]; simp only [sm]; omega, by simp only [sm]; rw [← Nat.add_assoc]; exact e2⟩, ?_⟩
    show g_D_make_26 F k (f_D_make_26 F k N) o (nI c1) (nI a) (nI b) (hp K R n s t1) = _
    unfold g_D_make_26
    simp only [eD_r0 S, Option.bind_some, eN_gi S.N1, w1, if_neg (nI_ge hb (show m < 2 ^ 31 by omega)), eD_is S, e1, hm_and_some, nI_1, nI_add]
    rfl
  · intro N z ⟨h1, h2⟩
    obtain ⟨c1, t1⟩ := z
    have w1 : t1 (o + 1) 0 = nI m := (congrFun (h2.1 (o + 1) (by omega) nl) 0).trans H.1
    refine ⟨t1, ?_, h2.eq (fun x y => by omega)⟩
    show g_D_make_26 F k (f_D_make_26 F k N) o (nI c1) (nI a) (nI m) (hp K R n s t1) = _
    unfold g_D_make_26 f_D_make_52
    simp only [eD_r0 S, Option.bind_some, eN_gi S.N1, w1, if_pos (Int32.le_refl (nI m)), nI_1]
    rw [show c1 = c + sm (pC D row rk a) m from h1]
theorem mk_out {I0 : Nat → Nat → Int32} (hF : 20 ≤ F) (S : shD K R o) (H : mkH o m I0 row rk D LO LI) (h8 : I0 o 8 = nI 0) :
    ∃ t', f_D_make_13 F F o (nI 0) (nI 0) (hp K R n s I0) = f_D_make_58 F o (nI (sm (fun a => sm (pC D row rk a) m) m)) (hp K R n s t') ∧ MKi o I0 t' (sO D row rk) (sI D row rk) (fun x y => x < m ∧ y < m) (sm (fun a => sm (pG D LO LI row rk a) m) m) := by
  have h16 := H.2.1.1
  have nl : ¬ inLab o (o + 1) := fun z => by rcases z with z | z | z | z <;> have := z.1 <;> omega
  refine hl_up (fun N a (z : Nat × (Nat → Nat → Int32)) => f_D_make_13 F N o (nI z.1) (nI a) (hp K R n s z.2)) (fun z => ∃ t', z = f_D_make_58 F o (nI (sm (fun a => sm (pC D row rk a) m) m)) (hp K R n s t') ∧ MKi o I0 t' (sO D row rk) (sI D row rk) (fun x y => x < m ∧ y < m) (sm (fun a => sm (pG D LO LI row rk a) m) m)) (fun a z => z.1 = sm (fun a => sm (pC D row rk a) m) a ∧ MKi o I0 z.2 (sO D row rk) (sI D row rk) (fun x y => x < a ∧ y < m) (sm (fun a => sm (pG D LO LI row rk a) m) a)) m ?_ ?_ F 0 (0, I0) (by omega) (by omega) ⟨rfl, ⟨fun _ _ _ => rfl, fun _ _ => rfl, h8, fun x y hx hy => ⟨fun q => by omega, fun _ => ⟨rfl, rfl, rfl, rfl⟩⟩⟩⟩
  · intro N a z ha ⟨h1, h2⟩
    obtain ⟨c1, t1⟩ := z
    have w1 : t1 (o + 1) 0 = nI m := (congrFun (h2.1 (o + 1) (by omega) nl) 0).trans H.1
    obtain ⟨t', e1, e2⟩ := mk_in (F := F) (n := n) (s := s) (c := c1) (N := F) (f_D_make_13 F N) hF S H h2 ha (by omega)
    refine Or.inr ⟨(c1 + sm (pC D row rk a) m, t'), ⟨by show c1 + _ = _; rw [show c1 = sm (fun a => sm (pC D row rk a) m) a from h1]; rfl, e2⟩, ?_⟩
    show g_D_make_13 F (f_D_make_13 F N) o (nI c1) (nI a) (hp K R n s t1) = _
    unfold g_D_make_13
    simp only [eD_r0 S, Option.bind_some, eN_gi S.N1, w1, if_neg (nI_ge ha (show m < 2 ^ 31 by omega))]
    rw [← nI_0]
    exact e1
  · intro N z ⟨h1, h2⟩
    obtain ⟨c1, t1⟩ := z
    have w1 : t1 (o + 1) 0 = nI m := (congrFun (h2.1 (o + 1) (by omega) nl) 0).trans H.1
    refine ⟨t1, ?_, h2⟩
    show g_D_make_13 F (f_D_make_13 F N) o (nI c1) (nI m) (hp K R n s t1) = _
    unfold g_D_make_13
    simp only [eD_r0 S, Option.bind_some, eN_gi S.N1, w1, if_pos (Int32.le_refl (nI m))]
    rw [show c1 = sm (fun a => sm (pC D row rk a) m) m from h1]
end ML
