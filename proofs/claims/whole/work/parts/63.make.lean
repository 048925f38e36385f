/-! THE CALL make -/
/-- among m nodes, else none -/
def nw (m : Nat) (f : Nat → Nat → Option Nat) (x y : Nat) : Option Nat := if x < m ∧ y < m then f x y else none
theorem nw_y {m x y : Nat} {f : Nat → Nat → Option Nat} (hx : x < m) (hy : y < m) : nw m f x y = f x y := if_pos ⟨hx, hy⟩
theorem nw_n {m x y : Nat} {f : Nat → Nat → Option Nat} (h : ¬ (x < m ∧ y < m)) : nw m f x y = none := if_neg h
theorem nS_nw {m k : Nat} {f g : Nat → Nat → Option Nat} : nS m f g k = nS 16 (nw m f) (nw m g) k := by
  have h1 : k / 16 % 16 < 16 := Nat.mod_lt _ (by omega)
  have h2 : k % 16 < 16 := Nat.mod_lt _ (by omega)
  unfold nS
  rw [if_pos (show k / 16 % 16 < 16 ∧ k % 16 < 16 from ⟨h1, h2⟩)]
  by_cases z : k / 16 % 16 < m ∧ k % 16 < m
  · rw [if_pos z, nw_y z.1 z.2, nw_y z.1 z.2]
  · rw [if_neg z, nw_n z, nw_n z]; split <;> rfl
theorem nS_0 {m v h : Nat} {f g : Nat → Nat → Option Nat} (hv : v < 16) (hh : h < 16) : nS m f g (16 * v + h) = nw m f v h := by
  unfold nS nw
  rw [show (16 * v + h) / 16 % 16 = v by omega, show (16 * v + h) % 16 = h by omega, show (16 * v + h) / 256 = 0 by omega, if_pos rfl]
theorem nS_1 {m v h : Nat} {f g : Nat → Nat → Option Nat} (hv : v < 16) (hh : h < 16) : nS m f g (256 + (16 * v + h)) = nw m g v h := by
  unfold nS nw
  rw [show (256 + (16 * v + h)) / 16 % 16 = v by omega, show (256 + (16 * v + h)) % 16 = h by omega, show (256 + (16 * v + h)) / 256 = 1 by omega, if_neg (show ¬ 1 = 0 by omega)]
section MK
variable {K : Nat → Option ((Nat ⊕ Nat) × Nat)} {R : Nat → Nat → Option Nat} {n s F o q m ch : Nat} {I : Nat → Nat → Int32} {A LO LI TO TI D : Nat → Nat → Option Nat} {row rk : Nat → Nat} {mk : Nat → Bool} {hd : Bool}
theorem sums_cnt (h16 : m ≤ 16) : sm (fun k => cnt (nS m (sO D row rk) (sI D row rk) k)) 512 = sm (fun a => sm (pC D row rk a) m) m := by
  refine two_sums h16 (fun v h => cnt (sO D row rk v h)) (fun v h => cnt (sI D row rk v h)) _ (fun v h hv hh => ?_) (fun v h hv hh => ?_)
  · show cnt (nS m (sO D row rk) (sI D row rk) (16 * v + h)) = if v < m ∧ h < m then cnt (sO D row rk v h) else 0
    rw [nS_0 hv hh]
    by_cases z : v < m ∧ h < m
    · rw [nw_y z.1 z.2, if_pos z]
    · rw [nw_n z, if_neg z]; rfl
  · show cnt (nS m (sO D row rk) (sI D row rk) (256 + (16 * v + h))) = if v < m ∧ h < m then cnt (sI D row rk v h) else 0
    rw [nS_1 hv hh]
    by_cases z : v < m ∧ h < m
    · rw [nw_y z.1 z.2, if_pos z]
    · rw [nw_n z, if_neg z]; rfl
theorem sums_chg (h16 : m ≤ 16) (hL : ∀ x y, x < 16 → y < 16 → ¬ (x < m ∧ y < m) → LO x y = none ∧ LI x y = none) : sm (fun k => chgN (nS 16 LO LI k) (nS m (sO D row rk) (sI D row rk) k)) 512 = sm (fun a => sm (pG D LO LI row rk a) m) m := by
  refine two_sums h16 (fun v h => chgN (LO v h) (sO D row rk v h)) (fun v h => chgN (LI v h) (sI D row rk v h)) _ (fun v h hv hh => ?_) (fun v h hv hh => ?_)
  · show chgN (nS 16 LO LI (16 * v + h)) (nS m (sO D row rk) (sI D row rk) (16 * v + h)) = if v < m ∧ h < m then chgN (LO v h) (sO D row rk v h) else 0
    rw [nS_0 hv hh, nS_0 hv hh, nw_y hv hh]
    by_cases z : v < m ∧ h < m
    · rw [nw_y z.1 z.2, if_pos z]
    · rw [nw_n z, if_neg z, (hL v h hv hh z).1]; rfl
  · show chgN (nS 16 LO LI (256 + (16 * v + h))) (nS m (sO D row rk) (sI D row rk) (256 + (16 * v + h))) = if v < m ∧ h < m then chgN (LI v h) (sI D row rk v h) else 0
    rw [nS_1 hv hh, nS_1 hv hh, nw_y hv hh]
    by_cases z : v < m ∧ h < m
    · rw [nw_y z.1 z.2, if_pos z]
    · rw [nw_n z, if_neg z, (hL v h hv hh z).2]; rfl
theorem D_mk (hF : 5000 ≤ F) (SD : shD K R o) (wf : WFs m A row rk mk LO LI TO TI hd) (hD : RelD o I m A row rk mk LO LI TO TI ch hd) :
    ∃ I1, f_D_make F o (hp K R n s I) = some (nI (sm (fun a => sm (pC (dD A row m) row rk a) m) m), hp K R n s I1) ∧ (∀ x, o + 148 ≤ x → I1 x = I x) ∧ RelD o I1 m A row rk mk (nw m (sO (dD A row m) row rk)) (nw m (sI (dD A row m) row rk)) (nw m (sO (dD A row m) row rk)) (nw m (sI (dD A row m) row rk)) (sm (fun a => sm (pG (dD A row m) LO LI row rk a) m) m) true := by
  obtain ⟨⟨a1, a2, a3, a4, a5⟩, ⟨b1, b2⟩, c, _, _⟩ := hD
  have h16 := wf.1.1
  have hAok : ∀ x y, x < m → y < m → I (o + 1 + 1 + 1 + x) y = enD (A x y) ∧ on_ok 1000 (A x y) := fun x y hx hy => ⟨a4 x y (by omega) (by omega), fun d hd => (wf.2.1 x y (by omega) (by omega) d hd).2.1⟩
  obtain ⟨I1, e1, f1, g1⟩ := D_layD (F := F) (n := n) (s := s) (by omega) SD a1 wf.1 a2 hAok
  have f1' : ∀ x, ¬ (o + 22 ≤ x ∧ x ≤ o + 37) → I1 x = I x := fun x hx => f1 x (fun z => hx ⟨by have := z.1; omega, by have := z.2; omega⟩)
  have f2 : ∀ x, x ≠ o → ¬ (o + 22 ≤ x ∧ x ≤ o + 37) → up2 I1 o 8 (nI 0) x = I x := fun x h1 h2 => by rw [up2_ne h1]; exact f1' x h2
  have H : mkH o m (up2 I1 o 8 (nI 0)) row rk (dD A row m) LO LI := by
    refine ⟨?_, wf.1, fun i hi => ?_, fun x y hx hy => ?_, fun x hx => dD_0, fun x y hx hy => ?_⟩
    · rw [f2 _ (by omega) (by omega)]; exact a1
    · rw [f2 _ (by omega) (by omega)]; exact a2 i hi
    · rw [up2_ne (by omega)]; exact g1 x y hx hy
    · rw [f2 _ (by omega) (by omega), f2 _ (by omega) (by omega)]
      have := c x y hx hy
      have w := wf.2.2.2.1 x y hx hy
      exact ⟨this.1, this.2, on_ok_mono w.1 (by omega), on_ok_mono w.2.1 (by omega)⟩
  obtain ⟨t2, e2, k1, k2, k3, k4⟩ := mk_out (F := F) (n := n) (s := s) (by omega) SD H (up2_at _ _ _ _)
  have nl : ∀ x, ¬ (o + 40 ≤ x ∧ x ≤ o + 107) → ¬ inLab o x := fun x hx z => by
    rcases z with z | z | z | z <;> have z1 := z.1 <;> have z2 := z.2 <;> omega
  have f3 : ∀ x, x ≠ o → ¬ (o + 22 ≤ x ∧ x ≤ o + 37) → ¬ (o + 40 ≤ x ∧ x ≤ o + 107) → t2 x = I x := fun x h1 h2 h3 => by rw [k1 x h1 (nl x h3)]; exact f2 x h1 h2
  have q1 : t2 (o + 1) 0 = nI m := by rw [f3 _ (by omega) (by omega) (by omega)]; exact a1
  obtain ⟨t3, e3, j1, j2, j3, j4⟩ := K_layAll (F := F) (n := n) (s := s) (A := A) (by omega) SD q1 wf.1 (fun i hi => by rw [f3 _ (by omega) (by omega) (by omega)]; exact a2 i hi) (fun i hi => by rw [f3 _ (by omega) (by omega) (by omega)]; exact a3 i hi) (fun x y hx hy => by rw [f3 _ (by omega) (by omega) (by omega)]; exact a4 x y (by omega) (by omega)) (cW_ok wf.1 wf.nok) (cL_len wf.1)
  have oc : ∀ x, x < o + 108 ∨ o + 144 < x → outC o x := fun x hx => ⟨by omega, by omega, by omega, fun z => by have z1 := z.1; have z2 := z.2; omega, fun z => by have z1 := z.1; have z2 := z.2; omega⟩
  have f4 : ∀ x, x ≠ o → ¬ (o + 22 ≤ x ∧ x ≤ o + 37) → ¬ (o + 40 ≤ x ∧ x ≤ o + 144) → up2 t3 o 7 1 x = I x := fun x h1 h2 h3 => by rw [up2_ne h1, j1 x (oc x (by omega))]; exact f3 x h1 h2 (by omega)
  have f5 : ∀ x, x ≠ o → x < o + 108 → up2 t3 o 7 1 x = t2 x := fun x h1 h2 => by rw [up2_ne h1, j1 x (oc x (Or.inl h2))]
  refine ⟨up2 t3 o 7 1, ?_, fun x hx => f4 x (by omega) (by omega) (by omega), ⟨?_, fun i hi => ?_, fun i hi => ?_, fun x y hx hy => ?_, ?_⟩, ⟨fun v hv => ?_, ?_⟩, fun x y hx hy => ⟨?_, ?_⟩, ?_, fun _ => ⟨fun x y hx hy => ?_, fun x y hx hy => ⟨?_, ?_⟩, ?_, fun x y hx hy => ?_, ?_, fun i x hx => ?_⟩⟩
  · have e2' := e2
    rw [nI_0] at e2'
    unfold f_D_make
    simp only [eD_is SD, Option.bind_some, e1, eD_pi SD]
    rw [e2']
    unfold f_D_make_58
    simp only [eD_r4 SD, eD_r0 SD, Option.bind_some, eC_is SD.C108, e3, eD_p1 SD]
  · rw [f4 _ (by omega) (by omega) (by omega)]; exact a1
  · rw [f4 _ (by omega) (by omega) (by omega)]; exact a2 i hi
  · rw [f4 _ (by omega) (by omega) (by omega)]; exact a3 i hi
  · rw [f4 _ (by omega) (by omega) (by omega)]; exact a4 x y hx hy
  · rw [f4 _ (by omega) (by omega) (by omega)]; exact a5
  · rw [f4 _ (by omega) (by omega) (by omega)]; exact b1 v hv
  · rw [up2_nj (by omega), j1 o (oc o (by omega)), k2 6 (by omega), up2_nj (by omega), f1' o (by omega)]; exact b2
  · rw [f5 _ (by omega) (by omega)]
    by_cases z : x < m ∧ y < m
    · rw [nw_y z.1 z.2]; exact ((k4 x y hx hy).1 z).1
    · rw [nw_n z, ((k4 x y hx hy).2 z).1, f2 _ (by omega) (by omega), (c x y hx hy).1, ((wf.2.2.2.1 x y hx hy).2.2 z).1]
  · rw [f5 _ (by omega) (by omega)]
    by_cases z : x < m ∧ y < m
    · rw [nw_y z.1 z.2]; exact ((k4 y x hy hx).1 ⟨z.2, z.1⟩).2.2.1
    · rw [nw_n z, ((k4 y x hy hx).2 (fun w => z ⟨w.2, w.1⟩)).2.2.1, f2 _ (by omega) (by omega), (c x y hx hy).2, ((wf.2.2.2.1 x y hx hy).2.2 z).2]
  · rw [up2_at]; rfl
  · rw [f5 _ (by omega) (by omega), k1 _ (by omega) (nl _ (by omega)), up2_ne (by omega)]; exact (g1 x y hx hy).1
  · rw [f5 _ (by omega) (by omega), nw_y hx hy]; exact ((k4 x y (by omega) (by omega)).1 ⟨hx, hy⟩).2.1
  · rw [f5 _ (by omega) (by omega), nw_y hx hy]; exact ((k4 y x (by omega) (by omega)).1 ⟨hy, hx⟩).2.2.2
  · rw [up2_nj (by omega), j1 o (oc o (by omega))]; exact k3
  · rw [up2_ne (by omega)]; exact j4 x y hx hy
  · rw [up2_ne (by omega)]; exact j3.1
  · rw [up2_ne (by omega), up2_ne (by omega)]; exact j3.2 i x hx
/-! the reference -/
theorem R_mk7 (hF : 5000 ≤ F) (S : shR K R q) : ∃ t, f_R_make_7 F F q (nI 0) (hp K R n s I) = f_R_make_26 F q (hp K R n s t) ∧ (∀ x, x ≠ q + 8 → t x = I x) ∧ ∀ x, x < 16 → t (q + 8) x = 0 := by
  refine hl_up (fun N i t => f_R_make_7 F N q (nI i) (hp K R n s t)) (fun z => ∃ t, z = f_R_make_26 F q (hp K R n s t) ∧ (∀ x, x ≠ q + 8 → t x = I x) ∧ ∀ x, x < 16 → t (q + 8) x = 0) (fun i t => (∀ x, x ≠ q + 8 → t x = I x) ∧ ∀ x, x < i → t (q + 8) x = 0) 16 ?_ ?_ F 0 I (by omega) (by omega) ⟨fun _ _ => rfl, fun x hx => by omega⟩
  · intro N i t hi ⟨h1, h2⟩
    refine Or.inr ⟨up2 t (q + 8) i 0, ⟨fun x hx => by rw [up2_ne hx]; exact h1 x hx, fun x hx => ?_⟩, ?_⟩
    · rw [up2_eq]
      by_cases e : x = i
      · rw [if_pos ⟨rfl, e⟩]
      · rw [if_neg (fun z => e z.2)]; exact h2 x (by omega)
    · show g_R_make_7 F (f_R_make_7 F N) q (nI i) (hp K R n s t) = _
      unfold g_R_make_7
      have hlt : ¬ (16 : Int32) ≤ nI i := by rw [n_16]; exact nI_ge hi (by omega)
      simp only [if_neg hlt, eR_r11 S, Option.bind_some, hp_zst S.K8 hi (show 16 < 2 ^ 31 by omega) (Or.inl rfl), nI_1]
  · intro N t ⟨h1, h2⟩
    refine ⟨t, ?_, h1, h2⟩
    show g_R_make_7 F (f_R_make_7 F N) q (nI 16) (hp K R n s t) = _
    unfold g_R_make_7
    rw [if_pos (by rw [n_16]; exact Int32.le_refl _)]
theorem R_mk45 {D0 : Nat → Nat → Option Nat} (hF : 5000 ≤ F) (S : shR K R q) (h16 : m ≤ 16) (hm : I q 1 = nI m) (hfar : ∀ x y, x < m → y < m → I (q + 4) (16 * x + y) = enR (D0 x y)) : ∃ t, f_R_make_45 F F q (nI 0) (hp K R n s I) = f_R_make_71 F q (hp K R n s t) ∧ (∀ x, x ≠ q + 4 → t x = I x) ∧ ∀ x y, x < m → y < m → t (q + 4) (16 * x + y) = enR (if x = y then some 0 else D0 x y) := by
  refine hl_up (fun N i t => f_R_make_45 F N q (nI i) (hp K R n s t)) (fun z => ∃ t, z = f_R_make_71 F q (hp K R n s t) ∧ (∀ x, x ≠ q + 4 → t x = I x) ∧ ∀ x y, x < m → y < m → t (q + 4) (16 * x + y) = enR (if x = y then some 0 else D0 x y)) (fun i t => (∀ x, x ≠ q + 4 → t x = I x) ∧ ∀ x y, x < m → y < m → t (q + 4) (16 * x + y) = enR (if x = y ∧ x < i then some 0 else D0 x y)) m ?_ ?_ F 0 I (by omega) (by omega) ⟨fun _ _ => rfl, fun x y hx hy => by rw [if_neg (by omega)]; exact hfar x y hx hy⟩
  · intro N i t hi ⟨h1, h2⟩
    refine Or.inr ⟨up2 t (q + 4) (16 * i + i) 0, ⟨fun x hx => by rw [up2_ne hx]; exact h1 x hx, fun x y hx hy => ?_⟩, ?_⟩
    · rw [up2_eq]
      by_cases e : x = i ∧ y = i
      · rw [if_pos ⟨rfl, by omega⟩, if_pos (by omega)]; rfl
      · rw [if_neg (fun z => e (by omega)), h2 x y hx hy]
        by_cases e2 : x = y ∧ x < i
        · rw [if_pos e2, if_pos (by omega)]
        · rw [if_neg e2, if_neg (by omega)]
    · have tm : t q 1 = nI m := by rw [h1 q (by omega)]; exact hm
      have x1 : hm_ist (hp K R n s t) (q + 4) ((16 : Int32) * nI i + nI i) (0 : Int32) = some (hp K R n s (up2 t (q + 4) (16 * i + i) 0)) := by rw [ix16, hp_ist S.K4 (by omega) (by omega)]
      show g_R_make_45 F (f_R_make_45 F N) q (nI i) (hp K R n s t) = _
      unfold g_R_make_45
      simp only [eR_gi S, Option.bind_some, tm, if_neg (nI_ge hi (show m < 2 ^ 31 by omega)), eR_r6 S, x1, nI_1]
  · intro N t ⟨h1, h2⟩
    have tm : t q 1 = nI m := by rw [h1 q (by omega)]; exact hm
    refine ⟨t, ?_, h1, fun x y hx hy => ?_⟩
    · show g_R_make_45 F (f_R_make_45 F N) q (nI m) (hp K R n s t) = _
      unfold g_R_make_45
      simp only [eR_gi S, Option.bind_some, tm, if_pos (Int32.le_refl (nI m))]
    · rw [h2 x y hx hy]
      by_cases e : x = y
      · rw [if_pos ⟨e, hx⟩, if_pos e]
      · rw [if_neg (fun z => e z.1), if_neg e]
theorem far_dD (hp0 : prm m row rk) {x y : Nat} (hx : x < m) (hy : y < m) : (if x = y then some 0 else fwG A (fun _ => true) m x y) = dD A row m x y := by
  by_cases e : x = y
  · rw [if_pos e, e]; exact dD_0.symm
  · rw [if_neg e]
    show _ = fwI (dg A) row m x y
    rw [fw_dg e]
    exact fw_eq hp0 (Nat.le_refl m) (fun z hz => ⟨fun _ => (hp0.2.2 z hz).1, fun _ => rfl⟩) x y
theorem R_mk (hF : 5000 ≤ F) (S : shR K R q) (wf : WFs m A row rk mk LO LI TO TI hd) (hR : RelR q I m A row rk mk LO LI TO TI ch hd) :
    ∃ I2, f_R_make F q (hp K R n s I) = some (nI (sm (fun a => sm (pC (dD A row m) row rk a) m) m), hp K R n s I2) ∧ (∀ x, x < q → I2 x = I x) ∧ RelR q I2 m A row rk mk (nw m (sO (dD A row m) row rk)) (nw m (sI (dD A row m) row rk)) (nw m (sO (dD A row m) row rk)) (nw m (sI (dD A row m) row rk)) (sm (fun a => sm (pG (dD A row m) LO LI row rk a) m) m) true := by
  have h16 := wf.1.1
  obtain ⟨⟨p1, p2, p3⟩, p4, p5, _, _⟩ := hR.fr0
  have f0 : ∀ x, x ≠ q → up2 I q 0 0 x = I x := fun x hx => up2_ne hx
  have hnok := wf.nok
  generalize hI0 : up2 I q 0 0 = I0 at *
  -- gone
  obtain ⟨t1, e1, f1, g1⟩ := R_mk7 (F := F) (n := n) (s := s) (I := I0) hF S
  have hAok : ∀ x y, x < m → y < m → on_ok 1000 (A x y) := fun x y hx hy d hd => (hnok.1 x y hx hy d hd).2
  -- far
  obtain ⟨t2, e2, f2, g2⟩ := R_fill (F := F) (n := n) (s := s) (R := R) (I := t1) (x3 := (-1 : Int32)) (q := q) (ta := q + 4) (ga := q + 8) (fa := q + 1) (m := m) (T := A) (ok := fun _ => true) (by omega) S.K0 S.K1 S.K4 S.K8 (by omega) (by omega) (by omega) h16 (by rw [f1 q (by omega)]; exact p1) (fun x y hx hy => by rw [f1 _ (by omega)]; exact p2 x y (by omega) (by omega)) (fun k hk => ⟨fun _ => ⟨nI_m1 (by omega), g1 k (by omega)⟩, fun _ => rfl⟩) (fun k hk x y hx hy => on_ok_mono (fwG_ok h16 hk hAok hx hy) (by omega))
  obtain ⟨t3, e3, f3, g3⟩ := R_mk45 (F := F) (n := n) (s := s) (I := t2) hF S h16 (by rw [f2 q (by omega), f1 q (by omega)]; exact p1) g2
  have f4 : ∀ x, x ≠ q + 4 → x ≠ q + 8 → t3 x = I0 x := fun x h1 h2 => by rw [f3 x h1, f2 x h1, f1 x h2]
  have g4 : ∀ x y, x < m → y < m → t3 (q + 4) (16 * x + y) = enR (dD A row m x y) := fun x y hx hy => by rw [g3 x y hx hy, far_dD wf.1 hx hy]
  have f5 : ∀ x, x ≠ q → x ≠ q + 4 → x ≠ q + 8 → up2 t3 q 10 (nI 0) x = I0 x := fun x h0 h1 h2 => by rw [up2_ne h0]; exact f4 x h1 h2
  -- the labels
  have H : rD q m (up2 t3 q 10 (nI 0)) row rk (dD A row m) := by
    refine ⟨?_, wf.1, fun i hi => ?_, fun x y hx hy => ?_⟩
    · rw [up2_nj (by omega), f4 q (by omega) (by omega)]; exact p1
    · rw [f5 _ (by omega) (by omega) (by omega)]; exact p3 i hi
    · rw [up2_ne (by omega)]; exact ⟨g4 x y hx hy, on_ok_mono (wf.dok hx hy) (by omega)⟩
  have hold' : ∀ j, j < 512 → on_ok 2000000 (nS 16 LO LI j) := fun j hj => by
    have h1 : j / 16 % 16 < 16 := Nat.mod_lt _ (by omega)
    have h2 : j % 16 < 16 := Nat.mod_lt _ (by omega)
    unfold nS
    rw [if_pos ⟨h1, h2⟩]
    split
    · exact on_ok_mono (wf.2.2.2.1 _ _ h1 h2).1 (by omega)
    · exact on_ok_mono (wf.2.2.2.1 _ _ h1 h2).2.1 (by omega)
  obtain ⟨t6, e6, k1, k2, k3, k4⟩ := rm_loop (F := F) (n := n) (s := s) (by omega) S H hold' (fun j hj => by rw [f5 _ (by omega) (by omega) (by omega)]; exact p5 j hj) (up2_at _ _ _ _)
  rw [sums_cnt h16] at e6
  rw [sums_chg h16 (fun x y hx hy z => (wf.2.2.2.1 x y hx hy).2.2 z)] at k3
  have f6 : ∀ x, x ≠ q → x ≠ q + 4 → x ≠ q + 8 → x ≠ q + 5 → x ≠ q + 6 → x ≠ q + 7 → t6 x = I0 x := fun x h0 h1 h2 h3 h4 h5 => by rw [k1 x h0 h3 h4 h5]; exact f5 x h0 h1 h2
  have m6 : t6 q 1 = nI m := by rw [k2 1 (by omega)]; exact H.1
  have r6 : ∀ i, i < m → t6 (q + 2) i = nI (row i) := fun i hi => by rw [f6 _ (by omega) (by omega) (by omega) (by omega) (by omega) (by omega)]; exact p3 i hi
  have g6 : ∀ x, x < m → t6 (q + 8) x = 0 := fun x hx => by rw [k1 _ (by omega) (by omega) (by omega) (by omega), up2_ne (by omega), f3 _ (by omega), f2 _ (by omega)]; exact g1 x (by omega)
  -- the contraction
  obtain ⟨t7, e7, _, j1, j2, j3, j4, j5, j6⟩ := R_contr (F := F) (n := n) (s := s) (A := A) (I := t6) (by omega) S m6 wf.1 r6 (fun x y hx hy => by rw [f6 _ (by omega) (by omega) (by omega) (by omega) (by omega) (by omega)]; exact p2 x y (by omega) (by omega)) g6 hnok.2 (cW_ok wf.1 hnok) (cW_G wf.1 hnok) (cL_len wf.1)
  have CH : cH q m t7 row rk (cW A row rk m m) := by
    refine ⟨by rw [j2 1 (by omega)]; exact m6, wf.1, fun i hi => by rw [j1 _ (by omega)]; exact r6 i hi, fun x y hx hy => ⟨?_, cW_ok wf.1 hnok m (Nat.le_refl m) x y hx hy⟩⟩
    rw [j5 x y hx hy, if_pos (Or.inl (Nat.zero_le _)), Nat.sub_zero]
  obtain ⟨t8, e8, l1, l2⟩ := R_climb (F := F) (n := n) (s := s) (by omega) S CH
  have f8 : ∀ x, x ≠ q → x ≠ q + 12 → x ≠ q + 17 → x ≠ q + 18 → up2 t8 q 5 1 x = t7 x := fun x h0 h1 h2 h3 => by rw [up2_ne h0]; exact l1 x h1 h2 h3
  have fa : ∀ x, x < q ∨ x = q + 1 ∨ x = q + 2 ∨ x = q + 3 → up2 t8 q 5 1 x = I0 x := fun x hx => by rw [f8 x (by omega) (by omega) (by omega) (by omega), j1 x (by omega), f6 x (by omega) (by omega) (by omega) (by omega) (by omega) (by omega)]
  refine ⟨up2 t8 q 5 1, ?_, fun x hx => by rw [fa x (Or.inl hx)]; exact f0 x (by omega), ⟨?_, fun x y hx hy => ?_, fun i hi => ?_⟩, fun v hv => ?_, fun k hk => ?_, ?_, fun _ => ⟨fun x y hx hy => ?_, fun x y hx hy => ⟨?_, ?_⟩, ?_, ⟨?_, fun i x hx => ?_⟩, fun x y hx hy => ?_⟩⟩
  · rw [nI_0] at e1 e3 e6
    unfold f_R_make
    simp only [eR_pi S, Option.bind_some, hI0]
    rw [e1]
    unfold f_R_make_26
    simp only [eR_r2 S, eR_r6 S, eR_r11 S, Option.bind_some, eR_is S, e2]
    rw [e3]
    unfold f_R_make_71
    simp only [eR_pi S, Option.bind_some]
    rw [e6]
    unfold f_R_make_302
    simp only [eR_is S, Option.bind_some, e7]
    unfold f_R_contract_415
    simp only [eR_is S, Option.bind_some, e8, eR_p1 S]
  · rw [up2_nj (by omega), l1 q (by omega) (by omega) (by omega), j2 1 (by omega)]; exact m6
  · rw [fa _ (by omega)]; exact p2 x y hx hy
  · rw [fa _ (by omega)]; exact p3 i hi
  · rw [fa _ (by omega)]; exact p4 v hv
  · rw [f8 _ (by omega) (by omega) (by omega) (by omega), j1 _ (by omega), ((k4 k hk).1 hk).1, nS_nw]
  · rw [up2_at]; rfl
  · rw [f8 _ (by omega) (by omega) (by omega) (by omega), j1 _ (by omega), k1 _ (by omega) (by omega) (by omega) (by omega), up2_ne (by omega)]; exact g4 x y hx hy
  · rw [f8 _ (by omega) (by omega) (by omega) (by omega), j1 _ (by omega), ((k4 _ (by omega)).1 (by omega)).2, nS_0 (by omega) (by omega)]
  · rw [f8 _ (by omega) (by omega) (by omega) (by omega), j1 _ (by omega), ((k4 _ (by omega)).1 (by omega)).2, nS_1 (by omega) (by omega)]
  · rw [up2_nj (by omega), l1 q (by omega) (by omega) (by omega), j2 10 (by omega)]; exact k3
  · rw [up2_nj (by omega), l1 q (by omega) (by omega) (by omega)]; exact j6.1
  · rw [f8 _ (by omega) (by omega) (by omega) (by omega), f8 _ (by omega) (by omega) (by omega) (by omega), f8 _ (by omega) (by omega) (by omega) (by omega), f8 _ (by omega) (by omega) (by omega) (by omega)]; exact j6.2 i x hx
  · rw [up2_ne (by omega)]; exact l2 x y hx hy
theorem call_make (hF : 5000 ≤ F) (SD : shD K R o) (SR : shR K R (o + 148)) (g : SG) (h : Sim o I g) : Cal K R n s o I (f_D_make F o) (f_R_make F (o + 148)) := by
  obtain ⟨m, A, row, rk, mk, LO, LI, TO, TI, ch, hd⟩ := g
  obtain ⟨wf, hD, hR⟩ : WFs m A row rk mk LO LI TO TI hd ∧ RelD o I m A row rk mk LO LI TO TI ch hd ∧ RelR (o + 148) I m A row rk mk LO LI TO TI ch hd := h
  obtain ⟨I1, e1, f1, r1⟩ := D_mk (n := n) (s := s) hF SD wf hD
  refine Cal.of m A row rk mk _ _ _ _ _ true hR e1 f1 r1 (fun t ht => R_mk (n := n) (s := s) hF SR wf ht) ⟨wf.1, wf.2.1, wf.2.2.1, fun x y hx hy => ?_, fun _ x y hx hy => ?_⟩
  · by_cases z : x < m ∧ y < m
    · rw [nw_y z.1 z.2, nw_y z.1 z.2]; exact ⟨sO_ok (wf.dok z.1 z.2), sI_ok (wf.dok z.2 z.1), fun w => absurd z w⟩
    · rw [nw_n z, nw_n z]; exact ⟨(fun d hd => by cases hd), (fun d hd => by cases hd), fun _ => ⟨rfl, rfl⟩⟩
  · rw [nw_y hx hy, nw_y hx hy]; exact ⟨on_ok_mono (sO_ok (wf.dok hx hy)) (by omega), on_ok_mono (sI_ok (wf.dok hy hx)) (by omega)⟩
end MK
