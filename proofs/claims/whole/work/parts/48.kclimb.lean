/-! CLIMBING, the class's side -/
section KM
variable {K : Nat → Option ((Nat ⊕ Nat) × Nat)} {R : Nat → Nat → Option Nat} {n s F o m k : Nat} {I : Nat → Nat → Int32} {row rk : Nat → Nat} {W : Nat → Nat → Option Nat}
theorem J_fill16 {a : Nat} {x : Int32} (hF : 20 ≤ F) (ha : K a = some (.inl 0, 16)) : ∃ I', f_J_fill F a x (hp K R n s I) = some (hp K R n s I') ∧ (∀ b, b ≠ a → I' b = I b) ∧ ∀ j, j < 16 → I' a j = x := by
  unfold f_J_fill
  rw [hp_len ha, Option.bind_some, ← nI_0]
  refine hl_up (fun N i t => f_J_fill_5 F N a x (nI i) (nI 16) (hp K R n s t)) (fun z => ∃ I', z = some (hp K R n s I') ∧ (∀ b, b ≠ a → I' b = I b) ∧ ∀ j, j < 16 → I' a j = x) (fun i t => (∀ b, b ≠ a → t b = I b) ∧ ∀ j, j < i → t a j = x) 16 ?_ ?_ F 0 I (by omega) (by omega) ⟨fun _ _ => rfl, fun j h => by omega⟩
  · intro N i t hi ⟨h1, h2⟩
    refine Or.inr ⟨up2 t a i x, ⟨fun b hb => by rw [up2_ne hb]; exact h1 b hb, fun j hj => ?_⟩, ?_⟩
    · by_cases e : j = i
      · subst e; exact up2_at _ _ _ _
      · rw [up2_nj e]; exact h2 j (by omega)
    · show g_J_fill_5 F (f_J_fill_5 F N) a x (nI i) (nI 16) (hp K R n s t) = _
      unfold g_J_fill_5
      simp only [if_neg (nI_ge hi (show 16 < 2 ^ 31 by omega)), hp_ist ha hi (show 16 < 2 ^ 31 by omega), Option.bind_some, nI_1]
  · intro N t ⟨h1, h2⟩
    refine ⟨t, ?_, h1, h2⟩
    show g_J_fill_5 F (f_J_fill_5 F N) a x (nI 16) (nI 16) (hp K R n s t) = _
    unfold g_J_fill_5
    rw [if_pos (Int32.le_refl _)]
/-- the class's net, row, ranks and the lengths of contraction -/
def kH (o m : Nat) (I : Nat → Nat → Int32) (row rk : Nat → Nat) (W : Nat → Nat → Option Nat) : Prop :=
  I (o + 1) 0 = nI m ∧ prm m row rk ∧ (∀ i, i < m → I (o + 1 + 18) i = nI (row i)) ∧ (∀ v, v < m → I (o + 1 + 19) v = nI (rk v)) ∧ ∀ x y, x < m → y < m → I (o + 108 + 1 + 1 + x) y = enD (W x y) ∧ on_ok 15000 (W x y)
theorem kH.fr {I' : Nat → Nat → Int32} (H : kH o m I row rk W) (h : ∀ x, x ≠ o + 108 + 37 → x ≠ o + 108 + 38 → I' x = I x) : kH o m I' row rk W := by
  have := H.2.1.1
  exact ⟨by rw [h _ (by omega) (by omega)]; exact H.1, H.2.1, fun i hi => by rw [h _ (by omega) (by omega)]; exact H.2.2.1 i hi, fun i hi => by rw [h _ (by omega) (by omega)]; exact H.2.2.2.1 i hi, fun x y hx hy => by rw [h _ (by omega) (by omega)]; exact H.2.2.2.2 x y hx hy⟩
theorem K_cf_in {f : Nat → Option Nat} {N : Nat} (k22 : Nat → Nat → Int32 → hm_T → Option hm_T) (S : shD K R o) (H : kH o m I row rk W) (hk : k < m) (hf : ∀ w, w < m → I (o + 108 + 37) w = enD (f w) ∧ on_ok 1000000 (f w)) (hN : 16 < N) :
    ∃ t', f_K_climbFrom_37 F k22 N (o + 108) (o + 1) (nI k) (nI (row k)) (nI 0) (hp K R n s I) = k22 (o + 108) (o + 1) (nI k - 1) (hp K R n s t') ∧ (∀ x, x ≠ o + 108 + 37 → t' x = I x) ∧ ∀ w, w < m → t' (o + 108 + 37) w = enD (cfI W row k f k w) := by
  obtain ⟨q1, q2, q3, q4, q5⟩ := H
  have h16 := q2.1
  have hrk := q2.2.1 k hk
  refine hl_up (fun N i t => f_K_climbFrom_37 F k22 N (o + 108) (o + 1) (nI k) (nI (row k)) (nI i) (hp K R n s t)) (fun z => ∃ t', z = k22 (o + 108) (o + 1) (nI k - 1) (hp K R n s t') ∧ (∀ x, x ≠ o + 108 + 37 → t' x = I x) ∧ ∀ w, w < m → t' (o + 108 + 37) w = enD (cfI W row k f k w)) (fun i t => (∀ x, x ≠ o + 108 + 37 → t x = I x) ∧ ∀ w, w < m → t (o + 108 + 37) w = enD (cfI W row k f i w)) k ?_ ?_ N 0 I (by omega) (by omega) ⟨fun _ _ => rfl, fun w hw => (hf w hw).1⟩
  · intro N i t hi ⟨h1, h2⟩
    have hri := q2.2.1 i (by omega)
    have ek : cfI W row k f i (row k) = f (row k) := by rw [cfI_eq q2 hk i (by omega) _ hrk.1, if_neg (by rw [hrk.2]; omega)]
    have ei : cfI W row k f i (row i) = f (row i) := by rw [cfI_eq q2 hk i (by omega) _ hri.1, if_neg (by rw [hri.2]; omega)]
    have x1 : hm_ild (hp K R n s t) (o + 1 + 18) (nI i) = some (nI (row i)) := by rw [hp_ild S.N1.K18 (by omega) (by omega), h1 _ (by omega), q3 i (by omega)]
    have x2 : hm_ild (hp K R n s t) (o + 108 + 37) (nI (row k)) = some (enD (f (row k))) := by rw [hp_ild S.C108.K37 (by omega) (by omega), h2 _ hrk.1, ek]
    have x3 : hm_ild (hp K R n s t) (o + 108 + 37) (nI (row i)) = some (enD (f (row i))) := by rw [hp_ild S.C108.K37 (by omega) (by omega), h2 _ hri.1, ei]
    have x4 : hm_ild (hp K R n s t) (o + 108 + 1 + 1 + row k) (nI (row i)) = some (enD (W (row k) (row i))) := by rw [gd_ild S.C108.g1 (by omega) (by omega), h1 _ (by omega), (q5 _ _ hrk.1 hri.1).1]
    have o1 := (hf _ hrk.1).2
    have o2 := (hf _ hri.1).2
    have o3 := (q5 _ _ hrk.1 hri.1).2
    have x5 := D_sum (F := F) (h := hp K R n s t) (x := f (row k)) (y := W (row k) (row i)) (on_ok_mono o1 (show 1000000 ≤ 1000000000 by omega)) (on_ok_mono o3 (show 15000 ≤ 1000000000 by omega))
    have x6 := D_lesser (F := F) (h := hp K R n s t) (x := on_add (f (row k)) (W (row k) (row i))) (y := f (row i)) (on_ok_mono (on_ok_add o1 o3) (show 1000000 + 15000 ≤ 2000000000 by omega)) (on_ok_mono o2 (show 1000000 ≤ 2000000000 by omega))
    refine Or.inr ⟨up2 t (o + 108 + 37) (row i) (enD (on_min (f (row i)) (on_add (f (row k)) (W (row k) (row i))))), ⟨fun x hx => by rw [up2_ne hx]; exact h1 x hx, fun w hw => ?_⟩, ?_⟩
    · show _ = enD (if w = row i then on_min (cfI W row k f i w) (on_add (f (row k)) (W (row k) w)) else cfI W row k f i w)
      by_cases e : w = row i
      · subst e; rw [up2_at, if_pos rfl, ei]
      · rw [up2_nj e, if_neg e]; exact h2 w hw
    · show g_K_climbFrom_37 F k22 (f_K_climbFrom_37 F k22 N) (o + 108) (o + 1) (nI k) (nI (row k)) (nI i) (hp K R n s t) = _
      unfold g_K_climbFrom_37
      simp only [if_neg (nI_ge hi (show k < 2 ^ 31 by omega)), eN_r3 S.N1, Option.bind_some, x1, eC_r5 S.C108, x2, eC_r0 S.C108, gd_ald S.C108.g1 (show row k < 16 by omega), x4, x5, hm_and_some, x3, x6, hp_ist S.C108.K37 (show row i < 16 by omega) (show 16 < 2 ^ 31 by omega), nI_1]
  · intro N t ⟨h1, h2⟩
    refine ⟨t, ?_, h1, h2⟩
    show g_K_climbFrom_37 F k22 (f_K_climbFrom_37 F k22 N) (o + 108) (o + 1) (nI k) (nI (row k)) (nI k) (hp K R n s t) = _
    unfold g_K_climbFrom_37 f_K_climbFrom_95
    rw [if_pos (Int32.le_refl _), nI_dec]
theorem K_cf_all {a : Nat} (hF : 20 ≤ F) (S : shD K R o) (H : kH o m I row rk W) (ha : a < m) :
    ∃ t', f_K_climbFrom F (o + 108) (o + 1) (nI a) (hp K R n s I) = some (hp K R n s t') ∧ (∀ x, x ≠ o + 108 + 37 → t' x = I x) ∧ ∀ w, w < m → t' (o + 108 + 37) w = enD (cu W row m a w) := by
  have h16 := H.2.1.1
  have hra := H.2.1.2.2 a ha
  obtain ⟨I1, e1, f1, g1⟩ := J_fill16 (F := F) (n := n) (s := s) (R := R) (I := I) (x := -1) hF S.C108.K37
  unfold f_K_climbFrom
  have fr : ∀ (t : Nat → Nat → Int32), (∀ x, x ≠ o + 108 + 37 → t x = I x) → kH o m t row rk W := fun t ht => H.fr (fun x a1 a2 => ht x (by omega))
  have hW2 : ∀ x y, x < m → y < m → on_ok 15000 (W x y) := fun x y hx hy => (H.2.2.2.2 x y hx hy).2
  have x9 : hm_ild (hp K R n s (up2 I1 (o + 108 + 37) a 0)) (o + 1 + 19) (nI a) = some (nI (rk a)) := by rw [hp_ild S.N1.K19 (by omega) (by omega), up2_ne (by omega), f1 _ (by omega), H.2.2.2.1 a ha]
  simp only [eC_r5 S.C108, Option.bind_some, e1, hp_ist S.C108.K37 (show a < 16 by omega) (show 16 < 2 ^ 31 by omega), eN_r4 S.N1, x9]
  refine hl_dn (fun N i t => f_K_climbFrom_22 F N (o + 108) (o + 1) (nI i) (hp K R n s t)) (fun z => ∃ t', z = some (hp K R n s t') ∧ (∀ x, x ≠ o + 108 + 37 → t' x = I x) ∧ ∀ w, w < m → t' (o + 108 + 37) w = enD (cu W row m a w)) (fun i t => i ≤ rk a ∧ (∀ x, x ≠ o + 108 + 37 → t x = I x) ∧ ∀ w, w < m → t (o + 108 + 37) w = enD (cf W row a (rk a) (rk a - i) w)) 0 ?_ ?_ F (rk a) _ (by omega) (by omega) ⟨Nat.le_refl _, fun x hx => by rw [up2_ne hx]; exact f1 x hx, fun w hw => ?_⟩
  · intro N i t _ ⟨h0, h1, h2⟩
    have ei : rk a - i = (rk a - (i + 1)) + 1 := by omega
    have ek : rk a - (rk a - (i + 1)) = i + 1 := by omega
    have Ht := fr t h1
    have hb := cf_ok (a := a) (W := W) H.2.1 hra.1 hW2 (rk a - (i + 1)) (by omega)
    obtain ⟨t', e2, f2, g2⟩ := K_cf_in (F := F) (n := n) (s := s) (N := F) (f_K_climbFrom_22 F N) S Ht (show i + 1 < m by omega) (f := cf W row a (rk a) (rk a - (i + 1))) (fun w hw => ⟨h2 w hw, on_ok_mono (hb w hw) (by have : (rk a - (i + 1)) * 15000 ≤ 16 * 15000 := Nat.mul_le_mul_right _ (by omega); omega)⟩) (by omega)
    refine Or.inr ⟨t', ⟨by omega, fun x hx => (f2 x hx).trans (h1 x hx), fun w hw => ?_⟩, ?_⟩
    · rw [ei]
      show _ = enD (cfI W row (rk a - (rk a - (i + 1))) (cf W row a (rk a) (rk a - (i + 1))) (rk a - (rk a - (i + 1))) w)
      rw [ek]; exact g2 w hw
    · show g_K_climbFrom_22 F (f_K_climbFrom_22 F N) (o + 108) (o + 1) (nI (i + 1)) (hp K R n s t) = _
      have x1 : hm_ild (hp K R n s t) (o + 1 + 18) (nI (i + 1)) = some (nI (row (i + 1))) := by rw [hp_ild S.N1.K18 (by omega) (by omega), Ht.2.2.1 _ (by omega)]
      unfold g_K_climbFrom_22
      simp only [if_neg (nI_nle (show 0 < i + 1 by omega) (show i + 1 < 2 ^ 31 by omega)), eN_r3 S.N1, Option.bind_some, x1]
      rw [← nI_0, e2, nI_pred]
  · intro N t ⟨h0, h1, h2⟩
    refine ⟨t, ?_, h1, fun w hw => by rw [h2 w hw, Nat.sub_zero, cu_cf H.2.1 ha hw]⟩
    show g_K_climbFrom_22 F (f_K_climbFrom_22 F N) (o + 108) (o + 1) (nI 0) (hp K R n s t) = _
    unfold g_K_climbFrom_22
    rw [nI_0, if_pos (Int32.le_refl _)]
  · rw [Nat.sub_self, up2_eq]
    show _ = enD (if w = a then some 0 else none)
    by_cases e : w = a
    · rw [if_pos ⟨rfl, e⟩, if_pos e, ← nI_0]; rfl
    · rw [if_neg (fun z => e z.2), if_neg e, g1 w (by omega)]; rfl
theorem K_cb_in {f : Nat → Option Nat} {N : Nat} (k22 : Nat → Nat → Int32 → hm_T → Option hm_T) (S : shD K R o) (H : kH o m I row rk W) (hk : k < m) (hf : ∀ w, w < m → I (o + 108 + 38) w = enD (f w) ∧ on_ok 1000000 (f w)) (hN : 16 < N) :
    ∃ t', f_K_climbBackFrom_37 F k22 N (o + 108) (o + 1) (nI k) (nI (row k)) (nI 0) (hp K R n s I) = k22 (o + 108) (o + 1) (nI k - 1) (hp K R n s t') ∧ (∀ x, x ≠ o + 108 + 38 → t' x = I x) ∧ ∀ w, w < m → t' (o + 108 + 38) w = enD (cfI (tr W) row k f k w) := by
  obtain ⟨q1, q2, q3, q4, q5⟩ := H
  have h16 := q2.1
  have hrk := q2.2.1 k hk
  refine hl_up (fun N i t => f_K_climbBackFrom_37 F k22 N (o + 108) (o + 1) (nI k) (nI (row k)) (nI i) (hp K R n s t)) (fun z => ∃ t', z = k22 (o + 108) (o + 1) (nI k - 1) (hp K R n s t') ∧ (∀ x, x ≠ o + 108 + 38 → t' x = I x) ∧ ∀ w, w < m → t' (o + 108 + 38) w = enD (cfI (tr W) row k f k w)) (fun i t => (∀ x, x ≠ o + 108 + 38 → t x = I x) ∧ ∀ w, w < m → t (o + 108 + 38) w = enD (cfI (tr W) row k f i w)) k ?_ ?_ N 0 I (by omega) (by omega) ⟨fun _ _ => rfl, fun w hw => (hf w hw).1⟩
  · intro N i t hi ⟨h1, h2⟩
    have hri := q2.2.1 i (by omega)
    have ek : cfI (tr W) row k f i (row k) = f (row k) := by rw [cfI_eq q2 hk i (by omega) _ hrk.1, if_neg (by rw [hrk.2]; omega)]
    have ei : cfI (tr W) row k f i (row i) = f (row i) := by rw [cfI_eq q2 hk i (by omega) _ hri.1, if_neg (by rw [hri.2]; omega)]
    have x1 : hm_ild (hp K R n s t) (o + 1 + 18) (nI i) = some (nI (row i)) := by rw [hp_ild S.N1.K18 (by omega) (by omega), h1 _ (by omega), q3 i (by omega)]
    have x2 : hm_ild (hp K R n s t) (o + 108 + 38) (nI (row k)) = some (enD (f (row k))) := by rw [hp_ild S.C108.K38 (by omega) (by omega), h2 _ hrk.1, ek]
    have x3 : hm_ild (hp K R n s t) (o + 108 + 38) (nI (row i)) = some (enD (f (row i))) := by rw [hp_ild S.C108.K38 (by omega) (by omega), h2 _ hri.1, ei]
    have x4 : hm_ild (hp K R n s t) (o + 108 + 1 + 1 + row i) (nI (row k)) = some (enD (W (row i) (row k))) := by rw [gd_ild S.C108.g1 (by omega) (by omega), h1 _ (by omega), (q5 _ _ hri.1 hrk.1).1]
    have o1 := (hf _ hrk.1).2
    have o2 := (hf _ hri.1).2
    have o3 := (q5 _ _ hri.1 hrk.1).2
    have x5 := D_sum (F := F) (h := hp K R n s t) (x := W (row i) (row k)) (y := f (row k)) (on_ok_mono o3 (show 15000 ≤ 1000000000 by omega)) (on_ok_mono o1 (show 1000000 ≤ 1000000000 by omega))
    rw [on_add_cm (W (row i) (row k))] at x5
    replace x5 : f_D_sum F (enD (W (row i) (row k))) (enD (f (row k))) (hp K R n s t) = some (enD (on_add (f (row k)) ((tr W) (row k) (row i))), hp K R n s t) := x5
    have x6 := D_lesser (F := F) (h := hp K R n s t) (x := on_add (f (row k)) ((tr W) (row k) (row i))) (y := f (row i)) (on_ok_mono (on_ok_add o1 o3) (show 1000000 + 15000 ≤ 2000000000 by omega)) (on_ok_mono o2 (show 1000000 ≤ 2000000000 by omega))
    refine Or.inr ⟨up2 t (o + 108 + 38) (row i) (enD (on_min (f (row i)) (on_add (f (row k)) ((tr W) (row k) (row i))))), ⟨fun x hx => by rw [up2_ne hx]; exact h1 x hx, fun w hw => ?_⟩, ?_⟩
    · show _ = enD (if w = row i then on_min (cfI (tr W) row k f i w) (on_add (f (row k)) ((tr W) (row k) w)) else cfI (tr W) row k f i w)
      by_cases e : w = row i
      · subst e; rw [up2_at, if_pos rfl, ei]
      · rw [up2_nj e, if_neg e]; exact h2 w hw
    · show g_K_climbBackFrom_37 F k22 (f_K_climbBackFrom_37 F k22 N) (o + 108) (o + 1) (nI k) (nI (row k)) (nI i) (hp K R n s t) = _
      unfold g_K_climbBackFrom_37
      simp only [if_neg (nI_ge hi (show k < 2 ^ 31 by omega)), eN_r3 S.N1, Option.bind_some, x1, eC_r6 S.C108, x2, eC_r0 S.C108, gd_ald S.C108.g1 (show row i < 16 by omega), x4, x5, hm_and_some, x3, x6, hp_ist S.C108.K38 (show row i < 16 by omega) (show 16 < 2 ^ 31 by omega), nI_1]
  · intro N t ⟨h1, h2⟩
    refine ⟨t, ?_, h1, h2⟩
    show g_K_climbBackFrom_37 F k22 (f_K_climbBackFrom_37 F k22 N) (o + 108) (o + 1) (nI k) (nI (row k)) (nI k) (hp K R n s t) = _
    unfold g_K_climbBackFrom_37 f_K_climbBackFrom_95
    rw [if_pos (Int32.le_refl _), nI_dec]
theorem K_cb_all {a : Nat} (hF : 20 ≤ F) (S : shD K R o) (H : kH o m I row rk W) (ha : a < m) :
    ∃ t', f_K_climbBackFrom F (o + 108) (o + 1) (nI a) (hp K R n s I) = some (hp K R n s t') ∧ (∀ x, x ≠ o + 108 + 38 → t' x = I x) ∧ ∀ w, w < m → t' (o + 108 + 38) w = enD (cu (tr W) row m a w) := by
  have h16 := H.2.1.1
  have hra := H.2.1.2.2 a ha
  obtain ⟨I1, e1, f1, g1⟩ := J_fill16 (F := F) (n := n) (s := s) (R := R) (I := I) (x := -1) hF S.C108.K38
  unfold f_K_climbBackFrom
  have fr : ∀ (t : Nat → Nat → Int32), (∀ x, x ≠ o + 108 + 38 → t x = I x) → kH o m t row rk W := fun t ht => H.fr (fun x a1 a2 => ht x (by omega))
  have hW2 : ∀ x y, x < m → y < m → on_ok 15000 ((tr W) x y) := fun x y hx hy => (H.2.2.2.2 y x hy hx).2
  have x9 : hm_ild (hp K R n s (up2 I1 (o + 108 + 38) a 0)) (o + 1 + 19) (nI a) = some (nI (rk a)) := by rw [hp_ild S.N1.K19 (by omega) (by omega), up2_ne (by omega), f1 _ (by omega), H.2.2.2.1 a ha]
  simp only [eC_r6 S.C108, Option.bind_some, e1, hp_ist S.C108.K38 (show a < 16 by omega) (show 16 < 2 ^ 31 by omega), eN_r4 S.N1, x9]
  refine hl_dn (fun N i t => f_K_climbBackFrom_22 F N (o + 108) (o + 1) (nI i) (hp K R n s t)) (fun z => ∃ t', z = some (hp K R n s t') ∧ (∀ x, x ≠ o + 108 + 38 → t' x = I x) ∧ ∀ w, w < m → t' (o + 108 + 38) w = enD (cu (tr W) row m a w)) (fun i t => i ≤ rk a ∧ (∀ x, x ≠ o + 108 + 38 → t x = I x) ∧ ∀ w, w < m → t (o + 108 + 38) w = enD (cf (tr W) row a (rk a) (rk a - i) w)) 0 ?_ ?_ F (rk a) _ (by omega) (by omega) ⟨Nat.le_refl _, fun x hx => by rw [up2_ne hx]; exact f1 x hx, fun w hw => ?_⟩
  · intro N i t _ ⟨h0, h1, h2⟩
    have ei : rk a - i = (rk a - (i + 1)) + 1 := by omega
    have ek : rk a - (rk a - (i + 1)) = i + 1 := by omega
    have Ht := fr t h1
    have hb := cf_ok (a := a) (W := (tr W)) H.2.1 hra.1 hW2 (rk a - (i + 1)) (by omega)
    obtain ⟨t', e2, f2, g2⟩ := K_cb_in (F := F) (n := n) (s := s) (N := F) (f_K_climbBackFrom_22 F N) S Ht (show i + 1 < m by omega) (f := cf (tr W) row a (rk a) (rk a - (i + 1))) (fun w hw => ⟨h2 w hw, on_ok_mono (hb w hw) (by have : (rk a - (i + 1)) * 15000 ≤ 16 * 15000 := Nat.mul_le_mul_right _ (by omega); omega)⟩) (by omega)
    refine Or.inr ⟨t', ⟨by omega, fun x hx => (f2 x hx).trans (h1 x hx), fun w hw => ?_⟩, ?_⟩
    · rw [ei]
      show _ = enD (cfI (tr W) row (rk a - (rk a - (i + 1))) (cf (tr W) row a (rk a) (rk a - (i + 1))) (rk a - (rk a - (i + 1))) w)
      rw [ek]; exact g2 w hw
    · show g_K_climbBackFrom_22 F (f_K_climbBackFrom_22 F N) (o + 108) (o + 1) (nI (i + 1)) (hp K R n s t) = _
      have x1 : hm_ild (hp K R n s t) (o + 1 + 18) (nI (i + 1)) = some (nI (row (i + 1))) := by rw [hp_ild S.N1.K18 (by omega) (by omega), Ht.2.2.1 _ (by omega)]
      unfold g_K_climbBackFrom_22
      simp only [if_neg (nI_nle (show 0 < i + 1 by omega) (show i + 1 < 2 ^ 31 by omega)), eN_r3 S.N1, Option.bind_some, x1]
      rw [← nI_0, e2, nI_pred]
  · intro N t ⟨h0, h1, h2⟩
    refine ⟨t, ?_, h1, fun w hw => by rw [h2 w hw, Nat.sub_zero, cu_cf H.2.1 ha hw]⟩
    show g_K_climbBackFrom_22 F (f_K_climbBackFrom_22 F N) (o + 108) (o + 1) (nI 0) (hp K R n s t) = _
    unfold g_K_climbBackFrom_22
    rw [nI_0, if_pos (Int32.le_refl _)]
  · rw [Nat.sub_self, up2_eq]
    show _ = enD (if w = a then some 0 else none)
    by_cases e : w = a
    · rw [if_pos ⟨rfl, e⟩, if_pos e, ← nI_0]; rfl
    · rw [if_neg (fun z => e z.2), if_neg e, g1 w (by omega)]; rfl
theorem K_climb {a b : Nat} (hF : 20 ≤ F) (S : shD K R o) (H : kH o m I row rk W) (ha : a < m) (hb : b < m) :
    ∃ t', f_K_climbed F (o + 108) (o + 1) (nI a) (nI b) (hp K R n s I) = some (enD (clm W row m a b), hp K R n s t') ∧ (∀ x, x ≠ o + 108 + 37 → x ≠ o + 108 + 38 → t' x = I x) := by
  have h16 := H.2.1.1
  obtain ⟨t1, e1, f1, g1⟩ := K_cf_all (F := F) (n := n) (s := s) hF S H ha
  obtain ⟨t2, e2, f2, g2⟩ := K_cb_all (F := F) (n := n) (s := s) hF S (H.fr (I' := t1) (fun x a1 _ => f1 x a1)) hb
  have fr : ∀ x, x ≠ o + 108 + 37 → x ≠ o + 108 + 38 → t2 x = I x := fun x a1 a2 => (f2 x a2).trans (f1 x a1)
  have H2 := H.fr fr
  have c1 : ∀ i, i < m → on_ok 240000 (cu W row m a i) := fun i hi => on_ok_mono (cu_ok H.2.1 (fun x y hx hy => (H.2.2.2.2 x y hx hy).2) m (Nat.le_refl _) a i ha) (by have : m * 15000 ≤ 16 * 15000 := Nat.mul_le_mul_right _ h16; omega)
  have c2 : ∀ i, i < m → on_ok 240000 (cu (tr W) row m b i) := fun i hi => on_ok_mono (cu_ok H.2.1 (fun x y hx hy => (H.2.2.2.2 y x hy hx).2) m (Nat.le_refl _) b i hb) (by have : m * 15000 ≤ 16 * 15000 := Nat.mul_le_mul_right _ h16; omega)
  refine ⟨t2, ?_, fr⟩
  unfold f_K_climbed
  simp only [eC_is S.C108, Option.bind_some, e1, e2]
  rw [← nI_0]
  refine hl_up (fun N i (z : Option Nat) => f_K_climbed_18 F N (o + 108) (o + 1) (enD z) (nI i) (hp K R n s t2)) (fun z => z = some (enD (clm W row m a b), hp K R n s t2)) (fun i z => z = mn (fun i => on_add (cu W row m a i) (cu (tr W) row m b i)) i) m ?_ ?_ F 0 none (by omega) (by omega) rfl
  · intro N i z hi hz
    subst hz
    have x1 : hm_ild (hp K R n s t2) (o + 108 + 37) (nI i) = some (enD (cu W row m a i)) := by rw [hp_ild S.C108.K37 (by omega) (by omega), f2 _ (by omega), g1 i hi]
    have x2 : hm_ild (hp K R n s t2) (o + 108 + 38) (nI i) = some (enD (cu (tr W) row m b i)) := by rw [hp_ild S.C108.K38 (by omega) (by omega), g2 i hi]
    have x3 := D_sum (F := F) (h := hp K R n s t2) (on_ok_mono (c1 i hi) (show 240000 ≤ 1000000000 by omega)) (on_ok_mono (c2 i hi) (show 240000 ≤ 1000000000 by omega))
    have o1 : on_ok 480000 (mn (fun i => on_add (cu W row m a i) (cu (tr W) row m b i)) i) := mn_ok i (fun j hj => on_ok_add (c1 j (by omega)) (c2 j (by omega)))
    have x4 := D_lesser (F := F) (h := hp K R n s t2) (on_ok_mono o1 (show 480000 ≤ 2000000000 by omega)) (on_ok_mono (on_ok_add (c1 i hi) (c2 i hi)) (show 240000 + 240000 ≤ 2000000000 by omega))
    refine Or.inr ⟨_, rfl, ?_⟩
    show g_K_climbed_18 F (f_K_climbed_18 F N) (o + 108) (o + 1) (enD (mn (fun i => on_add (cu W row m a i) (cu (tr W) row m b i)) i)) (nI i) (hp K R n s t2) = _
    unfold g_K_climbed_18
    simp only [eN_gi S.N1, Option.bind_some, H2.1, if_neg (nI_ge hi (show m < 2 ^ 31 by omega)), eC_r5 S.C108, x1, eC_r6 S.C108, x2, x3, hm_and_some, x4, nI_1]
    rw [on_min_cm]
    rfl
  · intro N z hz
    subst hz
    show g_K_climbed_18 F (f_K_climbed_18 F N) (o + 108) (o + 1) (enD (mn (fun i => on_add (cu W row m a i) (cu (tr W) row m b i)) m)) (nI m) (hp K R n s t2) = _
    unfold g_K_climbed_18
    simp only [eN_gi S.N1, Option.bind_some, H2.1, if_pos (Int32.le_refl (nI m))]
    rfl
end KM
