/-! CLIMBING, the reference's side -/
theorem enR_min {α : Type} (k : Int32 → α) {x y z : Option Nat} (hx : on_ok 499999 x) (hy : on_ok 499999 y) (hz : on_ok 999999 z) : (if enR z ≤ enR x + enR y then k (enR z) else k (enR x + enR y)) = k (enR (on_min z (on_add x y))) := by
  have hs := enR_sum hx hy hz
  by_cases h : on_lt (on_add x y) z = true
  · rw [if_neg (hs.mpr h), enR_add h, on_min_lt, if_pos h]
  · rw [if_pos (Classical.byContradiction (fun w => h (hs.mp w))), on_min_lt, if_neg h]
section RA
variable {K : Nat → Option ((Nat ⊕ Nat) × Nat)} {R : Nat → Nat → Option Nat} {n s F q m k : Nat} {I : Nat → Nat → Int32} {row rk : Nat → Nat} {W : Nat → Nat → Option Nat}
/-- the reference's nodes, row and kept lengths -/
def cH (q m : Nat) (I : Nat → Nat → Int32) (row rk : Nat → Nat) (W : Nat → Nat → Option Nat) : Prop :=
  I q 1 = nI m ∧ prm m row rk ∧ (∀ i, i < m → I (q + 2) i = nI (row i)) ∧ ∀ x y, x < m → y < m → I (q + 11) (16 * x + y) = enR (W x y) ∧ on_ok 15000 (W x y)
def CAi (q m : Nat) (I t : Nat → Nat → Int32) (U V : Nat → Nat → Option Nat) : Prop :=
  (∀ x, x ≠ q + 17 → x ≠ q + 18 → t x = I x) ∧ ∀ x z, x < m → z < m → t (q + 17) (16 * x + z) = enR (U x z) ∧ t (q + 18) (16 * z + x) = enR (V x z)
theorem ra_in {t : Nat → Nat → Int32} {U V U' V' : Nat → Nat → Option Nat} {v y N : Nat} {x1 x3 : Int32} (k69 : Nat → Int32 → Int32 → Int32 → hm_T → Option hm_T) (S : shR K R q) (H : cH q m I row rk W) (hv : v < m) (hy : y < m) (hne : y ≠ v) (hU : ∀ x z, x < m → z < m → on_ok 400000 (U x z)) (hV : ∀ x z, x < m → z < m → on_ok 400000 (V x z)) (eU : ∀ x z, U' x z = if x = v then on_min (U x z) (on_add (W v y) (U y z)) else U x z) (eV : ∀ x z, V' x z = if x = v then on_min (V x z) (on_add (tr W v y) (V y z)) else V x z) (hN : 16 < N) (h : CAi q m I t U V) :
    ∃ t', f_R_climbAll_85 F k69 N q x1 (nI v) x3 (nI y) (nI 0) (hp K R n s t) = k69 q x1 (nI v) (x3 + 1) (hp K R n s t') ∧ CAi q m I t' U' V' := by
  have h16 := H.2.1.1
  refine hl_up (fun N j t => f_R_climbAll_85 F k69 N q x1 (nI v) x3 (nI y) (nI j) (hp K R n s t)) (fun z => ∃ t', z = k69 q x1 (nI v) (x3 + 1) (hp K R n s t') ∧ CAi q m I t' U' V') (fun j t => CAi q m I t (fun x z => if z < j then U' x z else U x z) (fun x z => if z < j then V' x z else V x z)) m ?_ ?_ N 0 t (by omega) (by omega) ⟨h.1, fun x z hx hz => by simp only [if_neg (Nat.not_lt_zero z)]; exact h.2 x z hx hz⟩
  · intro N j t hj ⟨h1, h2⟩
    have w1 : t q 1 = nI m := by rw [h1 _ (by omega) (by omega)]; exact H.1
    have vy := h2 y j hy hj
    have vv := h2 v j hv hj
    simp only [if_neg (Nat.lt_irrefl j)] at vy vv
    have l1 : hm_ild (hp K R n s t) (q + 11) ((16 : Int32) * nI v + nI y) = some (enR (W v y)) := by rw [ix16, hp_ild S.K11 (by omega) (by omega), h1 _ (by omega) (by omega), (H.2.2.2 v y hv hy).1]
    have l2 : hm_ild (hp K R n s t) (q + 17) ((16 : Int32) * nI y + nI j) = some (enR (U y j)) := by rw [ix16, hp_ild S.K17 (by omega) (by omega), vy.1]
    have l3 : hm_ild (hp K R n s t) (q + 18) ((16 : Int32) * nI j + nI y) = some (enR (V y j)) := by rw [ix16, hp_ild S.K18 (by omega) (by omega), vy.2]
    have l4 : hm_ild (hp K R n s t) (q + 11) ((16 : Int32) * nI y + nI v) = some (enR (tr W v y)) := by rw [ix16, hp_ild S.K11 (by omega) (by omega), h1 _ (by omega) (by omega), (H.2.2.2 y v hy hv).1]; rfl
    have l5 : hm_ild (hp K R n s t) (q + 17) ((16 : Int32) * nI v + nI j) = some (enR (U v j)) := by rw [ix16, hp_ild S.K17 (by omega) (by omega), vv.1]
    have l6 : ∀ x, hm_ild (hp K R n s (up2 t (q + 17) (16 * v + j) x)) (q + 18) ((16 : Int32) * nI j + nI v) = some (enR (V v j)) := fun x => by rw [ix16, hp_ild S.K18 (by omega) (by omega), up2_ne (by omega), vv.2]
    have s1 : ∀ x, hm_ist (hp K R n s t) (q + 17) ((16 : Int32) * nI v + nI j) x = some (hp K R n s (up2 t (q + 17) (16 * v + j) x)) := fun x => by rw [ix16, hp_ist S.K17 (by omega) (by omega)]
    have s2 : ∀ x t, hm_ist (hp K R n s t) (q + 18) ((16 : Int32) * nI j + nI v) x = some (hp K R n s (up2 t (q + 18) (16 * j + v) x)) := fun x t => by rw [ix16, hp_ist S.K18 (by omega) (by omega)]
    have bW := (H.2.2.2 v y hv hy).2
    have bT : on_ok 15000 (tr W v y) := (H.2.2.2 y v hy hv).2
    have m1 := fun (k : Int32 → Option hm_T) => enR_min k (on_ok_mono bW (show 15000 ≤ 499999 by omega)) (on_ok_mono (hU y j hy hj) (show 400000 ≤ 499999 by omega)) (on_ok_mono (hU v j hv hj) (show 400000 ≤ 999999 by omega))
    have m2 := fun (k : Int32 → Option hm_T) => enR_min k (on_ok_mono (hV y j hy hj) (show 400000 ≤ 499999 by omega)) (on_ok_mono bT (show 15000 ≤ 499999 by omega)) (on_ok_mono (hV v j hv hj) (show 400000 ≤ 999999 by omega))
    have eu : on_min (U v j) (on_add (W v y) (U y j)) = U' v j := by rw [eU, if_pos rfl]
    have ev : on_min (V v j) (on_add (V y j) (tr W v y)) = V' v j := by rw [eV, if_pos rfl, on_add_cm]
    refine Or.inr ⟨up2 (up2 t (q + 17) (16 * v + j) (enR (U' v j))) (q + 18) (16 * j + v) (enR (V' v j)), ⟨fun x a1 a2 => by rw [up2_ne a2, up2_ne a1]; exact h1 x a1 a2, fun x z hx hz => ⟨?_, ?_⟩⟩, ?_⟩
    · rw [up2_ne (by omega), up2_eq]
      by_cases e : x = v ∧ z = j
      · rw [if_pos ⟨rfl, by omega⟩]; simp only [e.1, e.2, if_pos (Nat.lt_succ_self j)]
      · rw [if_neg (fun w => e (by omega)), (h2 x z hx hz).1]
        by_cases ez : z = j
        · have hxv : x ≠ v := fun w => e ⟨w, ez⟩
          simp only [ez, if_neg (Nat.lt_irrefl j), if_pos (Nat.lt_succ_self j)]
          rw [eU, if_neg hxv]
        · by_cases lz : z < j
          · simp only [if_pos lz, if_pos (show z < j + 1 by omega)]
          · simp only [if_neg lz, if_neg (show ¬ z < j + 1 by omega)]
    · rw [up2_eq]
      by_cases e : x = v ∧ z = j
      · rw [if_pos ⟨rfl, by omega⟩]; simp only [e.1, e.2, if_pos (Nat.lt_succ_self j)]
      · rw [if_neg (fun w => e (by omega)), up2_ne (by omega), (h2 x z hx hz).2]
        by_cases ez : z = j
        · have hxv : x ≠ v := fun w => e ⟨w, ez⟩
          simp only [ez, if_neg (Nat.lt_irrefl j), if_pos (Nat.lt_succ_self j)]
          rw [eV, if_neg hxv]
        · by_cases lz : z < j
          · simp only [if_pos lz, if_pos (show z < j + 1 by omega)]
          · simp only [if_neg lz, if_neg (show ¬ z < j + 1 by omega)]
    · show g_R_climbAll_85 F k69 (f_R_climbAll_85 F k69 N) q x1 (nI v) x3 (nI y) (nI j) (hp K R n s t) = _
      unfold g_R_climbAll_85
      simp only [eR_gi S, Option.bind_some, w1, if_neg (nI_ge hj (show m < 2 ^ 31 by omega)), eR_r14 S, l1, eR_r21 S, l2, eR_r22 S, l3, l4, l5]
      rw [m1 (fun c => f_R_climbAll_195 F (f_R_climbAll_85 F k69 N) q x1 (nI v) x3 (nI y) (nI j) (enR (V y j) + enR (tr W v y)) c (16 * nI v + nI j) (q + 17) (hp K R n s t)), eu]
      unfold f_R_climbAll_195
      simp only [s1, Option.bind_some, eR_r22 S, l6]
      rw [m2 (fun c => f_R_climbAll_241 F (f_R_climbAll_85 F k69 N) q x1 (nI v) x3 (nI y) (nI j) c (16 * nI j + nI v) (q + 18) (hp K R n s (up2 t (q + 17) (16 * v + j) (enR (U' v j))))), ev]
      unfold f_R_climbAll_241
      simp only [s2, Option.bind_some, nI_1]
  · intro N t ⟨h1, h2⟩
    have w1 : t q 1 = nI m := by rw [h1 _ (by omega) (by omega)]; exact H.1
    refine ⟨t, ?_, h1, fun x z hx hz => ?_⟩
    · show g_R_climbAll_85 F k69 (f_R_climbAll_85 F k69 N) q x1 (nI v) x3 (nI y) (nI m) (hp K R n s t) = _
      unfold g_R_climbAll_85 f_R_climbAll_248
      simp only [eR_gi S, Option.bind_some, w1, if_pos (Int32.le_refl (nI m))]
    · have := h2 x z hx hz
      simp only [if_pos hz] at this
      exact this
theorem ra_i {t : Nat → Nat → Int32} {N : Nat} (k52 : Nat → Int32 → hm_T → Option hm_T) (hF : 20 ≤ F) (S : shR K R q) (H : cH q m I row rk W) (hk : k < m) (hN : 16 < N) (h : CAi q m I t (cu W row k) (cu (tr W) row k)) :
    ∃ t', f_R_climbAll_69 F k52 N q (nI k) (nI (row k)) (nI 0) (hp K R n s t) = k52 q (nI (k + 1)) (hp K R n s t') ∧ CAi q m I t' (cu W row (k + 1)) (cu (tr W) row (k + 1)) := by
  have h16 := H.2.1.1
  have hrk := H.2.1.2.1 k hk
  have oW : ∀ x y, x < m → y < m → on_ok 15000 (W x y) := fun x y hx hy => (H.2.2.2 x y hx hy).2
  have oT : ∀ x y, x < m → y < m → on_ok 15000 (tr W x y) := fun x y hx hy => (H.2.2.2 y x hy hx).2
  have hb2 : k * 15000 + 15000 ≤ 400000 := by omega
  refine hl_up (fun N i t => f_R_climbAll_69 F k52 N q (nI k) (nI (row k)) (nI i) (hp K R n s t)) (fun z => ∃ t', z = k52 q (nI (k + 1)) (hp K R n s t') ∧ CAi q m I t' (cu W row (k + 1)) (cu (tr W) row (k + 1))) (fun i t => CAi q m I t (cuI W row k (cu W row k) i) (cuI (tr W) row k (cu (tr W) row k) i)) k ?_ ?_ N 0 t (by omega) (by omega) h
  · intro N i t hi h2
    have hri := H.2.1.2.1 i (by omega)
    have hne : row i ≠ row k := fun w => by rw [w, hrk.2] at hri; omega
    have cU : ∀ x z, x < m → z < m → on_ok 400000 (cuI W row k (cu W row k) i x z) := fun x z hx _ => by
      have := cuI_ok (U := cu W row k) (B := k * 15000) hrk.1 (fun j hj => (H.2.1.2.1 j (by omega)).1) oW (cu_ok H.2.1 oW k (by omega)) i (by omega) x z hx
      exact on_ok_mono this hb2
    have cV : ∀ x z, x < m → z < m → on_ok 400000 (cuI (tr W) row k (cu (tr W) row k) i x z) := fun x z hx _ => by
      have := cuI_ok (U := cu (tr W) row k) (B := k * 15000) hrk.1 (fun j hj => (H.2.1.2.1 j (by omega)).1) oT (cu_ok H.2.1 oT k (by omega)) i (by omega) x z hx
      exact on_ok_mono this hb2
    obtain ⟨t', e1, e2⟩ := ra_in (F := F) (n := n) (s := s) (N := F) (x1 := nI k) (x3 := nI i) (U' := cuI W row k (cu W row k) (i + 1)) (V' := cuI (tr W) row k (cu (tr W) row k) (i + 1)) (f_R_climbAll_69 F k52 N) S H hrk.1 hri.1 hne cU cV (fun x z => by rw [cuI_ne (W := W) hne i]; rfl) (fun x z => by rw [cuI_ne (W := tr W) hne i]; rfl) (by omega) h2
    refine Or.inr ⟨t', e2, ?_⟩
    show g_R_climbAll_69 F k52 (f_R_climbAll_69 F k52 N) q (nI k) (nI (row k)) (nI i) (hp K R n s t) = _
    have x1 : hm_ild (hp K R n s t) (q + 2) (nI i) = some (nI (row i)) := by rw [hp_ild S.K2 (by omega) (by omega), h2.1 _ (by omega) (by omega), H.2.2.1 i (by omega)]
    unfold g_R_climbAll_69
    simp only [if_neg (nI_ge hi (show k < 2 ^ 31 by omega)), eR_r3 S, Option.bind_some, x1]
    rw [← nI_0, e1, nI_1]
  · intro N t h2
    refine ⟨t, ?_, h2⟩
    show g_R_climbAll_69 F k52 (f_R_climbAll_69 F k52 N) q (nI k) (nI (row k)) (nI k) (hp K R n s t) = _
    unfold g_R_climbAll_69 f_R_climbAll_254
    rw [if_pos (Int32.le_refl _), nI_1]
theorem ra_best {t : Nat → Nat → Int32} {c N : Nat} (k262 : Nat → Int32 → hm_T → Option hm_T) (S : shR K R q) (hm : t q 1 = nI m) (hm16 : m ≤ 16) (hc : c < 256) (U V : Nat → Nat → Option Nat) (hU : ∀ x z, x < m → z < m → t (q + 17) (16 * x + z) = enR (U x z) ∧ t (q + 18) (16 * z + x) = enR (V x z) ∧ on_ok 480000 (U x z) ∧ on_ok 480000 (V x z)) (hN : 16 < N) :
    ∃ r, f_R_climbAll_274 F k262 N q (nI c) (1000000 : Int32) (nI 0) (hp K R n s t) = f_R_climbAll_332 F k262 q (nI c) r (hp K R n s t) ∧ (c / 16 < m → c % 16 < m → r = enR (mn (fun i => on_add (U (c / 16) i) (V (c % 16) i)) m)) := by
  have d2 : nI c / (16 : Int32) = nI (c / 16) := by rw [n_16]; exact pk_div (by omega) (by omega) (by omega)
  have d3 : nI c - nI (c / 16) * (16 : Int32) = nI (c % 16) := by rw [← d2, n_16]; exact pk_rem (by omega) (by omega) (by omega)
  refine hl_up (fun N i (b : Int32) => f_R_climbAll_274 F k262 N q (nI c) b (nI i) (hp K R n s t)) (fun z => ∃ r, z = f_R_climbAll_332 F k262 q (nI c) r (hp K R n s t) ∧ (c / 16 < m → c % 16 < m → r = enR (mn (fun i => on_add (U (c / 16) i) (V (c % 16) i)) m))) (fun i b => c / 16 < m → c % 16 < m → b = enR (mn (fun i => on_add (U (c / 16) i) (V (c % 16) i)) i)) m ?_ ?_ N 0 (1000000 : Int32) (by omega) (by omega) (fun _ _ => n_far)
  · intro N i b hi hb
    refine Or.inr ?_
    show ∃ t', _ ∧ g_R_climbAll_274 F k262 (f_R_climbAll_274 F k262 N) q (nI c) b (nI i) (hp K R n s t) = _
    have l1 : hm_ild (hp K R n s t) (q + 17) ((16 : Int32) * nI (c / 16) + nI i) = some (t (q + 17) (16 * (c / 16) + i)) := by rw [ix16, hp_ild S.K17 (by omega) (by omega)]
    have l2 : hm_ild (hp K R n s t) (q + 18) ((16 : Int32) * nI i + nI (c % 16)) = some (t (q + 18) (16 * i + c % 16)) := by rw [ix16, hp_ild S.K18 (by omega) (by omega)]
    have go : ∀ r, (if b ≤ t (q + 17) (16 * (c / 16) + i) + t (q + 18) (16 * i + c % 16) then b else t (q + 17) (16 * (c / 16) + i) + t (q + 18) (16 * i + c % 16)) = r → g_R_climbAll_274 F k262 (f_R_climbAll_274 F k262 N) q (nI c) b (nI i) (hp K R n s t) = f_R_climbAll_274 F k262 N q (nI c) r (nI (i + 1)) (hp K R n s t) := fun r hr => by
      unfold g_R_climbAll_274 f_R_climbAll_325
      simp only [eR_gi S, Option.bind_some, hm, if_neg (nI_ge hi (show m < 2 ^ 31 by omega)), eR_r21 S, if_neg (show ¬ (16 : Int32) = 0 by decide), d2, d3, l1, eR_r22 S, l2, nI_1]
      rw [← hr]
      split <;> rfl
    refine ⟨_, fun g1 g2 => ?_, go _ rfl⟩
    have u := hU (c / 16) i g1 hi
    have v := hU (c % 16) i g2 hi
    have o1 : on_ok 960000 (mn (fun i => on_add (U (c / 16) i) (V (c % 16) i)) i) := mn_ok i (fun j hj => on_ok_add (hU _ j g1 (by omega)).2.2.1 (hU _ j g2 (by omega)).2.2.2)
    rw [hb g1 g2, u.1, v.2.1]
    exact enR_min (fun x => x) (on_ok_mono u.2.2.1 (by omega)) (on_ok_mono v.2.2.2 (by omega)) (on_ok_mono o1 (by omega))
  · intro N b hb
    refine ⟨b, ?_, hb⟩
    show g_R_climbAll_274 F k262 (f_R_climbAll_274 F k262 N) q (nI c) b (nI m) (hp K R n s t) = _
    unfold g_R_climbAll_274
    simp only [eR_gi S, Option.bind_some, hm, if_pos (Int32.le_refl (nI m))]
theorem R_climb (hF : 300 ≤ F) (S : shR K R q) (H : cH q m I row rk W) :
    ∃ t', f_R_climbAll F q (hp K R n s I) = some (hp K R n s t') ∧ (∀ x, x ≠ q + 12 → x ≠ q + 17 → x ≠ q + 18 → t' x = I x) ∧ ∀ a b, a < m → b < m → t' (q + 12) (16 * a + b) = enR (clm W row m a b) := by
  have h16 := H.2.1.1
  have oW : ∀ x y, x < m → y < m → on_ok 15000 (W x y) := fun x y hx hy => (H.2.2.2 x y hx hy).2
  have oT : ∀ x y, x < m → y < m → on_ok 15000 (tr W x y) := fun x y hx hy => (H.2.2.2 y x hy hx).2
  have hb : m * 15000 ≤ 16 * 15000 := Nat.mul_le_mul_right _ (by omega)
  -- the last loop
  have last : ∀ t : Nat → Nat → Int32, CAi q m I t (cu W row m) (cu (tr W) row m) → ∃ t', f_R_climbAll_260 F q (hp K R n s t) = some (hp K R n s t') ∧ (∀ x, x ≠ q + 12 → x ≠ q + 17 → x ≠ q + 18 → t' x = I x) ∧ ∀ a b, a < m → b < m → t' (q + 12) (16 * a + b) = enR (clm W row m a b) := by
    intro t0 h0
    unfold f_R_climbAll_260
    rw [← nI_0]
    refine hl_up (fun N c t => f_R_climbAll_262 F N q (nI c) (hp K R n s t)) (fun z => ∃ t', z = some (hp K R n s t') ∧ (∀ x, x ≠ q + 12 → x ≠ q + 17 → x ≠ q + 18 → t' x = I x) ∧ ∀ a b, a < m → b < m → t' (q + 12) (16 * a + b) = enR (clm W row m a b)) (fun c t => (∀ x, x ≠ q + 12 → t x = t0 x) ∧ ∀ c', c' < c → c' / 16 < m → c' % 16 < m → t (q + 12) c' = enR (clm W row m (c' / 16) (c' % 16))) 256 ?_ ?_ F 0 t0 (by omega) (by omega) ⟨fun _ _ => rfl, fun c' h => by omega⟩
    · intro N c t hc ⟨h1, h2⟩
      obtain ⟨r, e1, e2⟩ := ra_best (F := F) (n := n) (s := s) (N := F) (f_R_climbAll_262 F N) S (show t q 1 = nI m by rw [h1 _ (by omega), h0.1 _ (by omega) (by omega)]; exact H.1) h16 hc (cu W row m) (cu (tr W) row m) (fun x z hx hz => by
        rw [h1 _ (by omega), h1 _ (by omega)]
        exact ⟨(h0.2 x z hx hz).1, (h0.2 x z hx hz).2, on_ok_mono (cu_ok H.2.1 oW m (Nat.le_refl _) x z hx) (by omega), on_ok_mono (cu_ok H.2.1 oT m (Nat.le_refl _) x z hx) (by omega)⟩) (by omega)
      refine Or.inr ⟨up2 t (q + 12) c r, ⟨fun x hx => by rw [up2_ne hx]; exact h1 x hx, fun c' hc' g1 g2 => ?_⟩, ?_⟩
      · by_cases e : c' = c
        · subst e; rw [up2_at, e2 g1 g2]; rfl
        · rw [up2_nj e]; exact h2 c' (by omega) g1 g2
      · show g_R_climbAll_262 F (f_R_climbAll_262 F N) q (nI c) (hp K R n s t) = _
        unfold g_R_climbAll_262
        rw [if_neg (show ¬ (256 : Int32) ≤ nI c by rw [n_256]; exact nI_ge hc (by omega)), ← nI_0, e1]
        unfold f_R_climbAll_332
        simp only [eR_r15 S, Option.bind_some, hp_ist S.K12 hc (show 256 < 2 ^ 31 by omega), nI_1]
    · intro N t ⟨h1, h2⟩
      refine ⟨t, ?_, fun x a1 a2 a3 => (h1 x a1).trans (h0.1 x a2 a3), fun a b ha hb => ?_⟩
      · show g_R_climbAll_262 F (f_R_climbAll_262 F N) q (nI 256) (hp K R n s t) = _
        unfold g_R_climbAll_262
        rw [if_pos (by rw [n_256]; exact Int32.le_refl _)]
      · have e1 : (16 * a + b) / 16 = a := by omega
        have e2 : (16 * a + b) % 16 = b := by omega
        have := h2 (16 * a + b) (by omega) (by omega) (by omega)
        rw [e1, e2] at this
        exact this
  -- the nodes by rising ranks
  have mid : ∀ t : Nat → Nat → Int32, CAi q m I t (cu W row 0) (cu (tr W) row 0) → ∃ t', f_R_climbAll_50 F q (hp K R n s t) = some (hp K R n s t') ∧ (∀ x, x ≠ q + 12 → x ≠ q + 17 → x ≠ q + 18 → t' x = I x) ∧ ∀ a b, a < m → b < m → t' (q + 12) (16 * a + b) = enR (clm W row m a b) := by
    intro t0 h0
    unfold f_R_climbAll_50
    rw [← nI_0]
    refine hl_up (fun N k t => f_R_climbAll_52 F N q (nI k) (hp K R n s t)) (fun z => ∃ t', z = some (hp K R n s t') ∧ (∀ x, x ≠ q + 12 → x ≠ q + 17 → x ≠ q + 18 → t' x = I x) ∧ ∀ a b, a < m → b < m → t' (q + 12) (16 * a + b) = enR (clm W row m a b)) (fun k t => CAi q m I t (cu W row k) (cu (tr W) row k)) m ?_ ?_ F 0 t0 (by omega) (by omega) h0
    · intro N k t hk h2
      obtain ⟨t', e1, e2⟩ := ra_i (F := F) (n := n) (s := s) (N := F) (f_R_climbAll_52 F N) (by omega) S H hk (by omega) h2
      refine Or.inr ⟨t', e2, ?_⟩
      show g_R_climbAll_52 F (f_R_climbAll_52 F N) q (nI k) (hp K R n s t) = _
      have w1 : t q 1 = nI m := by rw [h2.1 _ (by omega) (by omega)]; exact H.1
      have x1 : hm_ild (hp K R n s t) (q + 2) (nI k) = some (nI (row k)) := by rw [hp_ild S.K2 (by omega) (by omega), h2.1 _ (by omega) (by omega), H.2.2.1 k hk]
      unfold g_R_climbAll_52
      simp only [eR_gi S, Option.bind_some, w1, if_neg (nI_ge hk (show m < 2 ^ 31 by omega)), eR_r3 S, x1]
      rw [← nI_0]
      exact e1
    · intro N t h2
      obtain ⟨t', e1, e2⟩ := last t h2
      refine ⟨t', ?_, e2⟩
      show g_R_climbAll_52 F (f_R_climbAll_52 F N) q (nI m) (hp K R n s t) = _
      have w1 : t q 1 = nI m := by rw [h2.1 _ (by omega) (by omega)]; exact H.1
      unfold g_R_climbAll_52
      simp only [eR_gi S, Option.bind_some, w1, if_pos (Int32.le_refl (nI m))]
      exact e1
  unfold f_R_climbAll
  rw [← nI_0]
  refine hl_up (fun N j t => f_R_climbAll_2 F N q (nI j) (hp K R n s t)) (fun z => ∃ t', z = some (hp K R n s t') ∧ (∀ x, x ≠ q + 12 → x ≠ q + 17 → x ≠ q + 18 → t' x = I x) ∧ ∀ a b, a < m → b < m → t' (q + 12) (16 * a + b) = enR (clm W row m a b)) (fun j t => (∀ x, x ≠ q + 17 → x ≠ q + 18 → t x = I x) ∧ ∀ c, c < j → t (q + 17) c = (if c / 16 = c % 16 then (0 : Int32) else 1000000) ∧ t (q + 18) c = (if c / 16 = c % 16 then (0 : Int32) else 1000000)) 256 ?_ ?_ F 0 I (by omega) (by omega) ⟨fun _ _ _ => rfl, fun c h => by omega⟩
  · intro N j t hj ⟨h1, h2⟩
    have d2 : nI j / (16 : Int32) = nI (j / 16) := by rw [n_16]; exact pk_div (by omega) (by omega) (by omega)
    have d3 : nI j - nI (j / 16) * (16 : Int32) = nI (j % 16) := by rw [← d2, n_16]; exact pk_rem (by omega) (by omega) (by omega)
    have st : ∀ v : Int32, f_R_climbAll_31 F (f_R_climbAll_2 F N) q (nI j) v (nI j) (q + 17) (hp K R n s t) = f_R_climbAll_2 F N q (nI (j + 1)) (hp K R n s (up2 (up2 t (q + 17) j v) (q + 18) j v)) := fun v => by
      unfold f_R_climbAll_31
      have l1 : hm_ild (hp K R n s (up2 t (q + 17) j v)) (q + 17) (nI j) = some v := by rw [hp_ild S.K17 hj (by omega), up2_at]
      simp only [hp_ist S.K17 hj (show 256 < 2 ^ 31 by omega), Option.bind_some, eR_r22 S, eR_r21 S, l1, hp_ist S.K18 hj (show 256 < 2 ^ 31 by omega), nI_1]
    refine Or.inr ⟨up2 (up2 t (q + 17) j (if j / 16 = j % 16 then (0 : Int32) else 1000000)) (q + 18) j (if j / 16 = j % 16 then (0 : Int32) else 1000000), ⟨fun x a1 a2 => by rw [up2_ne a2, up2_ne a1]; exact h1 x a1 a2, fun c hc => ?_⟩, ?_⟩
    · by_cases e : c = j
      · subst e
        exact ⟨by rw [up2_ne (by omega), up2_at], up2_at _ _ _ _⟩
      · rw [up2_ne (by omega), up2_nj e, up2_nj e, up2_ne (by omega)]
        exact h2 c (by omega)
    · show g_R_climbAll_2 F (f_R_climbAll_2 F N) q (nI j) (hp K R n s t) = _
      unfold g_R_climbAll_2
      simp only [if_neg (show ¬ (256 : Int32) ≤ nI j by rw [n_256]; exact nI_ge hj (by omega)), eR_r21 S, Option.bind_some, if_neg (show ¬ (16 : Int32) = 0 by decide), d2, d3, st]
      by_cases e : j / 16 = j % 16
      · rw [if_pos (by rw [e]), if_pos e]
      · rw [if_neg (fun w => e ((nI_eq (by omega) (by omega)).mp w)), if_neg e]
  · intro N t ⟨h1, h2⟩
    obtain ⟨t', e1, e2⟩ := mid t ⟨h1, fun x z hx hz => by
      have a1 := (h2 (16 * x + z) (by omega)).1
      have a2 := (h2 (16 * z + x) (by omega)).2
      rw [a1, a2]
      show _ = enR (if x = z then some 0 else none) ∧ _ = enR (if x = z then some 0 else none)
      by_cases e : x = z
      · rw [if_pos (show (16 * x + z) / 16 = (16 * x + z) % 16 by omega), if_pos (show (16 * z + x) / 16 = (16 * z + x) % 16 by omega), if_pos e]
        exact ⟨nI_0.symm, nI_0.symm⟩
      · rw [if_neg (show ¬ (16 * x + z) / 16 = (16 * x + z) % 16 by omega), if_neg (show ¬ (16 * z + x) / 16 = (16 * z + x) % 16 by omega), if_neg e]
        exact ⟨n_far, n_far⟩⟩
    refine ⟨t', ?_, e2⟩
    show g_R_climbAll_2 F (f_R_climbAll_2 F N) q (nI 256) (hp K R n s t) = _
    unfold g_R_climbAll_2
    rw [if_pos (by rw [n_256]; exact Int32.le_refl _)]
    exact e1
end RA
