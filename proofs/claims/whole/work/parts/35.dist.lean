theorem enD_inj {x y : Option Nat} (hx : on_ok 2000000000 x) (hy : on_ok 2000000000 y) : enD x = enD y ↔ x = y := by
  refine ⟨fun q => ?_, fun q => by rw [q]⟩
  cases x with
  | none =>
    cases y with
    | none => rfl
    | some b => have := hy b rfl; exact absurd q.symm (enD_ne (by omega))
  | some a =>
    have := hx a rfl
    cases y with
    | none => exact absurd q (enD_ne (by omega))
    | some b =>
      have := hy b rfl
      have q2 : nI a = nI b := q
      rw [nI_eq (by omega) (by omega)] at q2
      rw [q2]
/-- the row is a row of the numbers below m, each once; rk the places -/
def prm (m : Nat) (row rk : Nat → Nat) : Prop := m ≤ 16 ∧ (∀ i, i < m → row i < m ∧ rk (row i) = i) ∧ ∀ v, v < m → rk v < m ∧ row (rk v) = v
theorem prm.rw {m ra : Nat} {row rk : Nat → Nat} {I : Nat → Nat → Int32} (h : prm m row rk) (hI : ∀ i, i < m → I ra i = nI (row i)) : rwok I ra m row := by
  have hm := h.1
  refine ⟨h.1, fun i hi => ⟨hI i hi, ?_⟩, fun i j hi hj e => ?_⟩
  · have := (h.2.1 i hi).1; omega
  · rw [← (h.2.1 i hi).2, e, (h.2.1 j hj).2]
def dg (A : Nat → Nat → Option Nat) (x y : Nat) : Option Nat := if x = y then some 0 else A x y
section LD
variable {K : Nat → Option ((Nat ⊕ Nat) × Nat)} {R : Nat → Nat → Option Nat} {n s F o m : Nat} {I : Nat → Nat → Int32} {row rk : Nat → Nat}
theorem D_layD {A : Nat → Nat → Option Nat} (hF : 20 ≤ F) (S : shD K R o) (hm : I (o + 1) 0 = nI m) (hp0 : prm m row rk) (hrow : ∀ i, i < m → I (o + 1 + 18) i = nI (row i)) (hA : ∀ x y, x < m → y < m → I (o + 1 + 1 + 1 + x) y = enD (A x y) ∧ on_ok 1000 (A x y)) :
    ∃ I', f_D_layDistances F o (hp K R n s I) = some (hp K R n s I') ∧ (∀ a, ¬ inG (o + 21) a → I' a = I a) ∧ ∀ x y, x < m → y < m → I' (o + 21 + 1 + x) y = enD (fwI (dg A) row m x y) ∧ on_ok 100000000 (fwI (dg A) row m x y) := by
  have h16 := hp0.1
  have hr := hp0.rw hrow
  have nr : ¬ inG (o + 21) (o + 1 + 18) := fun q => by have := q.1; omega
  have nn : ¬ inG (o + 21) (o + 1) := fun q => by have := q.1; omega
  obtain ⟨I1, e1, f1, g1⟩ := D_copy (F := F) (n := n) (s := s) (I := I) (ra := o + 1 + 18) (m := m) (gf := o + 1 + 1) (gt := o + 21) (row := row) hF S.N1.K18 S.N1.g1 S.g21 nr (fun a q1 q2 => by have := q1.2; have := q2.1; omega) hr
  have hm1 : I1 (o + 1) 0 = nI m := by rw [f1 _ nn]; exact hm
  have g2 : ∀ x y, x < m → y < m → I1 (o + 21 + 1 + x) y = enD (A x y) := fun x y hx hy => by
    have := g1 (rk x) (rk y) (hp0.2.2 x hx).1 (hp0.2.2 y hy).1
    rw [(hp0.2.2 x hx).2, (hp0.2.2 y hy).2] at this
    rw [this]; exact (hA x y hx hy).1
  have key : ∃ I', f_D_layDistances_30 F F o (nI 0) (hp K R n s I1) = some (hp K R n s I') ∧ (∀ a, ¬ inG (o + 21) a → I' a = I1 a) ∧ ∀ x y, x < m → y < m → I' (o + 21 + 1 + x) y = enD (fwI (dg A) row m x y) ∧ on_ok 100000000 (fwI (dg A) row m x y) := by
    refine hl_up (fun N v t => f_D_layDistances_30 F N o (nI v) (hp K R n s t)) (fun b => ∃ I', b = some (hp K R n s I') ∧ (∀ a, ¬ inG (o + 21) a → I' a = I1 a) ∧ ∀ x y, x < m → y < m → I' (o + 21 + 1 + x) y = enD (fwI (dg A) row m x y) ∧ on_ok 100000000 (fwI (dg A) row m x y)) (fun v t => (∀ a, ¬ inG (o + 21) a → t a = I1 a) ∧ ∀ x y, x < m → y < m → t (o + 21 + 1 + x) y = if x = y ∧ x < v then nI 0 else enD (A x y)) m ?_ ?_ F 0 I1 (by omega) (by omega) ⟨fun _ _ => rfl, fun x y hx hy => by rw [if_neg (by omega)]; exact g2 x y hx hy⟩
    · intro N v t hv ⟨h1, h2⟩
      have hmt : t (o + 1) 0 = nI m := by rw [h1 _ nn]; exact hm1
      refine Or.inr ⟨up2 t (o + 21 + 1 + v) v (nI 0), ⟨fun a ha => ?_, fun x y hx hy => ?_⟩, ?_⟩
      · rw [up2_ne (fun q => ha (by rw [q]; exact ⟨by omega, by omega⟩))]; exact h1 a ha
      · rw [up2_eq]
        by_cases hq : o + 21 + 1 + x = o + 21 + 1 + v ∧ y = v
        · rw [if_pos hq, if_pos (by omega)]
        · rw [if_neg hq, h2 x y hx hy]
          by_cases hc : x = y ∧ x < v
          · rw [if_pos hc, if_pos (by omega)]
          · rw [if_neg hc, if_neg (by omega)]
      · show g_D_layDistances_30 F (f_D_layDistances_30 F N) o (nI v) (hp K R n s t) = _
        unfold g_D_layDistances_30
        simp only [eD_r0 S, Option.bind_some, eN_gi S.N1, hmt, if_neg (nI_ge hv (show m < 2 ^ 31 by omega)), eD_r1 S, gd_ald S.g21 (show v < 16 by omega), gd_ist S.g21 (show v < 16 by omega) (show v < 16 by omega), nI_1, nI_0]
    · intro N t ⟨h1, h2⟩
      have hmt : t (o + 1) 0 = nI m := by rw [h1 _ nn]; exact hm1
      have hrt : rwok t (o + 1 + 18) m row := hp0.rw (fun i hi => by rw [h1 _ nr, f1 _ nr]; exact hrow i hi)
      have hmx : mx t (o + 21) m row (dg A) 1000 := fun i j hi hj => by
        have hx := (hp0.2.1 i hi).1
        have hy := (hp0.2.1 j hj).1
        refine ⟨?_, ?_⟩
        · rw [h2 _ _ hx hy]
          unfold dg
          by_cases e : row i = row j
          · rw [if_pos ⟨e, hx⟩, if_pos e]; rfl
          · rw [if_neg (fun q => e q.1), if_neg e]
        · unfold dg
          by_cases e : row i = row j
          · rw [if_pos e]; intro d hd; cases hd; omega
          · rw [if_neg e]; exact (hA _ _ hx hy).2
      obtain ⟨I2, e2, f2, g3⟩ := D_short (F := F) (n := n) (s := s) (I := t) (ra := o + 1 + 18) (m := m) (g := o + 21) (B := 1000) (row := row) (T := dg A) hF S.N1.K18 S.g21 nr hrt (by omega) hmx
      refine ⟨I2, ?_, fun a ha => by rw [f2 a ha]; exact h1 a ha, fun x y hx hy => ?_⟩
      · show g_D_layDistances_30 F (f_D_layDistances_30 F N) o (nI m) (hp K R n s t) = _
        unfold g_D_layDistances_30 f_D_layDistances_56
        simp only [eD_r0 S, Option.bind_some, eN_gi S.N1, hmt, if_pos (Int32.le_refl (nI m)), eN_r3 S.N1, eD_r1 S, e2]
      · have := g3 (rk x) (rk y) (hp0.2.2 x hx).1 (hp0.2.2 y hy).1
        rw [(hp0.2.2 x hx).2, (hp0.2.2 y hy).2] at this
        refine ⟨this.1, on_ok_mono this.2 ?_⟩
        have : 2 ^ m ≤ 2 ^ 16 := Nat.pow_le_pow_right (by decide) h16
        omega
  obtain ⟨I', e, h1, h2⟩ := key
  refine ⟨I', ?_, fun a ha => by rw [h1 a ha]; exact f1 a ha, h2⟩
  unfold f_D_layDistances
  simp only [eD_r0 S, Option.bind_some, eN_gi S.N1, hm, eN_r3 S.N1, eN_r2 S.N1, eD_r1 S, e1]
  rw [← nI_0]
  exact e
/-- what firstOnLeastWays answers -/
def isFirst (D : Nat → Nat → Option Nat) (row : Nat → Nat) (m a b : Nat) (r : Int32) : Prop :=
  (∃ k, k < m ∧ (∀ k', k' < k → on_add (D a (row k')) (D (row k') b) ≠ D a b) ∧ on_add (D a (row k)) (D (row k) b) = D a b ∧ r = nI (row k)) ∨ ((∀ k, k < m → on_add (D a (row k)) (D (row k) b) ≠ D a b) ∧ r = -1)
theorem D_first {D : Nat → Nat → Option Nat} {a b : Nat} (hF : 20 ≤ F) (S : shD K R o) (hm : I (o + 1) 0 = nI m) (hp0 : prm m row rk) (hrow : ∀ i, i < m → I (o + 1 + 18) i = nI (row i)) (hD : ∀ x y, x < m → y < m → I (o + 21 + 1 + x) y = enD (D x y) ∧ on_ok 100000000 (D x y)) (ha : a < m) (hb : b < m) :
    ∃ r, f_D_firstOnLeastWays F o (nI a) (nI b) (hp K R n s I) = some (r, hp K R n s I) ∧ (D a b = none → r = -1) ∧ (D a b ≠ none → isFirst D row m a b r) := by
  have h16 := hp0.1
  unfold f_D_firstOnLeastWays
  have xab : hm_ild (hp K R n s I) (o + 21 + 1 + a) (nI b) = some (enD (D a b)) := by rw [gd_ild S.g21 (by omega) (by omega), (hD a b ha hb).1]
  simp only [eD_r1 S, Option.bind_some, gd_ald S.g21 (show a < 16 by omega), xab]
  cases hc : D a b with
  | none => exact ⟨-1, by rw [if_pos (show enD none = -1 from rfl)], fun _ => rfl, fun q => absurd rfl q⟩
  | some d =>
    have hdb := (hD a b ha hb).2 d hc
    rw [if_neg (show ¬ enD (some d) = -1 from enD_ne (by omega)), ← nI_0]
    have key := hl_up (fun N k (_ : Unit) => f_D_firstOnLeastWays_16 F N o (nI a) (nI b) (nI k) (hp K R n s I)) (fun z => ∃ r, z = some (r, hp K R n s I) ∧ isFirst D row m a b r) (fun k _ => ∀ k', k' < k → on_add (D a (row k')) (D (row k') b) ≠ D a b) m ?_ ?_ F 0 () (by omega) (by omega) (fun k' h => by omega)
    · obtain ⟨r, e, h⟩ := key
      exact ⟨r, e, fun q => (by cases q), fun _ => h⟩
    · intro N k _ hk hP
      have hrk := (hp0.2.1 k hk).1
      have x1 : hm_ild (hp K R n s I) (o + 1 + 18) (nI k) = some (nI (row k)) := by rw [hp_ild S.N1.K18 (by omega) (by omega), hrow k hk]
      have x2 : hm_ild (hp K R n s I) (o + 21 + 1 + a) (nI (row k)) = some (enD (D a (row k))) := by rw [gd_ild S.g21 (by omega) (by omega), (hD _ _ ha hrk).1]
      have x3 : hm_ild (hp K R n s I) (o + 21 + 1 + row k) (nI b) = some (enD (D (row k) b)) := by rw [gd_ild S.g21 (by omega) (by omega), (hD _ _ hrk hb).1]
      have x4 := D_sum (F := F) (h := hp K R n s I) (on_ok_mono (hD _ _ ha hrk).2 (by omega)) (on_ok_mono (hD _ _ hrk hb).2 (show 100000000 ≤ 1000000000 by omega))
      have hiff : enD (on_add (D a (row k)) (D (row k) b)) = enD (D a b) ↔ on_add (D a (row k)) (D (row k) b) = D a b := enD_inj (on_ok_mono (on_ok_add (hD _ _ ha hrk).2 (hD _ _ hrk hb).2) (by omega)) (on_ok_mono (hD _ _ ha hb).2 (by omega))
      show (∃ r, g_D_firstOnLeastWays_16 F (f_D_firstOnLeastWays_16 F N) o (nI a) (nI b) (nI k) (hp K R n s I) = some (r, hp K R n s I) ∧ isFirst D row m a b r) ∨ _
      by_cases hq : on_add (D a (row k)) (D (row k) b) = D a b
      · refine Or.inl ⟨nI (row k), ?_, Or.inl ⟨k, hk, hP, hq, rfl⟩⟩
        unfold g_D_firstOnLeastWays_16
        simp only [eD_r0 S, Option.bind_some, eN_gi S.N1, hm, if_neg (nI_ge hk (show m < 2 ^ 31 by omega)), eN_r3 S.N1, x1, eD_r1 S, gd_ald S.g21 (show a < 16 by omega), x2, gd_ald S.g21 (show row k < 16 by omega), x3, x4, hm_and_some, xab, if_pos (hiff.mpr hq)]
      · refine Or.inr ⟨(), fun k' hk' => ?_, ?_⟩
        · by_cases e : k' = k
          · subst e; exact hq
          · exact hP k' (by omega)
        · show g_D_firstOnLeastWays_16 F (f_D_firstOnLeastWays_16 F N) o (nI a) (nI b) (nI k) (hp K R n s I) = _
          unfold g_D_firstOnLeastWays_16
          simp only [eD_r0 S, Option.bind_some, eN_gi S.N1, hm, if_neg (nI_ge hk (show m < 2 ^ 31 by omega)), eN_r3 S.N1, x1, eD_r1 S, gd_ald S.g21 (show a < 16 by omega), x2, gd_ald S.g21 (show row k < 16 by omega), x3, x4, hm_and_some, xab, if_neg (fun z => hq (hiff.mp z)), nI_1]
    · intro N _ hP
      refine ⟨-1, ?_, Or.inr ⟨hP, rfl⟩⟩
      show g_D_firstOnLeastWays_16 F (f_D_firstOnLeastWays_16 F N) o (nI a) (nI b) (nI m) (hp K R n s I) = _
      unfold g_D_firstOnLeastWays_16
      simp only [eD_r0 S, Option.bind_some, eN_gi S.N1, hm, if_pos (Int32.le_refl (nI m))]
end LD
