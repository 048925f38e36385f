/-! THE CALL rank -/
/-- a node goes from place r to place k: where the node of a place comes from, where a place goes -/
def mvF (r k i : Nat) : Nat := if i = k then r else if r ≤ i ∧ i < k then i + 1 else if k < i ∧ i ≤ r then i - 1 else i
def mvT (r k p : Nat) : Nat := if p = r then k else if r < p ∧ p ≤ k then p - 1 else if k ≤ p ∧ p < r then p + 1 else p
theorem mvFT (r k p : Nat) : mvF r k (mvT r k p) = p := by
  unfold mvF mvT
  split
  · rw [if_pos rfl]; omega
  · split
    · rw [if_neg (by omega), if_pos (by omega)]; omega
    · split
      · rw [if_neg (by omega), if_neg (by omega), if_pos (by omega)]; omega
      · rw [if_neg (by omega), if_neg (by omega), if_neg (by omega)]
theorem mvTF (r k i : Nat) : mvT r k (mvF r k i) = i := by
  unfold mvF mvT
  split
  · rw [if_pos rfl]; omega
  · split
    · rw [if_neg (by omega), if_pos (by omega)]; omega
    · split
      · rw [if_neg (by omega), if_neg (by omega), if_pos (by omega)]; omega
      · rw [if_neg (by omega), if_neg (by omega), if_neg (by omega)]
theorem mvF_lt {r k i m : Nat} (hr : r < m) (hk : k < m) (hi : i < m) : mvF r k i < m := by
  unfold mvF
  split
  · exact hr
  · split
    · omega
    · split <;> omega
theorem mvT_lt {r k i m : Nat} (hr : r < m) (hk : k < m) (hi : i < m) : mvT r k i < m := by
  unfold mvT
  split
  · exact hk
  · split
    · omega
    · split <;> omega
theorem mv_prm {m r k : Nat} {row rk : Nat → Nat} (h : prm m row rk) (hr : r < m) (hk : k < m) : prm m (fun i => row (mvF r k i)) (fun x => mvT r k (rk x)) := by
  refine ⟨h.1, fun i hi => ?_, fun v hv => ?_⟩
  · have h1 := h.2.1 _ (mvF_lt hr hk hi)
    exact ⟨h1.1, by show mvT r k (rk (row (mvF r k i))) = i; rw [h1.2, mvTF]⟩
  · have h1 := h.2.2 v hv
    exact ⟨mvT_lt hr hk h1.1, by show row (mvF r k (mvT r k (rk v))) = v; rw [mvFT]; exact h1.2⟩
section RK
variable {K : Nat → Option ((Nat ⊕ Nat) × Nat)} {R : Nat → Nat → Option Nat} {n s F o a q m ch : Nat} {I : Nat → Nat → Int32} {A LO LI TO TI : Nat → Nat → Option Nat} {row rk : Nat → Nat} {mk : Nat → Bool}
/-- row and ranks as they lie, with place functions f and g -/
def rkA (a m : Nat) (row rk : Nat → Nat) (I t : Nat → Nat → Int32) (f g : Nat → Nat) : Prop := (∀ x, x ≠ a + 18 → x ≠ a + 19 → t x = I x) ∧ (∀ i, i < m → t (a + 18) i = nI (row (f i))) ∧ (∀ y, y < m → t (a + 19) y = nI (g (rk y)))
theorem rkA.put {t : Nat → Nat → Int32} {f g f' g' : Nat → Nat} {v k : Nat} (hp0 : prm m row rk) (h : rkA a m row rk I t f g) (hv : v < m) (hf : ∀ i, i < m → f' i = if i = k then rk v else f i) (hg : ∀ p, p < m → g' p = if p = rk v then k else g p) : rkA a m row rk I (up2 (up2 t (a + 18) k (nI v)) (a + 19) v (nI k)) f' g' := by
  refine ⟨fun x h1 h2 => ?_, fun i hi => ?_, fun y hy => ?_⟩
  · rw [up2_ne h2, up2_ne h1]; exact h.1 x h1 h2
  · rw [up2_ne (by omega), up2_eq, hf i hi]
    by_cases e : i = k
    · rw [if_pos ⟨rfl, e⟩, if_pos e, (hp0.2.2 v hv).2]
    · rw [if_neg (fun z => e z.2), if_neg e]; exact h.2.1 i hi
  · rw [up2_eq, hg _ (hp0.2.2 y hy).1]
    by_cases e : y = v
    · rw [if_pos ⟨rfl, e⟩, if_pos (by rw [e])]
    · rw [if_neg (fun z => e z.2), if_neg (fun z => e (by rw [← (hp0.2.2 y hy).2, z, (hp0.2.2 v hv).2])), up2_ne (by omega)]; exact h.2.2 y hy
theorem N_move {v k : Nat} (hF : 100 ≤ F) (S : shN K R a) (hp0 : prm m row rk) (hrow : ∀ i, i < m → I (a + 18) i = nI (row i)) (hrk : ∀ x, x < m → I (a + 19) x = nI (rk x)) (hv : v < m) (hk : k < m) : ∃ t, f_N_moveTo F a (nI v) (nI k) (hp K R n s I) = some (nI (rk v), hp K R n s t) ∧ rkA a m row rk I t (mvF (rk v) k) (mvT (rk v) k) := by
  have h16 := hp0.1
  have hr := (hp0.2.2 v hv).1
  generalize hrv : rk v = r at *
  have x0 : hm_ild (hp K R n s I) (a + 19) (nI v) = some (nI r) := by rw [hp_ild S.K19 (by omega) (by omega), hrk v hv, hrv]
  have last : ∀ t f g, rkA a m row rk I t f g → (∀ i, i < m → mvF r k i = if i = k then r else f i) → (∀ p, p < m → mvT r k p = if p = r then k else g p) → ∃ t', f_N_moveTo_67 F a (nI v) (nI k) (nI r) (hp K R n s t) = some (nI r, hp K R n s t') ∧ rkA a m row rk I t' (mvF r k) (mvT r k) := fun t f g h1 h2 h3 => by
    refine ⟨_, ?_, h1.put (v := v) (k := k) hp0 hv (by rw [hrv]; exact h2) (by rw [hrv]; exact h3)⟩
    unfold f_N_moveTo_67
    simp only [eN_is S, Option.bind_some, N_place S (show v < 16 by omega) (show k < 16 by omega)]
  have start : rkA a m row rk I I (fun i => i) (fun p => p) := ⟨fun _ _ _ => rfl, hrow, hrk⟩
  unfold f_N_moveTo
  simp only [eN_r4 S, Option.bind_some, x0]
  by_cases hrk' : r ≤ k
  · -- up
    refine hl_up (fun N i t => f_N_moveTo_10 F N a (nI v) (nI k) (nI r) (nI i) (hp K R n s t)) (fun z => ∃ t, z = some (nI r, hp K R n s t) ∧ rkA a m row rk I t (mvF r k) (mvT r k)) (fun i t => r ≤ i ∧ rkA a m row rk I t (fun j => if r ≤ j ∧ j < i then j + 1 else j) (fun p => if r < p ∧ p ≤ i then p - 1 else p)) k ?_ ?_ F r I hrk' (by omega) ⟨Nat.le_refl _, ?_⟩
    · intro N i t hi ⟨hri, ht⟩
      have hrow1 := (hp0.2.1 (i + 1) (by omega))
      have x1 : hm_ild (hp K R n s t) (a + 18) (nI (i + 1)) = some (nI (row (i + 1))) := by
        rw [hp_ild S.K18 (by omega) (by omega), ht.2.1 (i + 1) (by omega)]
        show some (nI (row (if r ≤ i + 1 ∧ i + 1 < i then i + 1 + 1 else i + 1))) = _
        rw [if_neg (by omega)]
      refine Or.inr ⟨_, ⟨by omega, ht.put (v := row (i + 1)) (k := i) (f' := fun j => if r ≤ j ∧ j < i + 1 then j + 1 else j) (g' := fun p => if r < p ∧ p ≤ i + 1 then p - 1 else p) hp0 hrow1.1 (fun j hj => ?_) (fun p hp => ?_)⟩, ?_⟩
      · rw [hrow1.2]
        show (if r ≤ j ∧ j < i + 1 then j + 1 else j) = if j = i then i + 1 else if r ≤ j ∧ j < i then j + 1 else j
        by_cases e : j = i
        · rw [if_pos e, if_pos (by omega), e]
        · rw [if_neg e]
          by_cases e2 : r ≤ j ∧ j < i
          · rw [if_pos e2, if_pos (by omega)]
          · rw [if_neg e2, if_neg (by omega)]
      · rw [hrow1.2]
        show (if r < p ∧ p ≤ i + 1 then p - 1 else p) = if p = i + 1 then i else if r < p ∧ p ≤ i then p - 1 else p
        by_cases e : p = i + 1
        · rw [if_pos e, if_pos (by omega)]; omega
        · rw [if_neg e]
          by_cases e2 : r < p ∧ p ≤ i
          · rw [if_pos e2, if_pos (by omega)]
          · rw [if_neg e2, if_neg (by omega)]
      · show g_N_moveTo_10 F (f_N_moveTo_10 F N) a (nI v) (nI k) (nI r) (nI i) (hp K R n s t) = _
        unfold g_N_moveTo_10
        simp only [if_neg (nI_ge hi (show k < 2 ^ 31 by omega)), eN_r3 S, Option.bind_some, nI_1, x1, eN_is S, N_place S (show row (i + 1) < 16 by omega) (show i < 16 by omega)]
    · intro N t ⟨_, ht⟩
      show ∃ t', g_N_moveTo_10 F (f_N_moveTo_10 F N) a (nI v) (nI k) (nI r) (nI k) (hp K R n s t) = some (nI r, hp K R n s t') ∧ _
      obtain ⟨t', e1, e2⟩ := last t _ _ ht (fun i hi => by
        unfold mvF
        by_cases e : i = k
        · rw [if_pos e, if_pos e]
        · rw [if_neg e, if_neg e]
          by_cases e2 : r ≤ i ∧ i < k
          · rw [if_pos e2, if_pos e2]
          · rw [if_neg e2, if_neg e2, if_neg (by omega)]) (fun p hp => by
        unfold mvT
        by_cases e : p = r
        · rw [if_pos e, if_pos e]
        · rw [if_neg e, if_neg e]
          by_cases e2 : r < p ∧ p ≤ k
          · rw [if_pos e2, if_pos e2]
          · rw [if_neg e2, if_neg e2, if_neg (by omega)])
      refine ⟨t', ?_, e2⟩
      obtain ⟨F', rfl⟩ : ∃ F', F = F' + 1 := ⟨F - 1, by omega⟩
      have hle : nI r ≤ nI k := by rw [nI_leI (by omega) (by omega)]; exact hrk'
      unfold g_N_moveTo_10 f_N_moveTo_37
      rw [if_pos (Int32.le_refl (nI k))]
      show g_N_moveTo_40 (F' + 1) (f_N_moveTo_40 (F' + 1) F') a (nI v) (nI k) (nI r) (nI r) (hp K R n s t) = _
      unfold g_N_moveTo_40
      rw [if_pos hle]
      exact e1
    · refine ⟨start.1, fun i hi => ?_, fun y hy => ?_⟩
      · show I (a + 18) i = nI (row (if r ≤ i ∧ i < r then i + 1 else i))
        rw [if_neg (by omega)]; exact hrow i hi
      · show I (a + 19) y = nI (if r < rk y ∧ rk y ≤ r then rk y - 1 else rk y)
        rw [if_neg (by omega)]; exact hrk y hy
  · -- down
    have hle : nI k ≤ nI r := by rw [nI_leI (by omega) (by omega)]; omega
    obtain ⟨F', hF'⟩ : ∃ F', F = F' + 1 := ⟨F - 1, by omega⟩
    have hgo : f_N_moveTo_10 F F a (nI v) (nI k) (nI r) (nI r) (hp K R n s I) = f_N_moveTo_40 F F a (nI v) (nI k) (nI r) (nI r) (hp K R n s I) := by
      have : f_N_moveTo_10 F (F' + 1) a (nI v) (nI k) (nI r) (nI r) (hp K R n s I) = f_N_moveTo_40 F F a (nI v) (nI k) (nI r) (nI r) (hp K R n s I) := by
        show g_N_moveTo_10 F (f_N_moveTo_10 F F') a (nI v) (nI k) (nI r) (nI r) (hp K R n s I) = _
        unfold g_N_moveTo_10 f_N_moveTo_37
        rw [if_pos hle]
      rw [← hF'] at this
      exact this
    rw [hgo]
    refine hl_dn (fun N i t => f_N_moveTo_40 F N a (nI v) (nI k) (nI r) (nI i) (hp K R n s t)) (fun z => ∃ t, z = some (nI r, hp K R n s t) ∧ rkA a m row rk I t (mvF r k) (mvT r k)) (fun i t => i ≤ r ∧ rkA a m row rk I t (fun j => if i < j ∧ j ≤ r then j - 1 else j) (fun p => if i ≤ p ∧ p < r then p + 1 else p)) k ?_ ?_ F r I (by omega) (by omega) ⟨Nat.le_refl _, ?_⟩
    · intro N i t hi ⟨hri, ht⟩
      have hrow1 := (hp0.2.1 i (by omega))
      have x1 : hm_ild (hp K R n s t) (a + 18) (nI i) = some (nI (row i)) := by
        rw [hp_ild S.K18 (by omega) (by omega), ht.2.1 i (by omega)]
        show some (nI (row (if i + 1 < i ∧ i ≤ r then i - 1 else i))) = _
        rw [if_neg (by omega)]
      refine Or.inr ⟨_, ⟨by omega, ht.put (v := row i) (k := i + 1) (f' := fun j => if i < j ∧ j ≤ r then j - 1 else j) (g' := fun p => if i ≤ p ∧ p < r then p + 1 else p) hp0 hrow1.1 (fun j hj => ?_) (fun p hp => ?_)⟩, ?_⟩
      · rw [hrow1.2]
        show (if i < j ∧ j ≤ r then j - 1 else j) = if j = i + 1 then i else if i + 1 < j ∧ j ≤ r then j - 1 else j
        by_cases e : j = i + 1
        · rw [if_pos e, if_pos (by omega)]; omega
        · rw [if_neg e]
          by_cases e2 : i + 1 < j ∧ j ≤ r
          · rw [if_pos e2, if_pos (by omega)]
          · rw [if_neg e2, if_neg (by omega)]
      · rw [hrow1.2]
        show (if i ≤ p ∧ p < r then p + 1 else p) = if p = i then i + 1 else if i + 1 ≤ p ∧ p < r then p + 1 else p
        by_cases e : p = i
        · rw [if_pos e, if_pos (by omega), e]
        · rw [if_neg e]
          by_cases e2 : i + 1 ≤ p ∧ p < r
          · rw [if_pos e2, if_pos (by omega)]
          · rw [if_neg e2, if_neg (by omega)]
      · have hgt : ¬ nI (i + 1) ≤ nI k := nI_ge (by omega) (by omega)
        show g_N_moveTo_40 F (f_N_moveTo_40 F N) a (nI v) (nI k) (nI r) (nI (i + 1)) (hp K R n s t) = _
        unfold g_N_moveTo_40
        simp only [if_neg hgt, eN_r3 S, Option.bind_some, nI_dec, nI_pred, x1, eN_is S, N_place S (show row i < 16 by omega) (show i + 1 < 16 by omega)]
    · intro N t ⟨_, ht⟩
      show ∃ t', g_N_moveTo_40 F (f_N_moveTo_40 F N) a (nI v) (nI k) (nI r) (nI k) (hp K R n s t) = some (nI r, hp K R n s t') ∧ _
      obtain ⟨t', e1, e2⟩ := last t _ _ ht (fun i hi => by
        unfold mvF
        by_cases e : i = k
        · rw [if_pos e, if_pos e]
        · rw [if_neg e, if_neg e, if_neg (by omega)]) (fun p hp => by
        unfold mvT
        by_cases e : p = r
        · rw [if_pos e, if_pos e]
        · rw [if_neg e, if_neg e, if_neg (by omega)])
      refine ⟨t', ?_, e2⟩
      unfold g_N_moveTo_40
      rw [if_pos (Int32.le_refl (nI k))]
      exact e1
    · refine ⟨start.1, fun i hi => ?_, fun y hy => ?_⟩
      · show I (a + 18) i = nI (row (if r < i ∧ i ≤ r then i - 1 else i))
        rw [if_neg (by omega)]; exact hrow i hi
      · show I (a + 19) y = nI (if r ≤ rk y ∧ rk y < r then rk y + 1 else rk y)
        rw [if_neg (by omega)]; exact hrk y hy
theorem R_rankOf {v : Nat} (hF : 100 ≤ F) (SR : shR K R q) (hp0 : prm m row rk) (hrow : ∀ i, i < m → I (q + 2) i = nI (row i)) (hv : v < m) : f_R_rankOf F q (nI v) (hp K R n s I) = some (nI (rk v), hp K R n s I) := by
  have h16 := hp0.1
  have hr := hp0.2.2 v hv
  unfold f_R_rankOf
  rw [← nI_0]
  refine hl_up (fun N i (_ : Unit) => f_R_rankOf_2 F N q (nI v) (nI i) (hp K R n s I)) (fun z => z = some (nI (rk v), hp K R n s I)) (fun _ _ => True) (rk v) ?_ ?_ F 0 () (by omega) (by omega) trivial
  · intro N i _ hi _
    have x1 : hm_ild (hp K R n s I) (q + 2) (nI i) = some (nI (row i)) := by rw [hp_ild SR.K2 (by omega) (by omega), hrow i (by omega)]
    have ne : ¬ nI (row i) = nI v := by
      have := (hp0.2.1 i (by omega))
      rw [nI_eq (by omega) (by omega)]
      intro z
      rw [z] at this
      omega
    refine Or.inr ⟨(), trivial, ?_⟩
    show g_R_rankOf_2 F (f_R_rankOf_2 F N) q (nI v) (nI i) (hp K R n s I) = _
    unfold g_R_rankOf_2
    simp only [eR_r3 SR, Option.bind_some, x1, if_neg ne, nI_1]
  · intro N _ _
    have x1 : hm_ild (hp K R n s I) (q + 2) (nI (rk v)) = some (nI v) := by rw [hp_ild SR.K2 (by omega) (by omega), hrow _ hr.1, hr.2]
    show g_R_rankOf_2 F (f_R_rankOf_2 F N) q (nI v) (nI (rk v)) (hp K R n s I) = _
    unfold g_R_rankOf_2
    simp only [eR_r3 SR, Option.bind_some, x1, if_true]
def rkR (q m : Nat) (row : Nat → Nat) (I t : Nat → Nat → Int32) (f : Nat → Nat) : Prop := (∀ x, x ≠ q + 2 → t x = I x) ∧ (∀ i, i < m → t (q + 2) i = nI (row (f i)))
theorem rkR.put {t : Nat → Nat → Int32} {f f' : Nat → Nat} {v k : Nat} (h : rkR q m row I t f) (hf : ∀ i, i < m → row (f' i) = if i = k then v else row (f i)) : rkR q m row I (up2 t (q + 2) k (nI v)) f' := by
  refine ⟨fun x h1 => ?_, fun i hi => ?_⟩
  · rw [up2_ne h1]; exact h.1 x h1
  · rw [up2_eq, hf i hi]
    by_cases e : i = k
    · rw [if_pos ⟨rfl, e⟩, if_pos e]
    · rw [if_neg (fun z => e z.2), if_neg e]; exact h.2 i hi
theorem R_move {v k : Nat} (hF : 100 ≤ F) (S : shR K R q) (hp0 : prm m row rk) (hm : I q 1 = nI m) (hrow : ∀ i, i < m → I (q + 2) i = nI (row i)) (hv : v < m) (hk : k < m) : ∃ t, f_R_rank_39 F F q (nI v) (nI k) (nI (rk v)) (nI (rk v)) (hp K R n s I) = some (nI (rk v), hp K R n s (up2 t q 5 0)) ∧ rkR q m row I t (mvF (rk v) k) := by
  have h16 := hp0.1
  have hr := (hp0.2.2 v hv).1
  have hrow0 := (hp0.2.2 v hv).2
  obtain ⟨m', hm'⟩ : ∃ m', m = m' + 1 := ⟨m - 1, by omega⟩
  generalize hrv : rk v = r at *
  have hmp : nI m - 1 = nI m' := by rw [hm', nI_pred]
  refine hl_up (fun N i t => f_R_rank_39 F N q (nI v) (nI k) (nI r) (nI i) (hp K R n s t)) (fun z => ∃ t, z = some (nI r, hp K R n s (up2 t q 5 0)) ∧ rkR q m row I t (mvF r k)) (fun i t => r ≤ i ∧ rkR q m row I t (fun j => if r ≤ j ∧ j < i then j + 1 else j)) m' ?_ ?_ F r I (by omega) (by omega) ⟨Nat.le_refl _, fun _ _ => rfl, fun i hi => ?_⟩
  · intro N i t hi ⟨hri, ht⟩
    have tm : t q 1 = nI m := by rw [ht.1 q (by omega)]; exact hm
    have x1 : hm_ild (hp K R n s t) (q + 2) (nI (i + 1)) = some (nI (row (i + 1))) := by
      rw [hp_ild S.K2 (by omega) (by omega), ht.2 (i + 1) (by omega)]
      show some (nI (row (if r ≤ i + 1 ∧ i + 1 < i then i + 1 + 1 else i + 1))) = _
      rw [if_neg (by omega)]
    refine Or.inr ⟨_, ⟨by omega, ht.put (v := row (i + 1)) (k := i) (f' := fun j => if r ≤ j ∧ j < i + 1 then j + 1 else j) (fun j hj => ?_)⟩, ?_⟩
    · show row (if r ≤ j ∧ j < i + 1 then j + 1 else j) = if j = i then row (i + 1) else row (if r ≤ j ∧ j < i then j + 1 else j)
      by_cases e : j = i
      · rw [if_pos e, if_pos (by omega), e]
      · rw [if_neg e]
        by_cases e2 : r ≤ j ∧ j < i
        · rw [if_pos e2, if_pos (by omega)]
        · rw [if_neg e2, if_neg (by omega)]
    · show g_R_rank_39 F (f_R_rank_39 F N) q (nI v) (nI k) (nI r) (nI i) (hp K R n s t) = _
      unfold g_R_rank_39
      simp only [eR_gi S, Option.bind_some, tm, hmp, if_neg (nI_ge hi (show m' < 2 ^ 31 by omega)), eR_r3 S, nI_1, x1, hp_ist S.K2 (show i < 16 by omega) (show 16 < 2 ^ 31 by omega)]
  · intro N t ⟨_, ht⟩
    have tm : t q 1 = nI m := by rw [ht.1 q (by omega)]; exact hm
    show ∃ t', g_R_rank_39 F (f_R_rank_39 F N) q (nI v) (nI k) (nI r) (nI m') (hp K R n s t) = some (nI r, hp K R n s (up2 t' q 5 0)) ∧ _
    unfold g_R_rank_39 f_R_rank_72
    simp only [eR_gi S, Option.bind_some, tm, hmp, if_pos (Int32.le_refl (nI m'))]
    refine hl_dn (fun N i t => f_R_rank_80 F N q (nI v) (nI k) (nI r) (nI i) (hp K R n s t)) (fun z => ∃ t, z = some (nI r, hp K R n s (up2 t q 5 0)) ∧ rkR q m row I t (mvF r k)) (fun i t => i ≤ m' ∧ rkR q m row I t (fun j => if i < j then (if r < j then j else j - 1) else if r ≤ j ∧ j < m' then j + 1 else j)) k ?_ ?_ F m' t (by omega) (by omega) ⟨Nat.le_refl _, ht.1, fun i hi => ?_⟩
    · intro N i t hi ⟨hri, ht⟩
      have x1 : hm_ild (hp K R n s t) (q + 2) (nI i) = some (nI (row (if r ≤ i ∧ i < m' then i + 1 else i))) := by
        rw [hp_ild S.K2 (by omega) (by omega), ht.2 i (by omega)]
        show some (nI (row (if i + 1 < i then (if r < i then i else i - 1) else if r ≤ i ∧ i < m' then i + 1 else i))) = _
        rw [if_neg (by omega)]
      refine Or.inr ⟨_, ⟨by omega, ht.put (v := row (if r ≤ i ∧ i < m' then i + 1 else i)) (k := i + 1) (f' := fun j => if i < j then (if r < j then j else j - 1) else if r ≤ j ∧ j < m' then j + 1 else j) (fun j hj => ?_)⟩, ?_⟩
      · show row (if i < j then (if r < j then j else j - 1) else if r ≤ j ∧ j < m' then j + 1 else j) = if j = i + 1 then row (if r ≤ i ∧ i < m' then i + 1 else i) else row (if i + 1 < j then (if r < j then j else j - 1) else if r ≤ j ∧ j < m' then j + 1 else j)
        by_cases e : j = i + 1
        · rw [if_pos e, if_pos (by omega), e]
          by_cases e2 : r ≤ i
          · rw [if_pos (by omega), if_pos (by omega)]
          · rw [if_neg (by omega), if_neg (by omega)]; rfl
        · rw [if_neg e]
          by_cases e2 : i + 1 < j
          · rw [if_pos (show i < j by omega), if_pos e2]
          · rw [if_neg (show ¬ i < j by omega), if_neg e2]
      · have hgt : ¬ nI (i + 1) ≤ nI k := nI_ge (by omega) (by omega)
        show g_R_rank_80 F (f_R_rank_80 F N) q (nI v) (nI k) (nI r) (nI (i + 1)) (hp K R n s t) = _
        unfold g_R_rank_80
        simp only [if_neg hgt, eR_r3 S, Option.bind_some, nI_dec, nI_pred, x1, hp_ist S.K2 (show i + 1 < 16 by omega) (show 16 < 2 ^ 31 by omega)]
    · intro N t ⟨_, ht⟩
      refine ⟨up2 t (q + 2) k (nI v), ?_, ht.put (fun i hi => ?_)⟩
      · show g_R_rank_80 F (f_R_rank_80 F N) q (nI v) (nI k) (nI r) (nI k) (hp K R n s t) = _
        unfold g_R_rank_80 f_R_rank_108
        simp only [if_pos (Int32.le_refl (nI k)), eR_r3 S, Option.bind_some, hp_ist S.K2 (show k < 16 by omega) (show 16 < 2 ^ 31 by omega), eR_p0 S]
      · show row (mvF r k i) = if i = k then v else row (if k < i then (if r < i then i else i - 1) else if r ≤ i ∧ i < m' then i + 1 else i)
        unfold mvF
        by_cases e : i = k
        · rw [if_pos e, if_pos e]; exact hrow0
        · rw [if_neg e, if_neg e]
          by_cases e2 : k < i
          · rw [if_pos e2, if_neg (by omega)]
            by_cases e3 : r < i
            · rw [if_pos e3, if_neg (by omega)]
            · rw [if_neg e3, if_pos (by omega)]
          · rw [if_neg e2]
            by_cases e3 : r ≤ i
            · rw [if_pos (by omega), if_pos (by omega)]
            · rw [if_neg (by omega), if_neg (by omega), if_neg (by omega)]
    · rw [ht.2 i hi]
      show nI (row (if r ≤ i ∧ i < m' then i + 1 else i)) = nI (row (if m' < i then (if r < i then i else i - 1) else if r ≤ i ∧ i < m' then i + 1 else i))
      rw [if_neg (show ¬ m' < i by omega)]
  · show I (q + 2) i = nI (row (if r ≤ i ∧ i < r then i + 1 else i))
    rw [if_neg (by omega)]; exact hrow i hi
theorem call_rank {x1 x2 : Int32} (hF : 5000 ≤ F) (SD : shD K R o) (SR : shR K R (o + 148)) (g : SG) (h : Sim o I g) : Cal K R n s o I (f_D_rank F o x1 x2) (f_R_rank F (o + 148) x1 x2) := by
  obtain ⟨m, A, row, rk, mk, LO, LI, TO, TI, ch, hd⟩ := g
  obtain ⟨wf, hD, hR⟩ : WFs m A row rk mk LO LI TO TI hd ∧ RelD o I m A row rk mk LO LI TO TI ch hd ∧ RelR (o + 148) I m A row rk mk LO LI TO TI ch hd := h
  have h16 := wf.1.1
  have n10 : ¬ (1 : Int32) = 0 := by decide
  have fin : ∀ (r : Int32), f_D_rank F o x1 x2 (hp K R n s I) = some (r, hp K R n s I) → (∀ t, RelR (o + 148) t m A row rk mk LO LI TO TI ch hd → f_R_rank F (o + 148) x1 x2 (hp K R n s t) = some (r, hp K R n s (up2 t (o + 148) 0 0))) → Cal K R n s o I (f_D_rank F o x1 x2) (f_R_rank F (o + 148) x1 x2) := fun r e1 e2 =>
    Cal.same (r := r) wf hD hR (I1 := I) e1 (fun _ _ _ => rfl) (fun t ht => ⟨up2 t (o + 148) 0 0, e2 t ht, fun x hx => up2_ne hx, fun j hj _ _ => up2_nj hj⟩)
  have wm : ∀ t, RelR (o + 148) t m A row rk mk LO LI TO TI ch hd → up2 t (o + 148) 0 0 (o + 148) 1 = nI m := fun t ht => ht.fr0.1.1
  rcases ix2 x1 h16 with hb | ⟨v, hv, rfl⟩
  · refine fin (-2) ?_ (fun t ht => ?_)
    · unfold f_D_rank
      simp only [eD_r0 SD, Option.bind_some, eN_is SD.N1, N_has_n SD.N1 hD.1.1 hb, hm_and_some, if_true]
    · unfold f_R_rank
      simp only [eR_pi SR, Option.bind_some, eR_is SR, R_noNode_n SR (wm t ht) h16 hb, hm_and_some, if_neg n10]
  · rcases ix2 x2 h16 with hb | ⟨k, hk, rfl⟩
    · refine fin (-2) ?_ (fun t ht => ?_)
      · unfold f_D_rank
        simp only [eD_r0 SD, Option.bind_some, eN_is SD.N1, N_has_y SD.N1 hD.1.1 h16 hv, N_has_n SD.N1 hD.1.1 hb, hm_and_some, if_true, if_neg n10]
      · have inn : ∀ h : hm_T, f_R_in F x2 (0 : Int32) (nI m - 1) h = some (0, h) := fun h => by
          unfold f_R_in
          by_cases h0 : x2 < 0
          · rw [if_pos h0, zr_0, Option.bind_some]
          · rw [if_neg h0, if_pos (lt_pred h16 (hb.resolve_left h0)), zr_0, Option.bind_some]
        unfold f_R_rank
        simp only [eR_pi SR, Option.bind_some, eR_is SR, R_noNode_y SR (wm t ht) h16 hv, hm_and_some, if_true, eR_gi SR, wm t ht, inn]
    · obtain ⟨⟨a1, a2, a3, a4, a5⟩, ⟨b1, b2⟩, c, d, f⟩ := hD
      have u2 : ∀ i, i < m → up2 I o 7 0 (o + 1 + 18) i = nI (row i) := fun i hi => by rw [up2_ne (by omega)]; exact a2 i hi
      have u3 : ∀ i, i < m → up2 I o 7 0 (o + 1 + 19) i = nI (rk i) := fun i hi => by rw [up2_ne (by omega)]; exact a3 i hi
      obtain ⟨t1, e1, ⟨k1, k2, k3⟩⟩ := N_move (F := F) (n := n) (s := s) (by omega) SD.N1 wf.1 u2 u3 hv hk
      have hr := (wf.1.2.2 v hv).1
      have e2 : f_D_rank F o (nI v) (nI k) (hp K R n s I) = some (nI (rk v), hp K R n s t1) := by
        unfold f_D_rank
        simp only [eD_r0 SD, Option.bind_some, eN_is SD.N1, N_has_y SD.N1 a1 h16 hv, N_has_y SD.N1 a1 h16 hk, hm_and_some, if_neg n10, eD_p0 SD, e1]
      refine Cal.of m A (fun i => row (mvF (rk v) k i)) (fun x => mvT (rk v) k (rk x)) mk LO LI TO TI ch false hR e2 (fun x hx => by rw [k1 x (by omega) (by omega), up2_ne (by omega)]) ⟨⟨?_, k2, k3, fun x y hx hy => ?_, ?_⟩, ⟨fun x hx => ?_, ?_⟩, fun x y hx hy => ?_, ?_, fun z => by cases z⟩ (fun t ht => ?_) ⟨mv_prm wf.1 hr hk, wf.2.1, wf.2.2.1, wf.2.2.2.1, fun z => by cases z⟩
      · rw [k1 _ (by omega) (by omega), up2_ne (by omega)]; exact a1
      · rw [k1 _ (by omega) (by omega), up2_ne (by omega)]; exact a4 x y hx hy
      · rw [k1 _ (by omega) (by omega), up2_ne (by omega)]; exact a5
      · rw [k1 _ (by omega) (by omega), up2_ne (by omega)]; exact b1 x hx
      · rw [k1 _ (by omega) (by omega), up2_nj (by omega)]; exact b2
      · rw [k1 _ (by omega) (by omega), up2_ne (by omega), k1 _ (by omega) (by omega), up2_ne (by omega)]; exact c x y hx hy
      · rw [k1 _ (by omega) (by omega), up2_at]; rfl
      · obtain ⟨⟨p1, p2, p3⟩, p4, p5, p6, p7⟩ := ht.fr0
        obtain ⟨t2, e3, ⟨j1, j2⟩⟩ := R_move (F := F) (n := n) (s := s) (by omega) SR wf.1 p1 p3 hv hk
        have hin : ∀ h : hm_T, f_R_in F (nI k) (0 : Int32) (nI m - 1) h = some (1, h) := fun h => by
          obtain ⟨m', hm'⟩ : ∃ m', m = m' + 1 := ⟨m - 1, by omega⟩
          unfold f_R_in
          rw [if_neg (nI_pos (by omega)), hm', nI_pred, if_neg (by rw [nI_ltI (by omega) (by omega)]; omega), zr_1, Option.bind_some]
        refine ⟨up2 t2 (o + 148) 5 0, ?_, fun x hx => ?_, ⟨?_, fun x y hx hy => ?_, fun i hi => ?_⟩, fun x hx => ?_, fun x hx => ?_, ?_, fun z => by cases z⟩
        · unfold f_R_rank
          simp only [eR_pi SR, Option.bind_some, eR_is SR, R_noNode_y SR p1 h16 hv, hm_and_some, if_true, eR_gi SR, p1, hin, if_neg n10, R_rankOf (show 100 ≤ F by omega) SR wf.1 p3 hv, e3]
        · rw [up2_ne (by omega), j1 x (by omega), up2_ne (by omega)]
        · rw [up2_nj (by omega), j1 _ (by omega)]; exact p1
        · rw [up2_ne (by omega), j1 _ (by omega)]; exact p2 x y hx hy
        · rw [up2_ne (by omega)]; exact j2 i hi
        · rw [up2_ne (by omega), j1 _ (by omega)]; exact p4 x hx
        · rw [up2_ne (by omega), j1 _ (by omega)]; exact p5 x hx
        · rw [up2_at]; rfl
end RK
