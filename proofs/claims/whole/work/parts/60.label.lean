/-! THE CALLS shortcut, label -/
theorem cL_mem {A : Nat → Nat → Option Nat} {row rk : Nat → Nat} {m : Nat} (hp0 : prm m row rk) : ∀ j, j ≤ m → ∀ x, x ∈ cL A row rk m j → x.1 < m ∧ x.2.1 < m ∧ x.2.2.2 < m
  | 0, _, x, h => by cases h
  | j + 1, hj, x, h => by
    rcases List.mem_append.mp h with z | z
    · exact cL_mem hp0 j (by omega) x z
    · obtain ⟨u, w, h1, h2, _, rfl⟩ := (mem_lu m).mp z
      exact ⟨h1, h2, (hp0.2.1 _ (by omega)).1⟩
theorem sm_pick {f : Nat → Nat} {v0 : Nat} : ∀ n, v0 < n → sm (fun v => if v = v0 then f v else 0) n = f v0
  | 0, h => by omega
  | n + 1, h => by
    show sm (fun v => if v = v0 then f v else 0) n + (if n = v0 then f n else 0) = _
    by_cases e : n = v0
    · subst e
      rw [if_pos rfl, show sm (fun v => if v = n then f v else 0) n = sm (fun _ => 0) n from sm_eq n (fun i hi => if_neg (by omega)), sm_0]
      omega
    · rw [if_neg e, sm_pick n (by omega)]
      rfl
theorem sm_perm {f : Nat → Nat} {row rk : Nat → Nat} {m : Nat} (hp0 : prm m row rk) : sm (fun i => f (row i)) m = sm f m := by
  have h1 : sm (fun i => f (row i)) m = sm (fun i => sm (fun v => if v = row i then f v else 0) m) m := sm_eq m (fun i hi => (sm_pick m (hp0.2.1 i hi).1).symm)
  rw [h1, sm_swap]
  refine sm_eq m (fun v hv => ?_)
  have h2 : sm (fun i => if v = row i then f v else 0) m = sm (fun i => if i = rk v then f v else 0) m := sm_eq m (fun i hi => by
    by_cases e : i = rk v
    · rw [if_pos e, if_pos (by rw [e]; exact ((hp0.2.2 v hv).2).symm)]
    · rw [if_neg e, if_neg (fun z => e (by rw [z, (hp0.2.1 i hi).2]))])
  rw [h2, sm_pick (f := fun _ => f v) m (hp0.2.2 v hv).1]
/-- the first place below m where P holds -/
def fst (P : Nat → Prop) (m : Nat) (r : Option Nat) : Prop := (∃ i, i < m ∧ P i ∧ (∀ i', i' < i → ¬ P i') ∧ r = some i) ∨ ((∀ i, i < m → ¬ P i) ∧ r = none)
theorem fst_one {P : Nat → Prop} {m : Nat} {r r' : Option Nat} (h : fst P m r) (h' : fst P m r') : r = r' := by
  rcases h with ⟨i, h1, h2, h3, h4⟩ | ⟨h1, h2⟩
  · rcases h' with ⟨j, k1, k2, k3, k4⟩ | ⟨k1, k2⟩
    · rw [h4, k4]
      rcases Nat.lt_trichotomy i j with z | z | z
      · exact absurd h2 (k3 i z)
      · rw [z]
      · exact absurd k2 (h3 j z)
    · exact absurd h2 (k1 i h1)
  · rcases h' with ⟨j, k1, k2, k3, k4⟩ | ⟨k1, k2⟩
    · exact absurd k2 (h1 j k1)
    · rw [h2, k2]
/-- how many stations are among the first i of the row -/
def cs (f : Nat → Option Nat) (row : Nat → Nat) (i : Nat) : Nat := sm (fun i => cnt (f (row i))) i
theorem cs_le (f : Nat → Option Nat) (row : Nat → Nat) (i : Nat) : cs f row i ≤ i := by
  have : cs f row i ≤ sm (fun _ => 1) i := sm_le i (fun j _ => by unfold cnt; split <;> omega)
  rw [sm_c] at this
  omega
section LA2
variable {K : Nat → Option ((Nat ⊕ Nat) × Nat)} {R : Nat → Nat → Option Nat} {n s F o q m ch : Nat} {I : Nat → Nat → Int32} {A LO LI TO TI : Nat → Nat → Option Nat} {row rk : Nat → Nat} {mk : Nat → Bool}
theorem call_shortcut {x1 x2 : Int32} (SD : shD K R o) (SR : shR K R (o + 148)) (g : SG) (h : Sim o I g) : Cal K R n s o I (f_D_shortcut F o x1 x2) (f_R_shortcut F (o + 148) x1 x2) := by
  obtain ⟨m, A, row, rk, mk, LO, LI, TO, TI, ch, hd⟩ := g
  obtain ⟨wf, hD, hR⟩ : WFs m A row rk mk LO LI TO TI hd ∧ RelD o I m A row rk mk LO LI TO TI ch hd ∧ RelR (o + 148) I m A row rk mk LO LI TO TI ch hd := h
  have h16 := wf.1.1
  have fin : ∀ (r : Int32), f_D_shortcut F o x1 x2 (hp K R n s I) = some (r, hp K R n s I) → (∀ t, RelR (o + 148) t m A row rk mk LO LI TO TI ch hd → f_R_shortcut F (o + 148) x1 x2 (hp K R n s t) = some (r, hp K R n s (up2 t (o + 148) 0 0))) → Cal K R n s o I (f_D_shortcut F o x1 x2) (f_R_shortcut F (o + 148) x1 x2) := fun r e1 e2 =>
    Cal.same (r := r) wf hD hR (I1 := I) e1 (fun _ _ _ => rfl) (fun t ht => ⟨up2 t (o + 148) 0 0, e2 t ht, fun x hx => up2_ne hx, fun j hj _ _ => up2_nj hj⟩)
  have n10 : ¬ (1 : Int32) = 0 := by decide
  cases hd with
  | false =>
    refine fin (-4) ?_ (fun t ht => ?_)
    · unfold f_D_shortcut
      simp only [eD_gi SD, Option.bind_some, hD.2.2.2.1, bI_f, if_true]
    · have w1 : up2 t (o + 148) 0 0 (o + 148) 5 = bI false := ht.fr0.2.2.2.1
      unfold f_R_shortcut
      simp only [eR_pi SR, Option.bind_some, eR_gi SR, w1, bI_f, if_true]
  | true =>
    have hold1 := (hD.2.2.2.2 rfl).2.2.2.2
    have hl := cL_len (A := A) wf.1
    have hmem := cL_mem (A := A) (rk := rk) wf.1 m (Nat.le_refl m)
    have wR : ∀ t, RelR (o + 148) t m A row rk mk LO LI TO TI ch true → up2 t (o + 148) 0 0 (o + 148) 5 = bI true := fun t ht => ht.fr0.2.2.2.1
    have hR16 : ∀ t, RelR (o + 148) t m A row rk mk LO LI TO TI ch true → holdR (up2 t (o + 148) 0 0) (o + 148) (cL A row rk m m) := fun t ht => (ht.fr0.2.2.2.2 rfl).2.2.2.1
    generalize cL A row rk m m = L at *
    by_cases c0 : x1 = (-1 : Int32)
    · refine fin (nI L.length) ?_ (fun t ht => ?_)
      · unfold f_D_shortcut
        simp only [eD_gi SD, Option.bind_some, hD.2.2.2.1, bI_t, if_neg n10, if_pos c0, eD_r4 SD, eC_gi SD.C108, hold1.1]
      · unfold f_R_shortcut
        simp only [eR_pi SR, Option.bind_some, eR_gi SR, wR t ht, bI_t, if_neg n10, if_pos c0, (hR16 t ht).1]
    · rcases pk_ix x1 (n := L.length) (by omega) with hb | hb | ⟨j, hj, rfl⟩
      · refine fin (-2) ?_ (fun t ht => ?_)
        · unfold f_D_shortcut
          simp only [eD_gi SD, Option.bind_some, hD.2.2.2.1, bI_t, if_neg n10, if_neg c0, if_pos hb]
        · unfold f_R_shortcut f_R_in
          simp only [eR_pi SR, Option.bind_some, eR_gi SR, wR t ht, bI_t, if_neg n10, if_neg c0, (hR16 t ht).1, if_pos hb, zr_0, hm_and_some, if_true]
      · have h0 : ¬ x1 < 0 := fun z => absurd (Int32.lt_of_le_of_lt hb z) (nI_pos (by omega))
        refine fin (-2) ?_ (fun t ht => ?_)
        · unfold f_D_shortcut
          simp only [eD_gi SD, Option.bind_some, hD.2.2.2.1, bI_t, if_neg n10, if_neg c0, if_neg h0, eD_r4 SD, eC_gi SD.C108, hold1.1, if_neg (Int32.not_lt.mpr hb)]
        · have hlt : nI L.length - 1 < x1 := by
            cases hc : L.length with
            | zero => rw [hc] at hb; exact Int32.lt_of_lt_of_le (show nI 0 - 1 < nI 0 by decide +kernel) hb
            | succ k => rw [hc] at hb; rw [nI_pred]; exact Int32.lt_of_lt_of_le (show nI k < nI (k + 1) by rw [nI_ltI (by omega) (by omega)]; omega) hb
          unfold f_R_shortcut f_R_in
          simp only [eR_pi SR, Option.bind_some, eR_gi SR, wR t ht, bI_t, if_neg n10, if_neg c0, (hR16 t ht).1, if_neg h0, if_pos hlt, zr_0, hm_and_some, if_true]
      · -- a shortcut that there is
        obtain ⟨x, hx⟩ : ∃ x, L[j]? = some x := ⟨L[j], List.getElem?_eq_getElem hj⟩
        have hxm := hmem x (List.mem_of_getElem? hx)
        have dv := hold1.2 j x hx
        have h0 : ¬ nI j < 0 := nI_pos (by omega)
        have hlt : nI j < nI L.length := by rw [nI_ltI (by omega) (by omega)]; exact hj
        have ei : hm_ild (hp K R n s I) (o + 108 + 35) (nI j) = some (nI ((x.1 * 16 + x.2.1) * 16 + x.2.2.2)) := by rw [hp_ild SD.C108.K35 (by omega) (by omega), dv.1]
        have es : hm_ild (hp K R n s I) (o + 108 + 36) (nI j) = some (nI x.2.2.1) := by rw [hp_ild SD.C108.K36 (by omega) (by omega), dv.2]
        have q1 : nI ((x.1 * 16 + x.2.1) * 16 + x.2.2.2) / (256 : Int32) = nI x.1 := by
          rw [n_256, pk_div (by omega) (by omega) (by omega), show ((x.1 * 16 + x.2.1) * 16 + x.2.2.2) / 256 = x.1 by omega]
        have q2 : nI ((x.1 * 16 + x.2.1) * 16 + x.2.2.2) / (16 : Int32) = nI (x.1 * 16 + x.2.1) := by
          rw [n_16, pk_div (by omega) (by omega) (by omega), show ((x.1 * 16 + x.2.1) * 16 + x.2.2.2) / 16 = x.1 * 16 + x.2.1 by omega]
        have q3 : nI (x.1 * 16 + x.2.1) - nI (x.1 * 16 + x.2.1) / (16 : Int32) * (16 : Int32) = nI x.2.1 := by
          rw [n_16, pk_rem (by omega) (by omega) (by omega), show (x.1 * 16 + x.2.1) % 16 = x.2.1 by omega]
        have q4 : nI ((x.1 * 16 + x.2.1) * 16 + x.2.2.2) - nI (x.1 * 16 + x.2.1) * (16 : Int32) = nI x.2.2.2 := by
          rw [← q2, n_16, pk_rem (by omega) (by omega) (by omega), show ((x.1 * 16 + x.2.1) * 16 + x.2.2.2) % 16 = x.2.2.2 by omega]
        have hin : ¬ nI L.length - 1 < nI j := by
          obtain ⟨k, hk⟩ : ∃ k, L.length = k + 1 := ⟨L.length - 1, by omega⟩
          rw [hk, nI_pred, nI_ltI (by omega) (by omega)]
          omega
        refine fin (if x2 = 0 then nI x.1 else if x2 = 1 then nI x.2.1 else if x2 = 2 then nI x.2.2.1 else if x2 = 3 then nI x.2.2.2 else -2) ?_ (fun t ht => ?_)
        · unfold f_D_shortcut f_K_fromOf f_K_toOf f_K_byOf
          simp only [eD_gi SD, Option.bind_some, hD.2.2.2.1, bI_t, if_neg n10, if_neg c0, if_neg h0, eD_r4 SD, eC_gi SD.C108, hold1.1, if_pos hlt, eC_is SD.C108, eC_r2 SD.C108, eC_r3 SD.C108, ei, es, if_neg (show ¬ (256 : Int32) = 0 by decide), if_neg (show ¬ (16 : Int32) = 0 by decide), hm_and_some, q1, q2, q3, q4]
          split
          · rfl
          · split
            · rfl
            · split
              · rfl
              · split <;> rfl
        · have rv := (hR16 t ht).2 j x hx
          have r1 : hm_ild (hp K R n s (up2 t (o + 148) 0 0)) (o + 148 + 13) (nI j) = some (nI x.1) := by rw [hp_ild SR.K13 (by omega) (by omega), rv.1]
          have r2 : hm_ild (hp K R n s (up2 t (o + 148) 0 0)) (o + 148 + 14) (nI j) = some (nI x.2.1) := by rw [hp_ild SR.K14 (by omega) (by omega), rv.2.1]
          have r3 : hm_ild (hp K R n s (up2 t (o + 148) 0 0)) (o + 148 + 15) (nI j) = some (nI x.2.2.1) := by rw [hp_ild SR.K15 (by omega) (by omega), rv.2.2.1]
          have r4 : hm_ild (hp K R n s (up2 t (o + 148) 0 0)) (o + 148 + 16) (nI j) = some (nI x.2.2.2) := by rw [hp_ild SR.K16 (by omega) (by omega), rv.2.2.2]
          unfold f_R_shortcut f_R_in
          simp only [eR_pi SR, Option.bind_some, eR_gi SR, wR t ht, bI_t, if_neg n10, if_neg c0, (hR16 t ht).1, if_neg h0, if_neg hin, zr_1, hm_and_some, eR_r17 SR, eR_r18 SR, eR_r19 SR, eR_r20 SR, r1, r2, r3, r4]
          split
          · rfl
          · split
            · rfl
            · split
              · rfl
              · split <;> rfl
theorem L_size {la v : Nat} {T : Nat → Nat → Option Nat} (hF : 20 ≤ F) (SN : shN K R (o + 1)) (SL : shL K R la) (hm : I (o + 1) 0 = nI m) (h16 : m ≤ 16) (hT : ∀ x y, x < m → y < m → I (la + 18 + 1 + x) y = enD (T x y) ∧ on_ok 90000 (T x y)) (hv : v < m) : f_L_sizeOf F la (o + 1) (nI v) (hp K R n s I) = some (nI (sm (fun h => cnt (T v h)) m), hp K R n s I) := by
  unfold f_L_sizeOf
  rw [← nI_0]
  refine hl_up (fun N h (c : Nat) => f_L_sizeOf_5 F N la (o + 1) (nI v) (nI c) (nI h) (hp K R n s I)) (fun z => z = some (nI (sm (fun h => cnt (T v h)) m), hp K R n s I)) (fun h c => c = sm (fun h => cnt (T v h)) h) m ?_ ?_ F 0 0 (by omega) (by omega) rfl
  · intro N h c hh hc
    subst hc
    refine Or.inr ⟨_, rfl, ?_⟩
    show g_L_sizeOf_5 F (f_L_sizeOf_5 F N) la (o + 1) (nI v) (nI (sm (fun h => cnt (T v h)) h)) (nI h) (hp K R n s I) = f_L_sizeOf_5 F N la (o + 1) (nI v) (nI (sm (fun h => cnt (T v h)) h + cnt (T v h))) (nI (h + 1)) (hp K R n s I)
    have x1 : hm_ild (hp K R n s I) (la + 18 + 1 + v) (nI h) = some (enD (T v h)) := by rw [gd_ild SL.g18 (by omega) (by omega), (hT v h hv hh).1]
    have hno : enD (T v h) = -1 ↔ T v h = none := enD_none (on_ok_mono (hT v h hv hh).2 (by omega))
    unfold g_L_sizeOf_5 f_L_sizeOf_30
    simp only [eN_gi SN, Option.bind_some, hm, if_neg (nI_ge hh (show m < 2 ^ 31 by omega)), eL_r1 SL, gd_ald SL.g18 (show v < 16 by omega), x1, hno, nI_1]
    by_cases z : T v h = none
    · rw [if_pos z, show cnt (T v h) = 0 from if_pos z]; rfl
    · rw [if_neg z, show cnt (T v h) = 1 from if_neg z]
  · intro N c hc
    subst hc
    show g_L_sizeOf_5 F (f_L_sizeOf_5 F N) la (o + 1) (nI v) _ (nI m) (hp K R n s I) = _
    unfold g_L_sizeOf_5
    simp only [eN_gi SN, Option.bind_some, hm, if_pos (Int32.le_refl (nI m))]
theorem L_stat {la v : Nat} {T : Nat → Nat → Option Nat} {k : Int32} (hF : 20 ≤ F) (SN : shN K R (o + 1)) (SL : shL K R la) (hm : I (o + 1) 0 = nI m) (hp0 : prm m row rk) (hrow : ∀ i, i < m → I (o + 1 + 18) i = nI (row i)) (hT : ∀ x y, x < m → y < m → I (la + 18 + 1 + x) y = enD (T x y) ∧ on_ok 90000 (T x y)) (hv : v < m) : ∃ r, f_L_stationAt F la (o + 1) (nI v) k (hp K R n s I) = some (enD (r.map row), hp K R n s I) ∧ fst (fun i => T v (row i) ≠ none ∧ nI (cs (T v) row i) = k) m r := by
  have h16 := hp0.1
  unfold f_L_stationAt
  rw [← nI_0]
  refine hl_up (fun N i (c : Nat) => f_L_stationAt_6 F N la (o + 1) (nI v) k (nI c) (nI i) (hp K R n s I)) (fun z => ∃ r, z = some (enD (r.map row), hp K R n s I) ∧ fst (fun i => T v (row i) ≠ none ∧ nI (cs (T v) row i) = k) m r) (fun i c => c = cs (T v) row i ∧ ∀ i', i' < i → ¬ (T v (row i') ≠ none ∧ nI (cs (T v) row i') = k)) m ?_ ?_ F 0 0 (by omega) (by omega) ⟨rfl, fun i' h => by omega⟩
  · intro N i c hi ⟨hc, hP⟩
    subst hc
    have hri := (hp0.2.1 i hi).1
    have x1 : hm_ild (hp K R n s I) (o + 1 + 18) (nI i) = some (nI (row i)) := by rw [hp_ild SN.K18 (by omega) (by omega), hrow i hi]
    have x2 : hm_ild (hp K R n s I) (la + 18 + 1 + v) (nI (row i)) = some (enD (T v (row i))) := by rw [gd_ild SL.g18 (by omega) (by omega), (hT v _ hv hri).1]
    have hno : enD (T v (row i)) = -1 ↔ T v (row i) = none := enD_none (on_ok_mono (hT v _ hv hri).2 (by omega))
    have next : ∀ c', c' = cs (T v) row (i + 1) → ¬ (T v (row i) ≠ none ∧ nI (cs (T v) row i) = k) → (c' = cs (T v) row (i + 1) ∧ ∀ i', i' < i + 1 → ¬ (T v (row i') ≠ none ∧ nI (cs (T v) row i') = k)) := fun c' hc' hn => ⟨hc', fun i' hi' => by
      by_cases e : i' = i
      · rw [e]; exact hn
      · exact hP i' (by omega)⟩
    have ecs : cs (T v) row (i + 1) = cs (T v) row i + cnt (T v (row i)) := rfl
    show (∃ r : Option Nat, g_L_stationAt_6 F (f_L_stationAt_6 F N) la (o + 1) (nI v) k (nI (cs (T v) row i)) (nI i) (hp K R n s I) = some (enD (r.map row), hp K R n s I) ∧ _) ∨ ∃ t', _ ∧ g_L_stationAt_6 F (f_L_stationAt_6 F N) la (o + 1) (nI v) k (nI (cs (T v) row i)) (nI i) (hp K R n s I) = _
    by_cases z : T v (row i) = none
    · refine Or.inr ⟨cs (T v) row i, next _ (by rw [ecs, show cnt (T v (row i)) = 0 from if_pos z]; rfl) (fun w => w.1 z), ?_⟩
      unfold g_L_stationAt_6 f_L_stationAt_49
      simp only [eN_gi SN, Option.bind_some, hm, if_neg (nI_ge hi (show m < 2 ^ 31 by omega)), eN_r3 SN, x1, eL_r1 SL, gd_ald SL.g18 (show v < 16 by omega), x2, hno, if_pos z, nI_1]
    · by_cases y : nI (cs (T v) row i) = k
      · refine Or.inl ⟨some i, ?_, Or.inl ⟨i, hi, ⟨z, y⟩, hP, rfl⟩⟩
        unfold g_L_stationAt_6
        simp only [eN_gi SN, Option.bind_some, hm, if_neg (nI_ge hi (show m < 2 ^ 31 by omega)), eN_r3 SN, x1, eL_r1 SL, gd_ald SL.g18 (show v < 16 by omega), x2, hno, if_neg z, if_pos y]
        rfl
      · refine Or.inr ⟨cs (T v) row i + 1, next _ (by rw [ecs, show cnt (T v (row i)) = 1 from if_neg z]) (fun w => y w.2), ?_⟩
        unfold g_L_stationAt_6 f_L_stationAt_49
        simp only [eN_gi SN, Option.bind_some, hm, if_neg (nI_ge hi (show m < 2 ^ 31 by omega)), eN_r3 SN, x1, eL_r1 SL, gd_ald SL.g18 (show v < 16 by omega), x2, hno, if_neg z, if_neg y, nI_1]
  · intro N c ⟨hc, hP⟩
    refine ⟨none, ?_, Or.inr ⟨hP, rfl⟩⟩
    show g_L_stationAt_6 F (f_L_stationAt_6 F N) la (o + 1) (nI v) k (nI c) (nI m) (hp K R n s I) = _
    unfold g_L_stationAt_6
    simp only [eN_gi SN, Option.bind_some, hm, if_pos (Int32.le_refl (nI m))]
    rfl
theorem ix3 (sd v h : Nat) : (256 : Int32) * nI sd + (16 : Int32) * nI v + nI h = nI (256 * sd + (16 * v + h)) := by rw [n_256, n_16, pk_mul, pk_mul, nI_add, nI_add, Nat.add_assoc]
theorem R_nth {sd v : Nat} {T : Nat → Nat → Option Nat} {k : Int32} (hF : 20 ≤ F) (SR : shR K R q) (hm : I q 1 = nI m) (hp0 : prm m row rk) (hrow : ∀ i, i < m → I (q + 2) i = nI (row i)) (hsd : sd < 2) (hT : ∀ x y, x < m → y < m → I (q + 7) (256 * sd + (16 * x + y)) = enS (T x y) ∧ on_ok 90000 (T x y)) (hv : v < m) : ∃ r, f_R_nth F q (nI sd) (nI v) k (hp K R n s I) = some (enD (r.map row), hp K R n s (if r = none then up2 I q 23 (nI (cs (T v) row m)) else I)) ∧ fst (fun i => T v (row i) ≠ none ∧ nI (cs (T v) row i) = k) m r := by
  have h16 := hp0.1
  unfold f_R_nth
  rw [← nI_0]
  refine hl_up (fun N i (c : Nat) => f_R_nth_6 F N q (nI sd) (nI v) k (nI c) (nI i) (hp K R n s I)) (fun z => ∃ r, z = some (enD (r.map row), hp K R n s (if r = none then up2 I q 23 (nI (cs (T v) row m)) else I)) ∧ fst (fun i => T v (row i) ≠ none ∧ nI (cs (T v) row i) = k) m r) (fun i c => c = cs (T v) row i ∧ ∀ i', i' < i → ¬ (T v (row i') ≠ none ∧ nI (cs (T v) row i') = k)) m ?_ ?_ F 0 0 (by omega) (by omega) ⟨rfl, fun i' h => by omega⟩
  · intro N i c hi ⟨hc, hP⟩
    subst hc
    have hri := (hp0.2.1 i hi).1
    have x1 : hm_ild (hp K R n s I) (q + 2) (nI i) = some (nI (row i)) := by rw [hp_ild SR.K2 (by omega) (by omega), hrow i hi]
    have x2 : hm_ild (hp K R n s I) (q + 7) ((256 : Int32) * nI sd + (16 : Int32) * nI v + nI (row i)) = some (enS (T v (row i))) := by rw [ix3, hp_ild SR.K7 (by omega) (by omega), (hT v _ hv hri).1]
    have hno : enS (T v (row i)) ≤ 0 ↔ T v (row i) = none := enS_le (on_ok_mono (hT v _ hv hri).2 (by omega))
    have next : ∀ c', c' = cs (T v) row (i + 1) → ¬ (T v (row i) ≠ none ∧ nI (cs (T v) row i) = k) → (c' = cs (T v) row (i + 1) ∧ ∀ i', i' < i + 1 → ¬ (T v (row i') ≠ none ∧ nI (cs (T v) row i') = k)) := fun c' hc' hn => ⟨hc', fun i' hi' => by
      by_cases e : i' = i
      · rw [e]; exact hn
      · exact hP i' (by omega)⟩
    have ecs : cs (T v) row (i + 1) = cs (T v) row i + cnt (T v (row i)) := rfl
    show (∃ r : Option Nat, g_R_nth_6 F (f_R_nth_6 F N) q (nI sd) (nI v) k (nI (cs (T v) row i)) (nI i) (hp K R n s I) = some (enD (r.map row), hp K R n s (if r = none then up2 I q 23 (nI (cs (T v) row m)) else I)) ∧ _) ∨ ∃ t', _ ∧ g_R_nth_6 F (f_R_nth_6 F N) q (nI sd) (nI v) k (nI (cs (T v) row i)) (nI i) (hp K R n s I) = _
    by_cases z : T v (row i) = none
    · refine Or.inr ⟨cs (T v) row i, next _ (by rw [ecs, show cnt (T v (row i)) = 0 from if_pos z]; rfl) (fun w => w.1 z), ?_⟩
      unfold g_R_nth_6 f_R_nth_62
      simp only [eR_gi SR, Option.bind_some, hm, if_neg (nI_ge hi (show m < 2 ^ 31 by omega)), eR_r3 SR, x1, eR_r9 SR, x2, hno, if_pos z, nI_1]
    · by_cases y : nI (cs (T v) row i) = k
      · refine Or.inl ⟨some i, ?_, Or.inl ⟨i, hi, ⟨z, y⟩, hP, rfl⟩⟩
        unfold g_R_nth_6 f_R_nth_51
        simp only [eR_gi SR, Option.bind_some, hm, if_neg (nI_ge hi (show m < 2 ^ 31 by omega)), eR_r3 SR, x1, eR_r9 SR, x2, hno, if_neg z, if_pos y]
        rw [if_neg (fun w => by cases w)]
        rfl
      · refine Or.inr ⟨cs (T v) row i + 1, next _ (by rw [ecs, show cnt (T v (row i)) = 1 from if_neg z]) (fun w => y w.2), ?_⟩
        unfold g_R_nth_6 f_R_nth_62
        simp only [eR_gi SR, Option.bind_some, hm, if_neg (nI_ge hi (show m < 2 ^ 31 by omega)), eR_r3 SR, x1, eR_r9 SR, x2, hno, if_neg z, if_neg y, nI_1]
  · intro N c ⟨hc, hP⟩
    subst hc
    refine ⟨none, ?_, Or.inr ⟨hP, rfl⟩⟩
    show g_R_nth_6 F (f_R_nth_6 F N) q (nI sd) (nI v) k (nI (cs (T v) row m)) (nI m) (hp K R n s I) = _
    unfold g_R_nth_6 f_R_nth_68
    simp only [eR_gi SR, Option.bind_some, hm, if_pos (Int32.le_refl (nI m)), eR_pi SR]
    rfl
/-- one side of the labels on both sides -/
def sdH (o sd la : Nat) (T TO TI : Nat → Nat → Option Nat) : Prop := (sd = 0 ∧ la = o + 38 ∧ T = TO) ∨ (sd = 1 ∧ la = o + 73 ∧ T = TI)
theorem sd_cases (x : Int32) : (¬ x = 0 ∧ ¬ x = 1 ∧ (x < 0 ∨ (1 : Int32) < x)) ∨ x = nI 0 ∨ x = nI 1 := by
  rcases pk_ix x (n := 2) (by omega) with h | h | ⟨j, hj, rfl⟩
  · refine Or.inl ⟨fun e => ?_, fun e => ?_, Or.inl h⟩
    · rw [e] at h; exact absurd h (by decide)
    · rw [e] at h; exact absurd h (by decide)
  · refine Or.inl ⟨fun e => ?_, fun e => ?_, Or.inr (Int32.lt_of_lt_of_le (show (1 : Int32) < nI 2 by decide +kernel) h)⟩
    · rw [e] at h; exact absurd h (by decide +kernel)
    · rw [e] at h; exact absurd h (by decide +kernel)
  · refine Or.inr ?_
    have : j = 0 ∨ j = 1 := by omega
    rcases this with e | e <;> rw [e]
    · exact Or.inl rfl
    · exact Or.inr rfl
end LA2
