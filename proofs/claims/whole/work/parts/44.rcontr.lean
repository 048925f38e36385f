/-! THE REFERENCE: contraction -/
theorem fw_eq {m k : Nat} {row rk : Nat → Nat} {ok : Nat → Bool} {W : Nat → Nat → Option Nat} (hp0 : prm m row rk) (hk : k ≤ m) (hok : ∀ x, x < m → (ok x = true ↔ rk x < k)) (u w : Nat) : fwG W ok m u w = fwI W row k u w := by
  refine wk_D_one (fwG_D W ok m u w) (wk_D_eq (fw_D W row k u w) (fun v => ⟨fun ⟨i, h1, h2⟩ => ?_, fun ⟨h1, h2⟩ => ?_⟩))
  · have := hp0.2.1 i (by omega)
    subst h2
    exact ⟨this.1, (hok _ this.1).mpr (by rw [this.2]; exact h1)⟩
  · exact ⟨rk v, (hok v h1).mp h2, (hp0.2.2 v h1).2⟩
def holdR (I : Nat → Nat → Int32) (q : Nat) (L : List cE) : Prop := I q 16 = nI L.length ∧ ∀ (i : Nat) (x : cE), L[i]? = some x → I (q + 13) i = nI x.1 ∧ I (q + 14) i = nI x.2.1 ∧ I (q + 15) i = nI x.2.2.1 ∧ I (q + 16) i = nI x.2.2.2
def brR (q u w v l : Nat) (x : Int32) (I : Nat → Nat → Int32) : Nat → Nat → Int32 := up2 (up2 (up2 (up2 (up2 I (q + 13) l (nI u)) (q + 14) l (nI w)) (q + 15) l x) (q + 16) l (nI v)) q 16 (nI (l + 1))
theorem holdR.add {I : Nat → Nat → Int32} {q u w v d : Nat} {L : List cE} (h : holdR I q L) : holdR (brR q u w v L.length (nI d) I) q (L ++ [(u, w, d, v)]) := by
  unfold brR
  refine ⟨by rw [up2_at]; simp, fun i x hx => ?_⟩
  by_cases hi : i < L.length
  · rw [List.getElem?_append_left hi] at hx
    have := h.2 i x hx
    refine ⟨?_, ?_, ?_, ?_⟩
    · rw [up2_ne (by omega), up2_ne (by omega), up2_ne (by omega), up2_ne (by omega), up2_nj (by omega)]; exact this.1
    · rw [up2_ne (by omega), up2_ne (by omega), up2_ne (by omega), up2_nj (by omega), up2_ne (by omega)]; exact this.2.1
    · rw [up2_ne (by omega), up2_ne (by omega), up2_nj (by omega), up2_ne (by omega), up2_ne (by omega)]; exact this.2.2.1
    · rw [up2_ne (by omega), up2_nj (by omega), up2_ne (by omega), up2_ne (by omega), up2_ne (by omega)]; exact this.2.2.2
  · have hi2 : i = L.length := by
      have := (List.getElem?_eq_some_iff.mp hx).1
      simp at this
      omega
    subst hi2
    have hx2 : (u, w, d, v) = x := by simpa using hx
    subst hx2
    refine ⟨?_, ?_, ?_, ?_⟩
    · rw [up2_ne (by omega), up2_ne (by omega), up2_ne (by omega), up2_ne (by omega), up2_at]
    · rw [up2_ne (by omega), up2_ne (by omega), up2_ne (by omega), up2_at]
    · rw [up2_ne (by omega), up2_ne (by omega), up2_at]
    · rw [up2_ne (by omega), up2_at]
section RC
variable {K : Nat → Option ((Nat ⊕ Nat) × Nat)} {R : Nat → Nat → Option Nat} {n s F q m k : Nat} {I : Nat → Nat → Int32} {row rk : Nat → Nat} {W : Nat → Nat → Option Nat} {x1 x3 : Int32}
/-- what the pairs' loops of stage k read -/
def rcH (q m k : Nat) (I0 : Nat → Nat → Int32) (row rk : Nat → Nat) (W : Nat → Nat → Option Nat) : Prop :=
  I0 q 1 = nI m ∧ prm m row rk ∧ k < m ∧ (∀ x, x < m → I0 (q + 8) x = if k < rk x then 1 else 0) ∧ (∀ x y, x < m → y < m → I0 (q + 9) (16 * x + y) = enR (W x y) ∧ on_ok 15000 (W x y)) ∧ ∀ x y, x < m → y < m → I0 (q + 10) (16 * x + y) = enR (fwI W row k x y) ∧ on_ok 499999 (fwI W row k x y)
def RCi (q : Nat) (I0 t : Nat → Nat → Int32) (L : List cE) : Prop := (∀ x, (x < q ∨ (q < x ∧ x ≤ q + 12) ∨ q + 16 < x) → t x = I0 x) ∧ (∀ j, j ≠ 16 → t q j = I0 q j) ∧ holdR t q L
theorem rc_step {I0 t : Nat → Nat → Int32} {L : List cE} {u w : Nat} (k83 : Nat → Int32 → Int32 → Int32 → Int32 → hm_T → Option hm_T) (k95 : Nat → Int32 → Int32 → Int32 → Int32 → Int32 → hm_T → Option hm_T) (S : shR K R q) (H : rcH q m k I0 row rk W) (h : RCi q I0 t L) (hu : u < m) (hw : w < m) (hlen : L.length < 4096) :
    ∃ t', g_R_contract_95 F k83 k95 q x1 (nI (row k)) x3 (nI u) (nI w) (hp K R n s t) = k95 q x1 (nI (row k)) x3 (nI u) (nI (w + 1)) (hp K R n s t') ∧ RCi q I0 t' (L ++ (if ctc row rk k W u w = true then [cte row k W u w] else [])) := by
  obtain ⟨q1, q2, q3, q4, q5, q6⟩ := H
  have h16 := q2.1
  have hrk := q2.2.1 k q3
  have w1 : t q 1 = nI m := by rw [h.2.1 1 (by decide)]; exact q1
  have ge : ¬ nI m ≤ nI w := nI_ge hw (by omega)
  have l1 : hm_ild (hp K R n s t) (q + 9) ((16 : Int32) * nI u + nI (row k)) = some (enR (W u (row k))) := by rw [ix16, hp_ild S.K9 (by omega) (by omega), h.1 _ (by omega), (q5 u (row k) hu hrk.1).1]
  have l2 : hm_ild (hp K R n s t) (q + 9) ((16 : Int32) * nI (row k) + nI w) = some (enR (W (row k) w)) := by rw [ix16, hp_ild S.K9 (by omega) (by omega), h.1 _ (by omega), (q5 (row k) w hrk.1 hw).1]
  have l3 : hm_ild (hp K R n s t) (q + 10) ((16 : Int32) * nI u + nI w) = some (enR (fwI W row k u w)) := by rw [ix16, hp_ild S.K10 (by omega) (by omega), h.1 _ (by omega), (q6 u w hu hw).1]
  have g1 : ∀ x, x < m → hm_zld (hp K R n s t) (q + 8) (nI x) = some (if k < rk x then 1 else 0) := fun x hx => by rw [hp_zld S.K8 (by omega) (by omega), h.1 _ (by omega), q4 x hx]
  have skip : ctc row rk k W u w = false → f_R_contract_147 F k95 q x1 (nI (row k)) x3 (nI u) (nI w) (hp K R n s t) = k95 q x1 (nI (row k)) x3 (nI u) (nI (w + 1)) (hp K R n s t) ∧ RCi q I0 t (L ++ (if ctc row rk k W u w = true then [cte row k W u w] else [])) := fun hc => by
    refine ⟨?_, by rw [hc]; simpa using h⟩
    unfold f_R_contract_147 f_R_contract_148 f_R_contract_260
    simp only [eR_r12 S, Option.bind_some, l1, l2, if_true, nI_1]
  have iu : ∀ x, x < m → (nI x = nI (row k) ↔ rk x = k) := fun x hx => by
    rw [nI_eq (by omega) (by omega)]
    exact ⟨fun e => by rw [e]; exact hrk.2, fun e => by rw [← e]; exact ((q2.2.2 x hx).2).symm⟩
  by_cases a1 : rk u = k
  · obtain ⟨z1, z2⟩ := skip (by unfold ctc; simp [a1])
    refine ⟨t, ?_, z2⟩
    unfold g_R_contract_95
    simp only [eR_gi S, Option.bind_some, w1, if_neg ge, if_pos ((iu u hu).mpr a1)]
    exact z1
  · by_cases a2 : rk w = k
    · obtain ⟨z1, z2⟩ := skip (by unfold ctc; simp [a2])
      refine ⟨t, ?_, z2⟩
      unfold g_R_contract_95
      simp only [eR_gi S, Option.bind_some, w1, if_neg ge, if_neg (fun z => a1 ((iu u hu).mp z)), if_pos ((iu w hw).mpr a2)]
      exact z1
    · by_cases a3 : u = w
      · obtain ⟨z1, z2⟩ := skip (by unfold ctc; simp [a3])
        refine ⟨t, ?_, z2⟩
        unfold g_R_contract_95
        simp only [eR_gi S, Option.bind_some, w1, if_neg ge, if_neg (fun z => a1 ((iu u hu).mp z)), if_neg (fun z => a2 ((iu w hw).mp z)), if_pos (show nI u = nI w by rw [a3])]
        exact z1
      · have a3' : ¬ nI u = nI w := fun z => a3 ((nI_eq (by omega) (by omega)).mp z)
        by_cases a4 : k < rk u
        · obtain ⟨z1, z2⟩ := skip (by unfold ctc; simp [show ¬ rk u < k by omega])
          refine ⟨t, ?_, z2⟩
          unfold g_R_contract_95
          simp only [eR_gi S, Option.bind_some, w1, if_neg ge, if_neg (fun z => a1 ((iu u hu).mp z)), if_neg (fun z => a2 ((iu w hw).mp z)), if_neg a3', eR_r11 S, g1 u hu, if_pos a4, if_neg (show ¬ (1 : Int32) = 0 by decide)]
          exact z1
        · by_cases a5 : k < rk w
          · obtain ⟨z1, z2⟩ := skip (by unfold ctc; simp [show ¬ rk w < k by omega])
            refine ⟨t, ?_, z2⟩
            unfold g_R_contract_95
            simp only [eR_gi S, Option.bind_some, w1, if_neg ge, if_neg (fun z => a1 ((iu u hu).mp z)), if_neg (fun z => a2 ((iu w hw).mp z)), if_neg a3', eR_r11 S, g1 u hu, if_neg a4, if_true, g1 w hw, if_pos a5, if_neg (show ¬ (1 : Int32) = 0 by decide)]
            exact z1
          · have hcc : ctc row rk k W u w = on_lt (ctb row k W u w) (fwI W row k u w) := by unfold ctc; simp [a3, show rk u < k by omega, show rk w < k by omega]
            have b1 := (q5 u (row k) hu hrk.1).2
            have b2 := (q5 (row k) w hrk.1 hw).2
            have b3 : on_ok 30000 (ctb row k W u w) := on_ok_add b1 b2
            have hs := enR_sum (on_ok_mono b1 (show 15000 ≤ 499999 by omega)) (on_ok_mono b2 (show 15000 ≤ 499999 by omega)) (on_ok_mono (q6 u w hu hw).2 (show 499999 ≤ 999999 by omega))
            have head : g_R_contract_95 F k83 k95 q x1 (nI (row k)) x3 (nI u) (nI w) (hp K R n s t) = f_R_contract_148 F k95 q x1 (nI (row k)) x3 (nI u) (nI w) (1 : Int32) (hp K R n s t) := by
              unfold g_R_contract_95
              simp only [eR_gi S, Option.bind_some, w1, if_neg ge, if_neg (fun z => a1 ((iu u hu).mp z)), if_neg (fun z => a2 ((iu w hw).mp z)), if_neg a3', eR_r11 S, g1 u hu, if_neg a4, if_true, g1 w hw, if_neg a5]
            rw [head]
            by_cases hl : on_lt (ctb row k W u w) (fwI W row k u w) = true
            · obtain ⟨d, hd⟩ : ∃ d, ctb row k W u w = some d := by
                cases hcb : ctb row k W u w with
                | none => rw [hcb] at hl; cases fwI W row k u w <;> simp [on_lt] at hl
                | some d => exact ⟨d, rfl⟩
              have hdb := b3 d hd
              have hsum : enR (W u (row k)) + enR (W (row k) w) = nI d := by
                have := enR_add (z := fwI W row k u w) hl
                rw [this]
                show enR (ctb row k W u w) = _
                rw [hd]; rfl
              have hfar : ¬ (1000000 : Int32) ≤ nI d := by rw [n_far]; exact nI_ge (by omega) (by omega)
              have hlt : ¬ enR (fwI W row k u w) ≤ nI d := by rw [← hsum]; exact hs.mpr hl
              refine ⟨brR q u w (row k) L.length (nI d) t, ?_, ?_⟩
              · unfold f_R_contract_148 f_R_contract_260 brR
                have e0 : t q 16 = nI L.length := h.2.2.1
                have e1 : up2 t (q + 13) L.length (nI u) q 16 = nI L.length := by rw [up2_ne (by omega)]; exact e0
                have e2 : up2 (up2 t (q + 13) L.length (nI u)) (q + 14) L.length (nI w) q 16 = nI L.length := by rw [up2_ne (by omega)]; exact e1
                have e3 : up2 (up2 (up2 t (q + 13) L.length (nI u)) (q + 14) L.length (nI w)) (q + 15) L.length (nI d) q 16 = nI L.length := by rw [up2_ne (by omega)]; exact e2
                have e4 : up2 (up2 (up2 (up2 t (q + 13) L.length (nI u)) (q + 14) L.length (nI w)) (q + 15) L.length (nI d)) (q + 16) L.length (nI (row k)) q 16 = nI L.length := by rw [up2_ne (by omega)]; exact e3
                simp only [eR_r12 S, Option.bind_some, l1, l2, if_neg (show ¬ (1 : Int32) = 0 by decide), hsum, if_neg hfar, eR_r13 S, l3, if_neg hlt, eR_r17 S, eR_gi S, e0, hp_ist S.K13 hlen (show 4096 < 2 ^ 31 by omega), eR_r18 S, e1, hp_ist S.K14 hlen (show 4096 < 2 ^ 31 by omega), eR_r19 S, e2, hp_ist S.K15 hlen (show 4096 < 2 ^ 31 by omega), eR_r20 S, e3, hp_ist S.K16 hlen (show 4096 < 2 ^ 31 by omega), e4, eR_pi S, nI_1]
              · rw [hcc, if_pos hl]
                refine ⟨fun x hx => ?_, fun j hj => ?_, ?_⟩
                · unfold brR
                  rw [up2_ne (by omega), up2_ne (by omega), up2_ne (by omega), up2_ne (by omega), up2_ne (by omega)]
                  exact h.1 x hx
                · unfold brR
                  rw [up2_nj hj, up2_ne (by omega), up2_ne (by omega), up2_ne (by omega), up2_ne (by omega)]
                  exact h.2.1 j hj
                · unfold cte
                  rw [hd]
                  exact h.2.2.add
            · refine ⟨t, ?_, by rw [hcc, if_neg hl]; simpa using h⟩
              unfold f_R_contract_148 f_R_contract_260
              have hle : enR (fwI W row k u w) ≤ enR (W u (row k)) + enR (W (row k) w) := Classical.byContradiction (fun z => hl (hs.mp z))
              simp only [eR_r12 S, Option.bind_some, l1, l2, if_neg (show ¬ (1 : Int32) = 0 by decide), eR_r13 S, l3, if_pos hle, nI_1, ite_self]
theorem rc_w {I0 t : Nat → Nat → Int32} {L : List cE} {u N : Nat} (k83 : Nat → Int32 → Int32 → Int32 → Int32 → hm_T → Option hm_T) (S : shR K R q) (H : rcH q m k I0 row rk W) (hlen : (L ++ lu (ctc row rk k W) (cte row k W) m m).length ≤ 1120) (h : RCi q I0 t (L ++ lu (ctc row rk k W) (cte row k W) m u)) (hu : u < m) (hN : 16 < N) :
    ∃ t', f_R_contract_95 F k83 N q x1 (nI (row k)) x3 (nI u) (nI 0) (hp K R n s t) = k83 q x1 (nI (row k)) x3 (nI (u + 1)) (hp K R n s t') ∧ RCi q I0 t' (L ++ lu (ctc row rk k W) (cte row k W) m (u + 1)) := by
  have h16 := H.2.1.1
  refine hl_up (fun N w t => f_R_contract_95 F k83 N q x1 (nI (row k)) x3 (nI u) (nI w) (hp K R n s t)) (fun z => ∃ t', z = k83 q x1 (nI (row k)) x3 (nI (u + 1)) (hp K R n s t') ∧ RCi q I0 t' (L ++ lu (ctc row rk k W) (cte row k W) m (u + 1))) (fun w t => RCi q I0 t (L ++ lu (ctc row rk k W) (cte row k W) m u ++ lw (ctc row rk k W) (cte row k W) u w)) m ?_ ?_ N 0 t (by omega) (by omega) (by simpa [lw] using h)
  · intro N w t hw h2
    have hlw := lw_mono (c := ctc row rk k W) (e := cte row k W) (u := u) (show w ≤ m by omega)
    have hlu := lu_mono (c := ctc row rk k W) (e := cte row k W) (m := m) (show u + 1 ≤ m from hu)
    have h4 : (lu (ctc row rk k W) (cte row k W) m (u + 1)).length = (lu (ctc row rk k W) (cte row k W) m u).length + (lw (ctc row rk k W) (cte row k W) u m).length := by simp [lu]
    obtain ⟨t', e1, e2⟩ := rc_step (F := F) (n := n) (s := s) (x1 := x1) (x3 := x3) k83 (f_R_contract_95 F k83 N) S H h2 hu hw (by simp only [List.length_append] at hlen ⊢; omega)
    exact Or.inr ⟨t', by simpa [lw, List.append_assoc] using e2, e1⟩
  · intro N t h2
    refine ⟨t, ?_, by simpa [lu, List.append_assoc] using h2⟩
    show g_R_contract_95 F k83 (f_R_contract_95 F k83 N) q x1 (nI (row k)) x3 (nI u) (nI m) (hp K R n s t) = _
    unfold g_R_contract_95 f_R_contract_266
    have w1 : t q 1 = nI m := by rw [h2.2.1 1 (by decide)]; exact H.1
    simp only [eR_gi S, Option.bind_some, w1, if_pos (Int32.le_refl (nI m)), nI_1]
theorem rc_u {I0 : Nat → Nat → Int32} {L : List cE} (k47 : Nat → Int32 → hm_T → Option hm_T) (hF : 20 ≤ F) (S : shR K R q) (H : rcH q m k I0 row rk W) (hlen : (L ++ lu (ctc row rk k W) (cte row k W) m m).length ≤ 1120) (h0 : holdR I0 q L) :
    ∃ t', f_R_contract_83 F k47 F q x1 (nI (row k)) x3 (nI 0) (hp K R n s I0) = f_R_contract_272 F k47 q x1 (nI (row k)) x3 (hp K R n s t') ∧ RCi q I0 t' (L ++ lu (ctc row rk k W) (cte row k W) m m) := by
  have h16 := H.2.1.1
  refine hl_up (fun N u t => f_R_contract_83 F k47 N q x1 (nI (row k)) x3 (nI u) (hp K R n s t)) (fun z => ∃ t', z = f_R_contract_272 F k47 q x1 (nI (row k)) x3 (hp K R n s t') ∧ RCi q I0 t' (L ++ lu (ctc row rk k W) (cte row k W) m m)) (fun u t => RCi q I0 t (L ++ lu (ctc row rk k W) (cte row k W) m u)) m ?_ ?_ F 0 I0 (by omega) (by omega) ⟨fun _ _ => rfl, fun _ _ => rfl, by simpa [lu] using h0⟩
  · intro N u t hu h2
    have w1 : t q 1 = nI m := by rw [h2.2.1 1 (by decide)]; exact H.1
    obtain ⟨t', e1, e2⟩ := rc_w (F := F) (n := n) (s := s) (x1 := x1) (x3 := x3) (N := F) (f_R_contract_83 F k47 N) S H hlen h2 hu (by omega)
    refine Or.inr ⟨t', e2, ?_⟩
    show g_R_contract_83 F k47 (f_R_contract_83 F k47 N) q x1 (nI (row k)) x3 (nI u) (hp K R n s t) = _
    unfold g_R_contract_83
    simp only [eR_gi S, Option.bind_some, w1, if_neg (nI_ge hu (show m < 2 ^ 31 by omega))]
    rw [← nI_0]
    exact e1
  · intro N t h2
    have w1 : t q 1 = nI m := by rw [h2.2.1 1 (by decide)]; exact H.1
    refine ⟨t, ?_, h2⟩
    show g_R_contract_83 F k47 (f_R_contract_83 F k47 N) q x1 (nI (row k)) x3 (nI m) (hp K R n s t) = _
    unfold g_R_contract_83
    simp only [eR_gi S, Option.bind_some, w1, if_pos (Int32.le_refl (nI m))]
end RC
