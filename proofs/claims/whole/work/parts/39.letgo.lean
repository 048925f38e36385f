def cW (A : Nat → Nat → Option Nat) (row rk : Nat → Nat) (m : Nat) : Nat → Nat → Nat → Option Nat
  | 0 => A
  | j + 1 => ctW row rk (m - 1 - j) (cW A row rk m j)
def cL (A : Nat → Nat → Option Nat) (row rk : Nat → Nat) (m : Nat) : Nat → List cE
  | 0 => []
  | j + 1 => cL A row rk m j ++ lu (ctc row rk (m - 1 - j) (cW A row rk m j)) (cte row (m - 1 - j) (cW A row rk m j)) m m
theorem cL_mono {A : Nat → Nat → Option Nat} {row rk : Nat → Nat} {m j j' : Nat} (h : j ≤ j') : (cL A row rk m j).length ≤ (cL A row rk m j').length := by
  induction h with
  | refl => exact Nat.le_refl _
  | step _ ih => simp only [cL, List.length_append]; omega
theorem ctW_l {row rk : Nat → Nat} {k x y : Nat} {W : Nat → Nat → Option Nat} (h : ¬ rk x < k ∨ ¬ rk y < k) : ctW row rk k W x y = W x y := by
  unfold ctW
  rw [if_neg]
  unfold ctc
  rcases h with h | h <;> simp [h]
section LG
variable {K : Nat → Option ((Nat ⊕ Nat) × Nat)} {R : Nat → Nat → Option Nat} {n s F o m k : Nat} {I : Nat → Nat → Int32} {row rk : Nat → Nat} {W : Nat → Nat → Option Nat}
/-- what the going of the node of rank k reads and does not write -/
def lgH (o m k : Nat) (I0 : Nat → Nat → Int32) (row rk : Nat → Nat) (W : Nat → Nat → Option Nat) : Prop :=
  I0 (o + 1) 0 = nI m ∧ prm m row rk ∧ k < m ∧ (∀ v, v < m → I0 (o + 1 + 19) v = nI (rk v)) ∧ (∀ x y, x < m → y < m → on_ok 15000 (W x y)) ∧ ∀ x y, x < m → y < m → rk x < k → rk y < k → I0 (o + 108 + 18 + 1 + x) y = enD (fwI W row k x y) ∧ on_ok 1500000000 (fwI W row k x y)
theorem lg_step {I0 t : Nat → Nat → Int32} {pr : Nat → Nat → Prop} {L : List cE} {u w : Nat} (k38 : Nat → Nat → Int32 → Int32 → Int32 → hm_T → Option hm_T) (k50 : Nat → Nat → Int32 → Int32 → Int32 → Int32 → hm_T → Option hm_T) (S : shD K R o) (H : lgH o m k I0 row rk W) (h : LGi (o + 108) m k row rk W I0 t pr L) (hu : u < m) (hw : w < m) (hn : ¬ pr u w) (hlen : ctc row rk k W u w = true → L.length < 1120) (pr' : Nat → Nat → Prop) (hpr : ∀ x y, x < m → y < m → (pr' x y ↔ pr x y ∨ (x = u ∧ y = w))) :
    ∃ t', g_K_letGo_50 F k38 k50 (o + 108) (o + 1) (nI k) (nI (row k)) (nI u) (nI w) (hp K R n s t) = k50 (o + 108) (o + 1) (nI k) (nI (row k)) (nI u) (nI (w + 1)) (hp K R n s t') ∧ LGi (o + 108) m k row rk W I0 t' pr' (L ++ (if ctc row rk k W u w = true then [cte row k W u w] else [])) := by
  obtain ⟨q1, q2, q3, q4, q5, q6⟩ := H
  have h16 := q2.1
  have hrk := q2.2.1 k q3
  have hg : ∀ x, x < o + 108 → t x = I0 x := fun x hx => h.1 x (by omega) (by omega) (by omega) (fun z => by have := z.1; omega)
  have hg2 : ∀ x, inG (o + 108 + 18) x → t x = I0 x := fun x hx => by
    have h1 := hx.1
    have h2 := hx.2
    exact h.1 x (by omega) (by omega) (by omega) (fun z => by have := z.2; omega)
  have w1 : t (o + 1) 0 = nI m := by rw [hg _ (by omega)]; exact q1
  have w2 : ∀ v, v < m → hm_ild (hp K R n s t) (o + 1 + 19) (nI v) = some (nI (rk v)) := fun v hv => by rw [hp_ild S.N1.K19 (by omega) (by omega), hg _ (by omega), q4 v hv]
  -- nothing comes
  have keep : ctc row rk k W u w = false → LGi (o + 108) m k row rk W I0 t pr' (L ++ (if ctc row rk k W u w = true then [cte row k W u w] else [])) := fun hc => by
    rw [hc]
    refine ⟨h.1, h.2.1, by simpa using h.2.2.1, fun x y hx hy => ⟨fun q => ?_, fun q => (h.2.2.2 x y hx hy).2 (fun z => q ((hpr x y hx hy).mpr (Or.inl z)))⟩⟩
    rcases (hpr x y hx hy).mp q with z | ⟨rfl, rfl⟩
    · exact (h.2.2.2 x y hx hy).1 z
    · rw [show ctW row rk k W x y = W x y by unfold ctW; rw [hc]; rfl]
      exact (h.2.2.2 x y hx hy).2 hn
  have ge : ¬ nI m ≤ nI w := nI_ge hw (by omega)
  by_cases e1 : u = w
  · refine ⟨t, ?_, keep (by unfold ctc; simp [e1])⟩
    unfold g_K_letGo_50 f_K_letGo_140
    simp only [eN_gi S.N1, Option.bind_some, w1, if_neg ge, e1, if_true, nI_1]
  · have e1' : ¬ nI u = nI w := fun q => e1 ((nI_eq (by omega) (by omega)).mp q)
    by_cases e2 : rk u < k
    · have e2' : ¬ nI k ≤ nI (rk u) := nI_ge e2 (by omega)
      by_cases e3 : rk w < k
      · have e3' : ¬ nI k ≤ nI (rk w) := nI_ge e3 (by omega)
        have x1 : hm_ild (hp K R n s t) (o + 108 + 1 + 1 + u) (nI (row k)) = some (enD (W u (row k))) := by
          rw [gd_ild S.C108.g1 (by omega) (by omega)]
          by_cases z : pr u (row k)
          · rw [(h.2.2.2 u (row k) hu hrk.1).1 z, ctW_l (Or.inr (by rw [hrk.2]; omega))]
          · rw [(h.2.2.2 u (row k) hu hrk.1).2 z]
        have x2 : hm_ild (hp K R n s t) (o + 108 + 1 + 1 + row k) (nI w) = some (enD (W (row k) w)) := by
          rw [gd_ild S.C108.g1 (by omega) (by omega)]
          by_cases z : pr (row k) w
          · rw [(h.2.2.2 (row k) w hrk.1 hw).1 z, ctW_l (Or.inl (by rw [hrk.2]; omega))]
          · rw [(h.2.2.2 (row k) w hrk.1 hw).2 z]
        have x3 : hm_ild (hp K R n s t) (o + 108 + 18 + 1 + u) (nI w) = some (enD (fwI W row k u w)) := by
          rw [gd_ild S.C108.g18 (by omega) (by omega), hg2 _ ⟨by omega, by omega⟩, (q6 u w hu hw e2 e3).1]
        have b1 := q5 u (row k) hu hrk.1
        have b2 := q5 (row k) w hrk.1 hw
        have x4 := D_sum (F := F) (h := hp K R n s t) (on_ok_mono b1 (show 15000 ≤ 1000000000 by omega)) (on_ok_mono b2 (show 15000 ≤ 1000000000 by omega))
        have b3 : on_ok 30000 (ctb row k W u w) := on_ok_add b1 b2
        have x5 := D_isLess (F := F) (h := hp K R n s t) (on_ok_mono b3 (show 30000 ≤ 2000000000 by omega)) (on_ok_mono (q6 u w hu hw e2 e3).2 (show 1500000000 ≤ 2000000000 by omega))
        have hcc : ctc row rk k W u w = on_lt (ctb row k W u w) (fwI W row k u w) := by unfold ctc; simp [e1, e2, e3]
        by_cases hl : on_lt (ctb row k W u w) (fwI W row k u w) = true
        · obtain ⟨d, hd⟩ : ∃ d, ctb row k W u w = some d := by
            cases hcb : ctb row k W u w with
            | none => rw [hcb] at hl; cases fwI W row k u w <;> simp [on_lt] at hl
            | some d => exact ⟨d, rfl⟩
          have hct : ctc row rk k W u w = true := hcc.trans hl
          have hlen' := hlen hct
          have x6 := K_bring (F := F) (n := n) (s := s) (I := t) (u := u) (w := w) (v := row k) (q := L.length) (len := enD (ctb row k W u w)) S.C108 (by omega) (by omega) hlen' h.2.2.1.1
          refine ⟨brI (o + 108) u w L.length (enD (ctb row k W u w)) (nI ((u * 16 + w) * 16 + row k)) t, ?_, ?_⟩
          · unfold g_K_letGo_50 f_K_letGo_140
            have x4' : f_D_sum F (enD (W u (row k))) (enD (W (row k) w)) (hp K R n s t) = some (enD (ctb row k W u w), hp K R n s t) := x4
            simp only [eN_gi S.N1, Option.bind_some, w1, if_neg ge, if_neg e1', eN_r4 S.N1, w2 u hu, w2 w hw, if_neg e2', if_neg e3', eC_r0 S.C108, gd_ald S.C108.g1 (show u < 16 by omega), gd_ald S.C108.g1 (show row k < 16 by omega), x1, x2, x4', hm_and_some, eC_r1 S.C108, gd_ald S.C108.g18 (show u < 16 by omega), x3, x5, hl, if_true, if_neg (show ¬ (1 : Int32) = 0 by decide), eC_is S.C108, x6, nI_1]
          · rw [if_pos hct, hd]
            refine ⟨fun x a1 a2 a3 a4 => ?_, fun j hj => ?_, ?_, fun x y hx hy => ?_⟩
            · unfold brI
              rw [up2_ne a1, up2_ne a3, up2_ne a2, up2_ne (fun z => a4 (by rw [z]; exact ⟨by omega, by omega⟩))]
              exact h.1 x a1 a2 a3 a4
            · unfold brI
              rw [up2_nj hj, up2_ne (by omega), up2_ne (by omega), up2_ne (by omega)]
              exact h.2.1 j hj
            · have := h.2.2.1.add (u := u) (w := w) (v := row k) (d := d) (by omega)
              unfold cte
              rw [hd]
              exact this
            · have ebr : brI (o + 108) u w L.length (enD (some d)) (nI ((u * 16 + w) * 16 + row k)) t (o + 108 + 1 + 1 + x) y = if x = u ∧ y = w then enD (some d) else t (o + 108 + 1 + 1 + x) y := by
                unfold brI
                rw [up2_ne (by omega), up2_ne (by omega), up2_ne (by omega), up2_eq]
                by_cases z : x = u ∧ y = w
                · rw [if_pos z, if_pos ⟨by omega, z.2⟩]
                · rw [if_neg z, if_neg (fun v => z ⟨by omega, v.2⟩)]
              rw [ebr]
              refine ⟨fun q => ?_, fun q => ?_⟩
              · by_cases z : x = u ∧ y = w
                · rw [if_pos z, z.1, z.2]
                  unfold ctW
                  rw [if_pos hct, hd]
                · rw [if_neg z]
                  exact (h.2.2.2 x y hx hy).1 (((hpr x y hx hy).mp q).resolve_right z)
              · rw [if_neg (fun z => q ((hpr x y hx hy).mpr (Or.inr z)))]
                exact (h.2.2.2 x y hx hy).2 (fun z => q ((hpr x y hx hy).mpr (Or.inl z)))
        · refine ⟨t, ?_, keep (by rw [hcc]; simpa using hl)⟩
          unfold g_K_letGo_50 f_K_letGo_140
          have x4' : f_D_sum F (enD (W u (row k))) (enD (W (row k) w)) (hp K R n s t) = some (enD (ctb row k W u w), hp K R n s t) := x4
          simp only [eN_gi S.N1, Option.bind_some, w1, if_neg ge, if_neg e1', eN_r4 S.N1, w2 u hu, w2 w hw, if_neg e2', if_neg e3', eC_r0 S.C108, gd_ald S.C108.g1 (show u < 16 by omega), gd_ald S.C108.g1 (show row k < 16 by omega), x1, x2, x4', hm_and_some, eC_r1 S.C108, gd_ald S.C108.g18 (show u < 16 by omega), x3, x5, if_neg hl, if_true, nI_1]
      · refine ⟨t, ?_, keep (by unfold ctc; simp [e3])⟩
        unfold g_K_letGo_50 f_K_letGo_140
        simp only [eN_gi S.N1, Option.bind_some, w1, if_neg ge, if_neg e1', eN_r4 S.N1, w2 u hu, w2 w hw, if_neg e2', if_pos (nI_le (show k ≤ rk w by omega) (show rk w < 2 ^ 31 by have := (q2.2.2 w hw).1; omega)), nI_1]
    · refine ⟨t, ?_, keep (by unfold ctc; simp [e2])⟩
      unfold g_K_letGo_50 f_K_letGo_140
      simp only [eN_gi S.N1, Option.bind_some, w1, if_neg ge, if_neg e1', eN_r4 S.N1, w2 u hu, if_pos (nI_le (show k ≤ rk u by omega) (show rk u < 2 ^ 31 by have := (q2.2.2 u hu).1; omega)), nI_1]
theorem lg_in {I0 t : Nat → Nat → Int32} {L : List cE} {u N : Nat} (k38 : Nat → Nat → Int32 → Int32 → Int32 → hm_T → Option hm_T) (S : shD K R o) (H : lgH o m k I0 row rk W) (hlen : (L ++ lu (ctc row rk k W) (cte row k W) m m).length ≤ 1120) (h : LGi (o + 108) m k row rk W I0 t (fun x _ => x < u) (L ++ lu (ctc row rk k W) (cte row k W) m u)) (hu : u < m) (hN : 16 < N) :
    ∃ t', f_K_letGo_50 F k38 N (o + 108) (o + 1) (nI k) (nI (row k)) (nI u) (nI 0) (hp K R n s t) = k38 (o + 108) (o + 1) (nI k) (nI (row k)) (nI (u + 1)) (hp K R n s t') ∧ LGi (o + 108) m k row rk W I0 t' (fun x _ => x < u + 1) (L ++ lu (ctc row rk k W) (cte row k W) m (u + 1)) := by
  have h16 := H.2.1.1
  refine hl_up (fun N w t => f_K_letGo_50 F k38 N (o + 108) (o + 1) (nI k) (nI (row k)) (nI u) (nI w) (hp K R n s t)) (fun z => ∃ t', z = k38 (o + 108) (o + 1) (nI k) (nI (row k)) (nI (u + 1)) (hp K R n s t') ∧ LGi (o + 108) m k row rk W I0 t' (fun x _ => x < u + 1) (L ++ lu (ctc row rk k W) (cte row k W) m (u + 1))) (fun w t => LGi (o + 108) m k row rk W I0 t (fun x y => x < u ∨ (x = u ∧ y < w)) (L ++ lu (ctc row rk k W) (cte row k W) m u ++ lw (ctc row rk k W) (cte row k W) u w)) m ?_ ?_ N 0 t (by omega) (by omega) (h.eq (fun x y _ _ => by omega) (by simp [lw]))
  · intro N w t hw h2
    obtain ⟨t', e1, e2⟩ := lg_step (F := F) (n := n) (s := s) k38 (f_K_letGo_50 F k38 N) S H h2 hu hw (by omega) (fun hc => by
      have := lu_lt (e := cte row k W) hu hw hc
      simp only [List.length_append] at hlen ⊢
      omega) (fun x y => x < u ∨ (x = u ∧ y < w + 1)) (fun x y _ _ => by omega)
    exact Or.inr ⟨t', e2.eq (fun x y _ _ => Iff.rfl) (by simp [lw, List.append_assoc]), e1⟩
  · intro N t h2
    refine ⟨t, ?_, h2.eq (fun x y _ hy => by omega) (by simp [lu, List.append_assoc])⟩
    show g_K_letGo_50 F k38 (f_K_letGo_50 F k38 N) (o + 108) (o + 1) (nI k) (nI (row k)) (nI u) (nI m) (hp K R n s t) = _
    unfold g_K_letGo_50 f_K_letGo_146
    have w1 : t (o + 1) 0 = nI m := by rw [h2.1 _ (by omega) (by omega) (by omega) (fun z => by have := z.1; omega)]; exact H.1
    simp only [eN_gi S.N1, Option.bind_some, w1, if_pos (Int32.le_refl (nI m)), nI_1]
theorem lg_out {I0 : Nat → Nat → Int32} {L : List cE} (hF : 20 ≤ F) (S : shD K R o) (H : lgH o m k I0 row rk W) (hlen : (L ++ lu (ctc row rk k W) (cte row k W) m m).length ≤ 1120) (h0 : hold I0 (o + 108) L) (hW : ∀ x y, x < m → y < m → I0 (o + 108 + 1 + 1 + x) y = enD (W x y)) :
    ∃ t', f_K_letGo_38 F F (o + 108) (o + 1) (nI k) (nI (row k)) (nI 0) (hp K R n s I0) = some (hp K R n s t') ∧ LGi (o + 108) m k row rk W I0 t' (fun _ _ => True) (L ++ lu (ctc row rk k W) (cte row k W) m m) := by
  have h16 := H.2.1.1
  refine hl_up (fun N u t => f_K_letGo_38 F N (o + 108) (o + 1) (nI k) (nI (row k)) (nI u) (hp K R n s t)) (fun z => ∃ t', z = some (hp K R n s t') ∧ LGi (o + 108) m k row rk W I0 t' (fun _ _ => True) (L ++ lu (ctc row rk k W) (cte row k W) m m)) (fun u t => LGi (o + 108) m k row rk W I0 t (fun x _ => x < u) (L ++ lu (ctc row rk k W) (cte row k W) m u)) m ?_ ?_ F 0 I0 (by omega) (by omega) ⟨fun _ _ _ _ _ => rfl, fun _ _ => rfl, by simpa [lu] using h0, fun x y hx hy => ⟨fun q => by omega, fun _ => hW x y hx hy⟩⟩
  · intro N u t hu h2
    have w1 : t (o + 1) 0 = nI m := by rw [h2.1 _ (by omega) (by omega) (by omega) (fun z => by have := z.1; omega)]; exact H.1
    obtain ⟨t', e1, e2⟩ := lg_in (F := F) (n := n) (s := s) (N := F) (f_K_letGo_38 F N) S H hlen h2 hu (by omega)
    refine Or.inr ⟨t', e2, ?_⟩
    show g_K_letGo_38 F (f_K_letGo_38 F N) (o + 108) (o + 1) (nI k) (nI (row k)) (nI u) (hp K R n s t) = _
    unfold g_K_letGo_38
    simp only [eN_gi S.N1, Option.bind_some, w1, if_neg (nI_ge hu (show m < 2 ^ 31 by omega))]
    rw [← nI_0]
    exact e1
  · intro N t h2
    have w1 : t (o + 1) 0 = nI m := by rw [h2.1 _ (by omega) (by omega) (by omega) (fun z => by have := z.1; omega)]; exact H.1
    refine ⟨t, ?_, h2.eq (fun x y hx _ => ⟨fun _ => hx, fun _ => trivial⟩) rfl⟩
    show g_K_letGo_38 F (f_K_letGo_38 F N) (o + 108) (o + 1) (nI k) (nI (row k)) (nI m) (hp K R n s t) = _
    unfold g_K_letGo_38
    simp only [eN_gi S.N1, Option.bind_some, w1, if_pos (Int32.le_refl (nI m))]
end LG
