theorem cW_dg {A : Nat → Nat → Option Nat} {row rk : Nat → Nat} {m : Nat} (h : ∀ x, x < m → A x x = none) : ∀ (j x : Nat), x < m → cW A row rk m j x x = none
  | 0, x, hx => h x hx
  | j + 1, x, hx => by
    show ctW _ _ _ _ x x = none
    unfold ctW
    rw [if_neg (by unfold ctc; simp)]
    exact cW_dg h j x hx
/-- the reference's ints as the nodes of rank i and more have gone -/
def RCo (q m : Nat) (I0 t : Nat → Nat → Int32) (A : Nat → Nat → Option Nat) (row rk : Nat → Nat) (i : Nat) : Prop :=
  i ≤ m ∧ (∀ x, (x < q ∨ (q < x ∧ x ≤ q + 7) ∨ x = q + 12 ∨ q + 16 < x) → t x = I0 x) ∧ (∀ j, j ≠ 16 → t q j = I0 q j) ∧ (∀ x, x < m → t (q + 8) x = if i ≤ rk x then 1 else 0) ∧ (∀ x y, x < m → y < m → t (q + 9) (16 * x + y) = enR (cW A row rk m (m - i) x y)) ∧ (∀ x y, x < m → y < m → t (q + 11) (16 * x + y) = if i ≤ rk x ∨ i ≤ rk y then enR (cW A row rk m (m - i) x y) else nI 1000000) ∧ holdR t q (cL A row rk m (m - i))
section RO
variable {K : Nat → Option ((Nat ⊕ Nat) × Nat)} {R : Nat → Nat → Option Nat} {n s F q m : Nat} {I : Nat → Nat → Int32} {row rk : Nat → Nat} {A : Nat → Nat → Option Nat}
theorem ro_stage {I0 t : Nat → Nat → Int32} {i : Nat} (k47 : Nat → Int32 → hm_T → Option hm_T) (hF : 1200 ≤ F) (S : shR K R q) (hm : I0 q 1 = nI m) (hp0 : prm m row rk) (hrow : ∀ i, i < m → I0 (q + 2) i = nI (row i)) (hdg : ∀ x, x < m → A x x = none) (hB : ∀ j, j ≤ m → ∀ x y, x < m → y < m → on_ok 15000 (cW A row rk m j x y)) (hG : ∀ j, j ≤ m → ∀ (ok : Nat → Bool) (k x y : Nat), k ≤ m → x < m → y < m → on_ok 499999 (fwG (cW A row rk m j) ok k x y)) (hlen : (cL A row rk m m).length ≤ 1120) (h : RCo q m I0 t A row rk (i + 1)) :
    ∃ t', g_R_contract_47 F k47 q (nI i) (hp K R n s t) = k47 q (nI i - 1) (hp K R n s t') ∧ RCo q m I0 t' A row rk i := by
  obtain ⟨p1, p2, p3, p4, p5, p6, p7⟩ := h
  have h16 := hp0.1
  have hi : i < m := by omega
  have hrk := hp0.2.1 i hi
  have ej : m - i = (m - (i + 1)) + 1 := by omega
  have ek : m - 1 - (m - (i + 1)) = i := by omega
  have hl2 : (cL A row rk m (m - (i + 1)) ++ lu (ctc row rk i (cW A row rk m (m - (i + 1)))) (cte row i (cW A row rk m (m - (i + 1)))) m m).length ≤ 1120 := by
    have h1 := cL_mono (A := A) (row := row) (rk := rk) (m := m) (show m - (i + 1) + 1 ≤ m by omega)
    have h2 : cL A row rk m (m - (i + 1) + 1) = cL A row rk m (m - (i + 1)) ++ lu (ctc row rk (m - 1 - (m - (i + 1))) (cW A row rk m (m - (i + 1)))) (cte row (m - 1 - (m - (i + 1))) (cW A row rk m (m - (i + 1)))) m m := rfl
    rw [ek] at h2
    rw [← h2]
    omega
  have eW : cW A row rk m (m - i) = ctW row rk i (cW A row rk m (m - (i + 1))) := by rw [ej]; show ctW _ _ (m - 1 - (m - (i + 1))) _ = _; rw [ek]
  have eL : cL A row rk m (m - i) = cL A row rk m (m - (i + 1)) ++ lu (ctc row rk i (cW A row rk m (m - (i + 1)))) (cte row i (cW A row rk m (m - (i + 1)))) m m := by rw [ej]; show cL A row rk m (m - (i + 1)) ++ lu (ctc _ _ (m - 1 - (m - (i + 1))) _) _ _ _ = _; rw [ek]
  have hdW : ∀ x, x < m → cW A row rk m (m - (i + 1)) x x = none := cW_dg hdg _
  have hBW := hB (m - (i + 1)) (by omega)
  have hGW := hG (m - (i + 1)) (by omega)
  unfold RCo
  rw [eW, eL]
  generalize cW A row rk m (m - (i + 1)) = W at *
  generalize cL A row rk m (m - (i + 1)) = L at *
  have w1 : t q 1 = nI m := by rw [p3 1 (by decide)]; exact hm
  have x2 : hm_ild (hp K R n s t) (q + 2) (nI i) = some (nI (row i)) := by rw [hp_ild S.K2 (by omega) (by omega), p2 _ (by omega), hrow i hi]
  have hok : ∀ x, x < m → ((fun x => decide (rk x < i)) x = true ↔ ¬ nI x = nI (row i) ∧ t (q + 8) x = 0) := fun x hx => by
    rw [p4 x hx, nI_eq (by omega) (by omega)]
    by_cases e1 : i + 1 ≤ rk x
    · rw [if_pos e1]
      simp
      omega
    · rw [if_neg e1]
      simp
      constructor
      · intro z e; rw [e, hrk.2] at z; omega
      · intro z
        have : rk x ≠ i := fun e => z (by rw [← e]; exact ((hp0.2.2 x hx).2).symm)
        omega
  obtain ⟨t1, e1, f1, g1⟩ := R_fill (F := F) (n := n) (s := s) (R := R) (I := t) (x3 := nI (row i)) (T := W) (ok := fun x => decide (rk x < i)) (by omega) S.K0 S.K9 S.K10 S.K8 (show q + 10 ≠ q by omega) (show q + 10 ≠ q + 8 by omega) (show q + 9 ≠ q + 10 by omega) h16 w1 p5 hok (fun k hk x y hx hy => hGW _ k x y hk hx hy)
  have hH : rcH q m i t1 row rk W := by
    refine ⟨by rw [f1 _ (by omega)]; exact w1, hp0, hi, fun x hx => ?_, fun x y hx hy => ⟨by rw [f1 _ (by omega)]; exact p5 x y hx hy, hBW x y hx hy⟩, fun x y hx hy => ?_⟩
    · rw [f1 _ (by omega), p4 x hx]
      rfl
    · have := fw_eq (ok := fun x => decide (rk x < i)) (W := W) hp0 (show i ≤ m by omega) (fun x hx => by simp) x y
      rw [← this]
      exact ⟨g1 x y hx hy, hGW _ m x y (Nat.le_refl _) hx hy⟩
  have hh1 : holdR t1 q L := ⟨by rw [f1 _ (by omega)]; exact p7.1, fun j x hx => by rw [f1 _ (by omega), f1 _ (by omega), f1 _ (by omega), f1 _ (by omega)]; exact p7.2 j x hx⟩
  obtain ⟨t2, e2, r1, r2, r3⟩ := rc_u (F := F) (n := n) (s := s) (x1 := nI i) (x3 := nI L.length) k47 (by omega) S hH hl2 hh1
  have hg2 : ∀ x, x < m → t2 (q + 8) x = if i < rk x then 1 else 0 := fun x hx => by rw [r1 _ (by omega)]; exact hH.2.2.2.1 x hx
  obtain ⟨t3, e3, f3, g3⟩ := rk_kept (F := F) (n := n) (s := s) (x1 := nI i) (x3 := nI L.length) k47 (by omega) S (by rw [r2 1 (by decide)]; exact hH.1) hp0 hi hg2
  have hh3 : holdR t3 q (L ++ lu (ctc row rk i W) (cte row i W) m m) := ⟨by rw [f3 _ (by omega)]; exact r3.1, fun j x hx => by rw [f3 _ (by omega), f3 _ (by omega), f3 _ (by omega), f3 _ (by omega)]; exact r3.2 j x hx⟩
  have ctS : ∀ u w, ctc row rk i W u w = true → nI ((ctb row i W u w).getD 0) = enR (ctb row i W u w) := fun u w hc => by
    cases hb : ctb row i W u w with
    | none =>
      unfold ctc at hc
      rw [hb] at hc
      cases hf : fwI W row i u w <;> simp [hf, on_lt] at hc
    | some d => rfl
  obtain ⟨t4, e4, f4, g4⟩ := rk_list (F := F) (n := n) (s := s) (x1 := nI i) (k := i) (row := row) (f := fun u w => enR (ctb row i W u w)) k47 hF S hl2 hh3 (fun e he => by
    obtain ⟨u, w, a1, a2, a3, rfl⟩ := (mem_lu m).mp he
    exact ⟨show u < 16 by omega, show w < 16 by omega, ctS u w a3⟩)
  have fr : ∀ x, x ≠ q + 9 → x ≠ q + 11 → t4 x = t2 x := fun x a b => (f4 x a).trans (f3 x b)
  have fr2 : ∀ x, (x < q ∨ (q < x ∧ x ≤ q + 8) ∨ x = q + 12 ∨ q + 16 < x) → t4 x = t x := fun x hx => (fr x (by omega) (by omega)).trans ((r1 x (by omega)).trans (f1 x (by omega)))
  refine ⟨up2 t4 (q + 8) (row i) 1, ?_, by omega, fun x hx => ?_, fun j hj => ?_, fun x hx => ?_, fun x y hx hy => ?_, fun x y hx hy => ?_, ?_⟩
  · unfold g_R_contract_47
    have w16 : t1 q 16 = nI L.length := hh1.1
    simp only [if_neg (nI_pos (show i < 2 ^ 31 by omega)), eR_r3 S, Option.bind_some, x2, eR_r12 S, eR_r13 S, eR_r11 S, eR_is S, e1, eR_gi S, w16]
    rw [← nI_0, e2, e3, e4]
    unfold f_R_contract_402
    simp only [eR_r11 S, Option.bind_some, hp_zst S.K8 (show row i < 16 by omega) (show 16 < 2 ^ 31 by omega) (Or.inr rfl), nI_dec]
  · rw [up2_ne (by omega), fr2 x (by omega)]; exact p2 x hx
  · rw [up2_ne (by omega), fr _ (by omega) (by omega), r2 j hj, f1 _ (by omega)]; exact p3 j hj
  · rw [up2_eq]
    by_cases e : x = row i
    · rw [if_pos ⟨rfl, e⟩, if_pos (by rw [e, hrk.2]; omega)]
    · rw [if_neg (fun z => e z.2), fr2 _ (by omega), p4 x hx]
      have : rk x ≠ i := fun z => e (by rw [← z]; exact ((hp0.2.2 x hx).2).symm)
      by_cases z : i + 1 ≤ rk x
      · rw [if_pos z, if_pos (by omega)]
      · rw [if_neg z, if_neg (by omega)]
  · rw [up2_ne (by omega)]
    have := g4 x y (by omega) (by omega)
    by_cases hc : ctc row rk i W x y = true
    · rw [this.1 ⟨cte row i W x y, (mem_lu m).mpr ⟨x, y, hx, hy, hc, rfl⟩, rfl, rfl⟩]
      unfold ctW
      rw [if_pos hc]
    · rw [this.2 (fun ⟨e, he, a3, a4⟩ => by
        obtain ⟨u, w, b1, b2, b3, rfl⟩ := (mem_lu m).mp he
        have a3' : u = x := a3
        have a4' : w = y := a4
        subst a3' a4'
        exact hc b3), f3 _ (by omega), r1 _ (by omega), f1 _ (by omega)]
      unfold ctW
      rw [if_neg hc]
      exact p5 x y hx hy
  · rw [up2_ne (by omega), f4 _ (by omega), g3 x y hx hy]
    have hxx : x = row i ↔ rk x = i := ⟨fun e => by rw [e]; exact hrk.2, fun e => by rw [← e]; exact ((hp0.2.2 x hx).2).symm⟩
    have hyy : y = row i ↔ rk y = i := ⟨fun e => by rw [e]; exact hrk.2, fun e => by rw [← e]; exact ((hp0.2.2 y hy).2).symm⟩
    by_cases c1 : (rk x < i ∧ y = row i) ∨ (x = row i ∧ rk y < i)
    · rw [if_pos c1, r1 _ (by omega), f1 _ (by omega), p5 x y hx hy]
      have c2 : i ≤ rk x ∨ i ≤ rk y := by omega
      rw [if_pos c2, ctW_l (by omega)]
    · rw [if_neg c1, r1 _ (by omega), f1 _ (by omega), p6 x y hx hy]
      by_cases c2 : i + 1 ≤ rk x ∨ i + 1 ≤ rk y
      · rw [if_pos c2, if_pos (by omega), ctW_l (by omega)]
      · rw [if_neg c2]
        by_cases c3 : i ≤ rk x ∨ i ≤ rk y
        · rw [if_pos c3, ctW_l (by omega)]
          have : x = y := by
            have e1 : rk x = i := by omega
            have e2 : rk y = i := by omega
            rw [hxx.mpr e1, hyy.mpr e2]
          rw [this, hdW y hy]
          rfl
        · rw [if_neg c3]
  · refine ⟨?_, fun j x hx => ?_⟩
    · rw [up2_ne (by omega), fr _ (by omega) (by omega)]; exact r3.1
    · rw [up2_ne (by omega), up2_ne (by omega), up2_ne (by omega), up2_ne (by omega), fr _ (by omega) (by omega), fr _ (by omega) (by omega), fr _ (by omega) (by omega), fr _ (by omega) (by omega)]
      exact r3.2 j x hx
theorem R_contr (hF : 1200 ≤ F) (S : shR K R q) (hm : I q 1 = nI m) (hp0 : prm m row rk) (hrow : ∀ i, i < m → I (q + 2) i = nI (row i)) (hA : ∀ x y, x < m → y < m → I (q + 1) (16 * x + y) = enR (A x y)) (hg : ∀ x, x < m → I (q + 8) x = 0) (hdg : ∀ x, x < m → A x x = none) (hB : ∀ j, j ≤ m → ∀ x y, x < m → y < m → on_ok 15000 (cW A row rk m j x y)) (hG : ∀ j, j ≤ m → ∀ (ok : Nat → Bool) (k x y : Nat), k ≤ m → x < m → y < m → on_ok 499999 (fwG (cW A row rk m j) ok k x y)) (hlen : (cL A row rk m m).length ≤ 1120) :
    ∃ t', f_R_contract F q (hp K R n s I) = f_R_contract_415 F q (hp K R n s t') ∧ RCo q m I t' A row rk 0 := by
  have h16 := hp0.1
  -- the way down
  have down : ∀ t : Nat → Nat → Int32, RCo q m I t A row rk m → ∃ t', f_R_contract_47 F F q (nI m - 1) (hp K R n s t) = f_R_contract_415 F q (hp K R n s t') ∧ RCo q m I t' A row rk 0 := by
    intro t0 h0
    refine hl_dn (fun N i t => f_R_contract_47 F N q (nI i - 1) (hp K R n s t)) (fun z => ∃ t', z = f_R_contract_415 F q (hp K R n s t') ∧ RCo q m I t' A row rk 0) (fun i t => RCo q m I t A row rk i) 0 ?_ ?_ F m t0 (by omega) (by omega) h0
    · intro N i t _ h
      obtain ⟨t', e1, e2⟩ := ro_stage (F := F) (n := n) (s := s) (R := R) (f_R_contract_47 F N) hF S hm hp0 hrow hdg hB hG hlen h
      refine Or.inr ⟨t', e2, ?_⟩
      show g_R_contract_47 F (f_R_contract_47 F N) q (nI (i + 1) - 1) (hp K R n s t) = _
      rw [nI_pred]
      exact e1
    · intro N t h
      refine ⟨t, ?_, h⟩
      show g_R_contract_47 F (f_R_contract_47 F N) q (nI 0 - 1) (hp K R n s t) = _
      unfold g_R_contract_47
      rw [if_pos (by decide +kernel)]
  unfold f_R_contract
  rw [eR_pi S, Option.bind_some, ← nI_0]
  refine hl_up (fun N j t => f_R_contract_7 F N q (nI j) (hp K R n s t)) (fun z => ∃ t', z = f_R_contract_415 F q (hp K R n s t') ∧ RCo q m I t' A row rk 0) (fun j t => (∀ x, x ≠ q → x ≠ q + 9 → x ≠ q + 11 → t x = I x) ∧ (∀ j, j ≠ 16 → t q j = I q j) ∧ t q 16 = nI 0 ∧ ∀ i, i < j → t (q + 9) i = I (q + 1) i ∧ t (q + 11) i = nI 1000000) 256 ?_ ?_ F 0 _ (by omega) (by omega) ⟨fun x a _ _ => up2_ne a, fun j hj => up2_nj hj, up2_at _ _ _ _, fun i h => by omega⟩
  · intro N j t hj ⟨h1, h2, h3, h4⟩
    refine Or.inr ⟨up2 (up2 t (q + 9) j (I (q + 1) j)) (q + 11) j (nI 1000000), ⟨fun x a b c => by rw [up2_ne c, up2_ne b]; exact h1 x a b c, fun i hi => by rw [up2_ne (by omega), up2_ne (by omega)]; exact h2 i hi, by rw [up2_ne (by omega), up2_ne (by omega)]; exact h3, fun i hi => ?_⟩, ?_⟩
    · by_cases e : i = j
      · subst e
        exact ⟨by rw [up2_ne (by omega), up2_at], up2_at _ _ _ _⟩
      · have := h4 i (by omega)
        exact ⟨by rw [up2_ne (by omega), up2_nj e]; exact this.1, by rw [up2_nj e, up2_ne (by omega)]; exact this.2⟩
    · show g_R_contract_7 F (f_R_contract_7 F N) q (nI j) (hp K R n s t) = _
      unfold g_R_contract_7
      simp only [if_neg (show ¬ (256 : Int32) ≤ nI j by rw [n_256]; exact nI_ge hj (by omega)), eR_r12 S, eR_r2 S, Option.bind_some, hp_ild S.K1 hj (show 256 < 2 ^ 31 by omega), hp_ist S.K9 hj (show 256 < 2 ^ 31 by omega), eR_r14 S, hp_ist S.K11 hj (show 256 < 2 ^ 31 by omega), h1 (q + 1) (show q + 1 ≠ q by omega) (show q + 1 ≠ q + 9 by omega) (show q + 1 ≠ q + 11 by omega), nI_1, n_far]
  · intro N t ⟨h1, h2, h3, h4⟩
    obtain ⟨t', e1, e2⟩ := down t ⟨Nat.le_refl _, fun x hx => h1 x (by omega) (by omega) (by omega), h2, fun x hx => by rw [if_neg (by have := (hp0.2.2 x hx).1; omega), h1 _ (by omega) (by omega) (by omega)]; exact hg x hx, fun x y hx hy => by rw [(h4 _ (by omega)).1, Nat.sub_self]; exact hA x y hx hy, fun x y hx hy => by rw [(h4 _ (by omega)).2, if_neg (by have := (hp0.2.2 x hx).1; have := (hp0.2.2 y hy).1; omega)], by rw [Nat.sub_self]; exact ⟨h3, fun i x hx => by simp [cL] at hx⟩⟩
    refine ⟨t', ?_, e2⟩
    show g_R_contract_7 F (f_R_contract_7 F N) q (nI 256) (hp K R n s t) = _
    unfold g_R_contract_7 f_R_contract_40
    rw [if_pos (by rw [n_256]; exact Int32.le_refl _), eR_gi S, Option.bind_some, h2 1 (by decide), hm, ← n_1.symm]
    exact e1
end RO
