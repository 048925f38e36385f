/-! THE REFERENCE: make's long loop -/
theorem enS_inj {x y : Option Nat} (hx : on_ok 2000000 x) (hy : on_ok 2000000 y) : enS x = enS y ↔ x = y := by
  refine ⟨fun q => ?_, fun q => by rw [q]⟩
  cases x with
  | none =>
    cases y with
    | none => rfl
    | some b =>
      have := hy b rfl
      have q2 : nI 0 = nI (b + 1) := by rw [nI_0]; exact q
      rw [nI_eq (by omega) (by omega)] at q2
      omega
  | some a =>
    have := hx a rfl
    cases y with
    | none =>
      have q2 : nI (a + 1) = nI 0 := by rw [nI_0]; exact q
      rw [nI_eq (by omega) (by omega)] at q2
      omega
    | some b =>
      have := hy b rfl
      have q2 : nI (a + 1) = nI (b + 1) := q
      rw [nI_eq (by omega) (by omega)] at q2
      rw [show a = b by omega]
theorem enS_le {x : Option Nat} (hx : on_ok 2000000 x) : (enS x ≤ 0 ↔ x = none) := by
  cases x with
  | none => exact ⟨fun _ => rfl, fun _ => Int32.le_refl _⟩
  | some a =>
    have := hx a rfl
    simp only [enS]
    exact ⟨fun z => absurd z (nI_nle (by omega) (by omega)), fun z => by cases z⟩
/-- the station of place k, behind make and before it -/
def nS (m : Nat) (f g : Nat → Nat → Option Nat) (k : Nat) : Option Nat := if k / 16 % 16 < m ∧ k % 16 < m then (if k / 256 = 0 then f (k / 16 % 16) (k % 16) else g (k / 16 % 16) (k % 16)) else none
section RM
variable {K : Nat → Option ((Nat ⊕ Nat) × Nat)} {R : Nat → Nat → Option Nat} {n s F q m : Nat} {I : Nat → Nat → Int32} {row rk : Nat → Nat} {D : Nat → Nat → Option Nat}
/-- the ints of the reference while the labels are laid: places below k are through -/
def RMi (q : Nat) (I0 t : Nat → Nat → Int32) (new old : Nat → Option Nat) (k ch : Nat) : Prop :=
  (∀ x, x ≠ q → x ≠ q + 5 → x ≠ q + 6 → x ≠ q + 7 → t x = I0 x) ∧ (∀ j, j ≠ 10 → t q j = I0 q j) ∧ t q 10 = nI ch ∧
  ∀ j, j < 512 → (j < k → t (q + 5) j = enS (new j) ∧ t (q + 7) j = enS (new j)) ∧ (¬ j < k → t (q + 5) j = enS (old j))
theorem rm_step {I0 t : Nat → Nat → Int32} {old : Nat → Option Nat} {k c ch : Nat} (k80 : Nat → Int32 → Int32 → hm_T → Option (Int32 × hm_T)) (hF : 20 ≤ F) (S : shR K R q) (H : rD q m I0 row rk D) (ho : ∀ j, j < 512 → on_ok 2000000 (old j)) (hk : k < 512) (h : RMi q I0 t (nS m (sO D row rk) (sI D row rk)) old k ch) :
    ∃ t', g_R_make_80 F k80 q (nI c) (nI k) (hp K R n s t) = k80 q (nI (c + cnt (nS m (sO D row rk) (sI D row rk) k))) (nI (k + 1)) (hp K R n s t') ∧ RMi q I0 t' (nS m (sO D row rk) (sI D row rk)) old (k + 1) (ch + chgN (old k) (nS m (sO D row rk) (sI D row rk) k)) := by
  obtain ⟨h1, h2, h3, h4⟩ := h
  have h16 := H.2.1.1
  have d1 : nI k / (256 : Int32) = nI (k / 256) := by rw [n_256]; exact pk_div (by omega) (by omega) (by omega)
  have d2 : nI k / (16 : Int32) = nI (k / 16) := by rw [n_16]; exact pk_div (by omega) (by omega) (by omega)
  have d3 : nI (k / 16) - nI (k / 16) / (16 : Int32) * (16 : Int32) = nI (k / 16 % 16) := by rw [n_16]; exact pk_rem (by omega) (by omega) (by omega)
  have d4 : nI k - nI (k / 16) * (16 : Int32) = nI (k % 16) := by rw [← d2, n_16]; exact pk_rem (by omega) (by omega) (by omega)
  -- the new value at k
  have hnb : on_ok 499999 (nS m (sO D row rk) (sI D row rk) k) := by
    unfold nS
    split
    · rename_i z
      split
      · exact sO_ok (H.2.2.2 _ _ z.1 z.2).2
      · exact sI_ok (H.2.2.2 _ _ z.2 z.1).2
    · intro d w; cases w
  generalize hnew : nS m (sO D row rk) (sI D row rk) k = new at hnb ⊢
  have hok2 := on_ok_mono hnb (show 499999 ≤ 2000000 by omega)
  -- the state with 'before' written
  have old5 : t (q + 5) k = enS (old k) := (h4 k hk).2 (by omega)
  -- the tail: from 206 on, for the value v written, with the flag
  have tail : ∀ (fl : Int32) (v : Int32), v = enS new → (fl = 0 ↔ new = none) → f_R_make_206 F k80 q (nI c) (nI k) fl v (nI k) (q + 5) (hp K R n s (up2 t (q + 6) k (enS (old k)))) = k80 q (nI (c + cnt new)) (nI (k + 1)) (hp K R n s (up2 (up2 (up2 (up2 t (q + 6) k (enS (old k))) (q + 5) k (enS new)) (q + 7) k (enS new)) q 10 (nI (ch + chgN (old k) new)))) := by
    intro fl v hv hfl
    subst hv
    unfold f_R_make_206
    have l1 : hm_ild (hp K R n s (up2 (up2 t (q + 6) k (enS (old k))) (q + 5) k (enS new))) (q + 5) (nI k) = some (enS new) := by rw [hp_ild S.K5 hk (by omega), up2_at]
    have l2 : hm_ild (hp K R n s (up2 (up2 (up2 t (q + 6) k (enS (old k))) (q + 5) k (enS new)) (q + 7) k (enS new))) (q + 6) (nI k) = some (enS (old k)) := by rw [hp_ild S.K6 hk (by omega), up2_ne (by omega), up2_ne (by omega), up2_at]
    have l3 : hm_ild (hp K R n s (up2 (up2 (up2 t (q + 6) k (enS (old k))) (q + 5) k (enS new)) (q + 7) k (enS new))) (q + 5) (nI k) = some (enS new) := by rw [hp_ild S.K5 hk (by omega), up2_ne (by omega), up2_at]
    have l4 : up2 (up2 (up2 t (q + 6) k (enS (old k))) (q + 5) k (enS new)) (q + 7) k (enS new) q 10 = nI ch := by rw [up2_ne (by omega), up2_ne (by omega), up2_ne (by omega)]; exact h3
    have e1 := enS_le (ho k hk)
    have e2 := enS_le hok2
    have e3 := enS_inj (ho k hk) hok2
    simp only [hp_ist S.K5 hk (show 512 < 2 ^ 31 by omega), Option.bind_some, eR_r9 S, eR_r7 S, l1, hp_ist S.K7 hk (show 512 < 2 ^ 31 by omega)]
    have fin : ∀ (cc : Int32), f_R_make_231 F k80 q (nI k) cc (hp K R n s (up2 (up2 (up2 t (q + 6) k (enS (old k))) (q + 5) k (enS new)) (q + 7) k (enS new))) = k80 q cc (nI (k + 1)) (hp K R n s (up2 (up2 (up2 (up2 t (q + 6) k (enS (old k))) (q + 5) k (enS new)) (q + 7) k (enS new)) q 10 (nI (ch + chgN (old k) new)))) := by
      intro cc
      unfold f_R_make_231 f_R_make_246 f_R_make_260 f_R_make_293 chgN
      simp only [eR_r8 S, Option.bind_some, l2, eR_r7 S, l3, eR_gi S, l4, e1, e2, e3, eR_pi S, nI_1]
      by_cases c1 : old k = none <;> by_cases c2 : new = none
      · simp [c1, c2]
      · simp [c1, c2, Ne.symm c2, nI_1, n_1, nI_add, ← nI_0, Nat.add_comm]
      · simp [c1, c2, nI_1, n_1, nI_add, ← nI_0, Nat.add_comm]
      · by_cases c3 : old k = new
        · simp [c1, c2, c3]
        · simp [c1, c2, c3, n_1, nI_add]
    unfold cnt
    by_cases z : new = none
    · rw [if_pos (hfl.mpr z), if_pos z]; exact fin _
    · rw [if_neg (fun w => z (hfl.mp w)), if_neg z]
      have := fin (nI c + 1)
      rw [this, nI_1]
  refine ⟨up2 (up2 (up2 (up2 t (q + 6) k (enS (old k))) (q + 5) k (enS new)) (q + 7) k (enS new)) q 10 (nI (ch + chgN (old k) new)), ?_, ?_⟩
  · have l0 : hm_ild (hp K R n s t) (q + 5) (nI k) = some (enS (old k)) := by rw [hp_ild S.K5 hk (by omega), old5]
    have w1 : up2 t (q + 6) k (enS (old k)) q 1 = nI m := by rw [up2_ne (by omega), h2 1 (by decide)]; exact H.1
    have hrD : rD q m (up2 t (q + 6) k (enS (old k))) row rk D := ⟨w1, H.2.1, fun i hi => by rw [up2_ne (by omega), h1 _ (by omega) (by omega) (by omega) (by omega)]; exact H.2.2.1 i hi, fun x y hx hy => by rw [up2_ne (by omega), h1 _ (by omega) (by omega) (by omega) (by omega)]; exact H.2.2.2 x y hx hy⟩
    have z154 : new = none → ∀ (a b c2 : Int32), f_R_make_154 F k80 q (nI c) (nI k) a b c2 (hp K R n s (up2 t (q + 6) k (enS (old k)))) = k80 q (nI (c + cnt new)) (nI (k + 1)) (hp K R n s (up2 (up2 (up2 (up2 t (q + 6) k (enS (old k))) (q + 5) k (enS new)) (q + 7) k (enS new)) q 10 (nI (ch + chgN (old k) new)))) := fun hz a b c2 => by
      unfold f_R_make_154 f_R_make_155
      simp only [eR_r7 S, Option.bind_some, if_true]
      exact tail 0 0 (by rw [hz]; rfl) ⟨fun _ => hz, fun _ => rfl⟩
    unfold g_R_make_80
    have n256 : ¬ (256 : Int32) = 0 := by decide
    have n16 : ¬ (16 : Int32) = 0 := by decide
    have n512 : ¬ (512 : Int32) ≤ nI k := by rw [n_512]; exact nI_ge hk (by omega)
    simp only [if_neg n512, if_neg n256, if_neg n16, eR_r8 S, Option.bind_some, eR_r7 S, l0, hp_ist S.K6 hk (show 512 < 2 ^ 31 by omega), eR_gi S, w1, d2, d3, d4, d1, eR_is S]
    by_cases v1 : k / 16 % 16 < m
    · rw [if_neg (nI_ge v1 (by omega))]
      by_cases v2 : k % 16 < m
      · rw [if_neg (nI_ge v2 (by omega))]
        have hk2 : k / 256 = 0 ∨ k / 256 = 1 := by omega
        rcases hk2 with sd | sd
        · have hn2 : new = sO D row rk (k / 16 % 16) (k % 16) := by rw [← hnew]; unfold nS; rw [if_pos ⟨v1, v2⟩, if_pos sd]
          have r0 := R_st0 (F := F) (n := n) (s := s) (R := R) hF S hrD v1 v2
          rw [sd, r0, hm_and_some, ← hn2]
          by_cases z : new = none
          · rw [if_pos z, if_pos rfl]; exact z154 z _ _ _
          · rw [if_neg z, if_neg (show ¬ (1 : Int32) = 0 by decide)]
            unfold f_R_make_155 f_R_make_205
            have hD : D (k / 16 % 16) (k % 16) = new := by
              rw [hn2]
              have := hn2 ▸ z
              unfold sO at this ⊢
              split
              · rfl
              · rename_i w; rw [if_neg w] at this; exact absurd rfl this
            simp only [eR_r7 S, Option.bind_some, if_neg (show ¬ (1 : Int32) = 0 by decide), if_pos nI_0, eR_r6 S, hrD.far S v1 v2, hD]
            refine tail 1 _ ?_ ⟨fun w => absurd w (by decide), fun w => absurd w z⟩
            cases new with
            | none => exact absurd rfl z
            | some d => show (1 : Int32) + nI d = nI (d + 1); rw [n_1, nI_add, Nat.add_comm]
        · have hn2 : new = sI D row rk (k / 16 % 16) (k % 16) := by rw [← hnew]; unfold nS; rw [if_pos ⟨v1, v2⟩, if_neg (by omega)]
          have r0 := R_st1 (F := F) (n := n) (s := s) (R := R) hF S hrD v1 v2
          rw [sd, r0, hm_and_some, ← hn2]
          by_cases z : new = none
          · rw [if_pos z, if_pos rfl]; exact z154 z _ _ _
          · rw [if_neg z, if_neg (show ¬ (1 : Int32) = 0 by decide)]
            unfold f_R_make_155 f_R_make_205
            have hD : D (k % 16) (k / 16 % 16) = new := by
              rw [hn2]
              have := hn2 ▸ z
              unfold sI at this ⊢
              split
              · rfl
              · rename_i w; rw [if_neg w] at this; exact absurd rfl this
            simp only [eR_r7 S, Option.bind_some, if_neg (show ¬ (1 : Int32) = 0 by decide), if_neg (show ¬ nI 1 = 0 by decide +kernel), eR_r6 S, hrD.far S v2 v1, hD]
            refine tail 1 _ ?_ ⟨fun w => absurd w (by decide), fun w => absurd w z⟩
            cases new with
            | none => exact absurd rfl z
            | some d => show (1 : Int32) + nI d = nI (d + 1); rw [n_1, nI_add, Nat.add_comm]
      · rw [if_pos (nI_le (show m ≤ k % 16 by omega) (by omega))]
        exact z154 (by rw [← hnew]; unfold nS; rw [if_neg (by omega)]) _ _ _
    · rw [if_pos (nI_le (show m ≤ k / 16 % 16 by omega) (by omega))]
      exact z154 (by rw [← hnew]; unfold nS; rw [if_neg (by omega)]) _ _ _
  · refine ⟨fun x a1 a2 a3 a4 => by rw [up2_ne a1, up2_ne a4, up2_ne a2, up2_ne a3]; exact h1 x a1 a2 a3 a4, fun j hj => by rw [up2_nj hj, up2_ne (by omega), up2_ne (by omega), up2_ne (by omega)]; exact h2 j hj, up2_at _ _ _ _, fun j hj => ⟨fun z => ?_, fun z => ?_⟩⟩
    · by_cases e : j = k
      · subst e
        rw [hnew]
        exact ⟨by rw [up2_ne (by omega), up2_ne (by omega), up2_at], by rw [up2_ne (by omega), up2_at]⟩
      · have := (h4 j hj).1 (by omega)
        exact ⟨by rw [up2_ne (by omega), up2_ne (by omega), up2_nj e, up2_ne (by omega)]; exact this.1, by rw [up2_ne (by omega), up2_nj e, up2_ne (by omega), up2_ne (by omega)]; exact this.2⟩
    · rw [up2_ne (by omega), up2_ne (by omega), up2_nj (by omega), up2_ne (by omega)]
      exact (h4 j hj).2 (by omega)
theorem rm_loop {I0 : Nat → Nat → Int32} {old : Nat → Option Nat} (hF : 600 ≤ F) (S : shR K R q) (H : rD q m I0 row rk D) (ho : ∀ j, j < 512 → on_ok 2000000 (old j)) (h5 : ∀ j, j < 512 → I0 (q + 5) j = enS (old j)) (h10 : I0 q 10 = nI 0) :
    ∃ t', f_R_make_80 F F q (nI 0) (nI 0) (hp K R n s I0) = f_R_make_302 F q (nI (sm (fun k => cnt (nS m (sO D row rk) (sI D row rk) k)) 512)) (hp K R n s t') ∧ RMi q I0 t' (nS m (sO D row rk) (sI D row rk)) old 512 (sm (fun k => chgN (old k) (nS m (sO D row rk) (sI D row rk) k)) 512) := by
  refine hl_up (fun N k (z : Nat × (Nat → Nat → Int32)) => f_R_make_80 F N q (nI z.1) (nI k) (hp K R n s z.2)) (fun z => ∃ t', z = f_R_make_302 F q (nI (sm (fun k => cnt (nS m (sO D row rk) (sI D row rk) k)) 512)) (hp K R n s t') ∧ RMi q I0 t' (nS m (sO D row rk) (sI D row rk)) old 512 (sm (fun k => chgN (old k) (nS m (sO D row rk) (sI D row rk) k)) 512)) (fun k z => z.1 = sm (fun k => cnt (nS m (sO D row rk) (sI D row rk) k)) k ∧ RMi q I0 z.2 (nS m (sO D row rk) (sI D row rk)) old k (sm (fun k => chgN (old k) (nS m (sO D row rk) (sI D row rk) k)) k)) 512 ?_ ?_ F 0 (0, I0) (by omega) (by omega) ⟨rfl, fun _ _ _ _ _ => rfl, fun _ _ => rfl, h10, fun j hj => ⟨fun z => by omega, fun _ => h5 j hj⟩⟩
  · intro N k z hk ⟨p1, p2⟩
    obtain ⟨c1, t1⟩ := z
    obtain ⟨t', e1, e2⟩ := rm_step (F := F) (n := n) (s := s) (c := c1) (f_R_make_80 F N) (by omega) S H ho hk p2
    refine Or.inr ⟨(c1 + cnt (nS m (sO D row rk) (sI D row rk) k), t'), ⟨?_, e2⟩, e1⟩
    show c1 + _ = sm _ (k + 1)
    rw [show c1 = sm (fun k => cnt (nS m (sO D row rk) (sI D row rk) k)) k from p1]
    rfl
  · intro N z ⟨p1, p2⟩
    obtain ⟨c1, t1⟩ := z
    refine ⟨t1, ?_, p2⟩
    show g_R_make_80 F (f_R_make_80 F N) q (nI c1) (nI 512) (hp K R n s t1) = _
    unfold g_R_make_80
    rw [if_pos (by rw [n_512]; exact Int32.le_refl _), show c1 = sm (fun k => cnt (nS m (sO D row rk) (sI D row rk) k)) 512 from p1]
end RM
