section SA
variable {K : Nat → Option ((Nat ⊕ Nat) × Nat)} {R : Nat → Nat → Option Nat} {n s F : Nat} {I : Nat → Nat → Int32}
/-- a grid holds lengths between the first m nodes of the row, none above B -/
def mx (I : Nat → Nat → Int32) (g m : Nat) (row : Nat → Nat) (T : Nat → Nat → Option Nat) (B : Nat) : Prop := ∀ i j, i < m → j < m → I (g + 1 + row i) (row j) = enD (T (row i) (row j)) ∧ on_ok B (T (row i) (row j))
theorem sa_in {ra m g k N B : Nat} {row : Nat → Nat} {T : Nat → Nat → Option Nat} (k2 : Nat → Int32 → Nat → Int32 → hm_T → Option hm_T) (hF : 20 ≤ F) (hra : K ra = some (.inl 0, 16)) (hg : gd K R g) (hrg : ¬ inG g ra) (hr : rwok I ra m row) (hk : k < m) (hN : 16 < N) (hB : B ≤ 500000000) (hT : mx I g m row T B) :
    ∃ I', f_D_shortenAmong_15 F k2 N ra (nI m) g (nI k) (nI (row k)) (nI 0) (hp K R n s I) = k2 ra (nI m) g (nI (k + 1)) (hp K R n s I') ∧ (∀ a, ¬ inG g a → I' a = I a) ∧ mx I' g m row (fun x y => on_min (T x y) (on_add (T x (row k)) (T (row k) y))) (B + B) := by
  have hm := hr.1
  have hrk := hr.2.1 k hk
  have bT : ∀ i j, i < m → j < m → on_ok (B + B) (on_min (T (row i) (row j)) (on_add (T (row i) (row k)) (T (row k) (row j)))) := fun i j hi hj => on_ok_min (on_ok_mono (hT i j hi hj).2 (by omega)) (on_ok_add (hT i k hi hk).2 (hT k j hk hj).2)
  refine hl_up (fun N j t => f_D_shortenAmong_15 F k2 N ra (nI m) g (nI k) (nI (row k)) (nI j) (hp K R n s t)) (fun b => ∃ I', b = k2 ra (nI m) g (nI (k + 1)) (hp K R n s I') ∧ (∀ a, ¬ inG g a → I' a = I a) ∧ mx I' g m row (fun x y => on_min (T x y) (on_add (T x (row k)) (T (row k) y))) (B + B)) (fun j t => (∀ a, ¬ inG g a → t a = I a) ∧ ∀ i e, i < m → e < m → (i < j → t (g + 1 + row i) (row e) = enD (on_min (T (row i) (row e)) (on_add (T (row i) (row k)) (T (row k) (row e))))) ∧ (j ≤ i → t (g + 1 + row i) (row e) = enD (T (row i) (row e)))) m ?_ ?_ N 0 I (by omega) (by omega) ⟨fun _ _ => rfl, fun i e hi he => ⟨fun q => by omega, fun _ => (hT i e hi he).1⟩⟩
  · intro N j t hj ⟨h1, h2⟩
    have hrj := hr.2.1 j hj
    have hrow : rwok t ra m row := ⟨hm, fun i hi => by rw [h1 ra hrg]; exact hr.2.1 i hi, hr.2.2⟩
    have x1 : hm_ild (hp K R n s t) ra (nI j) = some (nI (row j)) := by rw [hp_ild hra (by omega) (by omega), (hrow.2.1 j hj).1]
    have x2 : hm_ild (hp K R n s t) (g + 1 + row j) (nI (row k)) = some (enD (T (row j) (row k))) := by rw [gd_ild hg hrj.2 hrk.2, (h2 j k hj hk).2 (Nat.le_refl _)]
    refine Or.inr ?_
    show ∃ t', _ ∧ g_D_shortenAmong_15 F k2 (f_D_shortenAmong_15 F k2 N) ra (nI m) g (nI k) (nI (row k)) (nI j) (hp K R n s t) = _
    cases hc : T (row j) (row k) with
    | none =>
      rw [hc] at x2
      refine ⟨t, ⟨h1, fun i e hi he => ⟨fun q => ?_, fun q => (h2 i e hi he).2 (by omega)⟩⟩, ?_⟩
      · by_cases ei : i = j
        · subst ei
          rw [hc, show on_add none (T (row k) (row e)) = none from rfl, on_min_none]
          exact (h2 i e hi he).2 (Nat.le_refl _)
        · exact (h2 i e hi he).1 (by omega)
      · unfold g_D_shortenAmong_15 f_D_shortenAmong_55
        simp only [if_neg (nI_ge hj (show m < 2 ^ 31 by omega)), x1, Option.bind_some, gd_ald hg hrj.2, x2, if_pos (show enD none = -1 from rfl), nI_1]
    | some d =>
      rw [hc] at x2
      have hd : d ≤ B := (hT j k hj hk).2 d hc
      have hu : ∀ e, e < m → t (g + 1 + row k) (row e) = enD (T (row k) (row e)) := fun e he => by
        by_cases q : k < j
        · rw [(h2 k e hk he).1 q, on_min_add]
        · exact (h2 k e hk he).2 (by omega)
      obtain ⟨t', e1, e2, e3⟩ := D_sRow (F := F) (n := n) (s := s) (I := t) (ra := ra) (m := m) (d := d) (fm := g + 1 + row k) (fs := g + 1 + row j) (row := row) (u := fun e => T (row k) e) (w := fun e => T (row j) e) hF hra (hg.2.2 _ hrk.2) (hg.2.2 _ hrj.2) (fun q => hrg (by rw [← q]; exact ⟨by omega, by omega⟩)) hrow (by omega) (fun e he => ⟨hu e he, on_ok_mono (hT k e hk he).2 (by omega)⟩) (fun e he => ⟨(h2 j e hj he).2 (Nat.le_refl _), on_ok_mono (hT j e hj he).2 (by omega)⟩)
      refine ⟨t', ⟨fun a ha => ?_, fun i e hi he => ?_⟩, ?_⟩
      · rw [e2 a (fun q => ha (by rw [q]; exact ⟨by omega, by omega⟩))]; exact h1 a ha
      · by_cases ei : i = j
        · subst ei
          exact ⟨fun _ => by rw [e3 e he, hc], fun q => by omega⟩
        · have hne : g + 1 + row i ≠ g + 1 + row j := fun q => ei (hr.2.2 _ _ hi hj (by omega))
          rw [e2 _ hne]
          exact ⟨fun q => (h2 i e hi he).1 (by omega), fun q => (h2 i e hi he).2 (by omega)⟩
      · unfold g_D_shortenAmong_15 f_D_shortenAmong_55
        have e1' : f_D_shortenRow F ra (nI m) (enD (some d)) (g + 1 + row k) (g + 1 + row j) (hp K R n s t) = some (hp K R n s t') := e1
        simp only [if_neg (nI_ge hj (show m < 2 ^ 31 by omega)), x1, Option.bind_some, gd_ald hg hrj.2, gd_ald hg hrk.2, x2, if_neg (show ¬ enD (some d) = -1 from enD_ne (by omega)), e1', nI_1]
  · intro N t ⟨h1, h2⟩
    refine ⟨t, ?_, h1, fun i j hi hj => ⟨(h2 i j hi hj).1 hi, bT i j hi hj⟩⟩
    show g_D_shortenAmong_15 F k2 (f_D_shortenAmong_15 F k2 N) ra (nI m) g (nI k) (nI (row k)) (nI m) (hp K R n s t) = _
    unfold g_D_shortenAmong_15 f_D_shortenAmong_61
    rw [if_pos (Int32.le_refl _), nI_1]
theorem D_short {ra m g B : Nat} {row : Nat → Nat} {T : Nat → Nat → Option Nat} (hF : 20 ≤ F) (hra : K ra = some (.inl 0, 16)) (hg : gd K R g) (hrg : ¬ inG g ra) (hr : rwok I ra m row) (hB : B ≤ 15000) (hT : mx I g m row T B) :
    ∃ I', f_D_shortenAmong F ra (nI m) g (hp K R n s I) = some (hp K R n s I') ∧ (∀ a, ¬ inG g a → I' a = I a) ∧ mx I' g m row (fwI T row m) (B * 2 ^ m) := by
  have hm := hr.1
  unfold f_D_shortenAmong
  rw [← nI_0]
  refine hl_up (fun N i t => f_D_shortenAmong_2 F N ra (nI m) g (nI i) (hp K R n s t)) (fun b => ∃ I', b = some (hp K R n s I') ∧ (∀ a, ¬ inG g a → I' a = I a) ∧ mx I' g m row (fwI T row m) (B * 2 ^ m)) (fun i t => (∀ a, ¬ inG g a → t a = I a) ∧ mx t g m row (fwI T row i) (B * 2 ^ i)) m ?_ ?_ F 0 I (by omega) (by omega) ⟨fun _ _ => rfl, by simpa [fwI] using hT⟩
  · intro N i t hi ⟨h1, h2⟩
    have hri := hr.2.1 i hi
    have hrow : rwok t ra m row := ⟨hm, fun i hi => by rw [h1 ra hrg]; exact hr.2.1 i hi, hr.2.2⟩
    have hpow : 2 ^ i ≤ 2 ^ 15 := Nat.pow_le_pow_right (by decide) (by omega)
    have hb : B * 2 ^ i ≤ 15000 * 2 ^ 15 := Nat.mul_le_mul hB hpow
    obtain ⟨t', e1, e2, e3⟩ := sa_in (F := F) (n := n) (s := s) (I := t) (N := F) (k := i) (B := B * 2 ^ i) (T := fwI T row i) (f_D_shortenAmong_2 F N) hF hra hg hrg hrow hi (by omega) (by omega) h2
    refine Or.inr ⟨t', ⟨fun a ha => by rw [e2 a ha]; exact h1 a ha, ?_⟩, ?_⟩
    · rw [show B * 2 ^ (i + 1) = B * 2 ^ i + B * 2 ^ i by rw [Nat.pow_succ, ← Nat.mul_assoc, Nat.mul_two]]
      exact e3
    · show g_D_shortenAmong_2 F (f_D_shortenAmong_2 F N) ra (nI m) g (nI i) (hp K R n s t) = _
      unfold g_D_shortenAmong_2
      have x1 : hm_ild (hp K R n s t) ra (nI i) = some (nI (row i)) := by rw [hp_ild hra (by omega) (by omega), (hrow.2.1 i hi).1]
      rw [if_neg (nI_ge hi (by omega)), x1, Option.bind_some, ← nI_0]
      exact e1
  · intro N t ⟨h1, h2⟩
    refine ⟨t, ?_, h1, h2⟩
    show g_D_shortenAmong_2 F (f_D_shortenAmong_2 F N) ra (nI m) g (nI m) (hp K R n s t) = _
    unfold g_D_shortenAmong_2
    rw [if_pos (Int32.le_refl _)]
end SA
