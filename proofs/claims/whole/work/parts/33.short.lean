section SR
variable {K : Nat → Option ((Nat ⊕ Nat) × Nat)} {R : Nat → Nat → Option Nat} {n s F : Nat} {I : Nat → Nat → Int32}
theorem on_min_none (x : Option Nat) : on_min x none = x := by cases x <;> rfl
theorem on_min_add (x z : Option Nat) : on_min x (on_add z x) = x := by
  cases x <;> cases z <;> simp [on_min, on_add]
  omega
theorem on_add_none (x : Option Nat) : on_add x none = none := by cases x <;> rfl
theorem on_ok_mono {A B : Nat} {x : Option Nat} (h : on_ok A x) (hAB : A ≤ B) : on_ok B x := fun d e => Nat.le_trans (h d e) hAB
theorem on_ok_add {A B : Nat} {x y : Option Nat} (h : on_ok A x) (h2 : on_ok B y) : on_ok (A + B) (on_add x y) := by
  intro d e
  obtain ⟨a, b, rfl, rfl, rfl⟩ := on_add_some e
  have := h a rfl
  have := h2 b rfl
  omega
theorem on_ok_min {A : Nat} {x y : Option Nat} (h : on_ok A x) (h2 : on_ok A y) : on_ok A (on_min x y) := by
  rcases on_min_c x y with q | q <;> rw [q] <;> assumption
theorem D_sRow {ra m d fm fs : Nat} {row : Nat → Nat} {u w : Nat → Option Nat} (hF : 20 ≤ F) (hra : K ra = some (.inl 0, 16)) (hfm : K fm = some (.inl 0, 16)) (hfs : K fs = some (.inl 0, 16)) (hne : fs ≠ ra) (hr : rwok I ra m row) (hd : d ≤ 1000000000) (hu : ∀ i, i < m → I fm (row i) = enD (u (row i)) ∧ on_ok 1000000000 (u (row i))) (hw : ∀ i, i < m → I fs (row i) = enD (w (row i)) ∧ on_ok 1000000000 (w (row i))) :
    ∃ I', f_D_shortenRow F ra (nI m) (nI d) fm fs (hp K R n s I) = some (hp K R n s I') ∧ (∀ a, a ≠ fs → I' a = I a) ∧ ∀ i, i < m → I' fs (row i) = enD (on_min (w (row i)) (on_add (some d) (u (row i)))) := by
  have hm := hr.1
  unfold f_D_shortenRow
  rw [← nI_0]
  refine hl_up (fun N i t => f_D_shortenRow_3 F N ra (nI m) (nI d) fm fs (nI i) (hp K R n s t)) (fun b => ∃ I', b = some (hp K R n s I') ∧ (∀ a, a ≠ fs → I' a = I a) ∧ ∀ i, i < m → I' fs (row i) = enD (on_min (w (row i)) (on_add (some d) (u (row i))))) (fun i t => (∀ a, a ≠ fs → t a = I a) ∧ (∀ i', i' < m → i' < i → t fs (row i') = enD (on_min (w (row i')) (on_add (some d) (u (row i'))))) ∧ ∀ i', i' < m → i ≤ i' → t fs (row i') = I fs (row i')) m ?_ ?_ F 0 I (by omega) (by omega) ⟨fun _ _ => rfl, fun i' h1 h2 => by omega, fun _ _ _ => rfl⟩
  · intro N i t hi ⟨h1, h2, h3⟩
    have hri := hr.2.1 i hi
    have eu : t fm (row i) = enD (u (row i)) := by
      by_cases e : fm = fs
      · rw [e, h3 i hi (Nat.le_refl _), ← e]; exact (hu i hi).1
      · rw [h1 fm e]; exact (hu i hi).1
    have ew : t fs (row i) = enD (w (row i)) := by rw [h3 i hi (Nat.le_refl _)]; exact (hw i hi).1
    have x1 : hm_ild (hp K R n s t) ra (nI i) = some (nI (row i)) := by rw [hp_ild hra (by omega) (by omega), h1 ra hne.symm, hri.1]
    have x2 : hm_ild (hp K R n s t) fm (nI (row i)) = some (enD (u (row i))) := by rw [hp_ild hfm hri.2 (by omega), eu]
    have x3 : hm_ild (hp K R n s t) fs (nI (row i)) = some (enD (w (row i))) := by rw [hp_ild hfs hri.2 (by omega), ew]
    have hkeep : on_min (w (row i)) (on_add (some d) (u (row i))) = w (row i) → g_D_shortenRow_3 F (f_D_shortenRow_3 F N) ra (nI m) (nI d) fm fs (nI i) (hp K R n s t) = f_D_shortenRow_3 F N ra (nI m) (nI d) fm fs (nI (i + 1)) (hp K R n s t) → (∃ t', ((∀ a, a ≠ fs → t' a = I a) ∧ (∀ i', i' < m → i' < i + 1 → t' fs (row i') = enD (on_min (w (row i')) (on_add (some d) (u (row i'))))) ∧ ∀ i', i' < m → i + 1 ≤ i' → t' fs (row i') = I fs (row i')) ∧ g_D_shortenRow_3 F (f_D_shortenRow_3 F N) ra (nI m) (nI d) fm fs (nI i) (hp K R n s t) = f_D_shortenRow_3 F N ra (nI m) (nI d) fm fs (nI (i + 1)) (hp K R n s t')) := fun hq he => by
      refine ⟨t, ⟨h1, fun i' a1 a2 => ?_, fun i' a1 a2 => h3 i' a1 (by omega)⟩, he⟩
      by_cases e : i' = i
      · subst e; rw [hq]; exact ew
      · exact h2 i' a1 (by omega)
    refine Or.inr ?_
    show ∃ t', _ ∧ g_D_shortenRow_3 F (f_D_shortenRow_3 F N) ra (nI m) (nI d) fm fs (nI i) (hp K R n s t) = _
    cases hc : u (row i) with
    | none =>
      refine hkeep (by rw [hc, on_add_none, on_min_none]) ?_
      unfold g_D_shortenRow_3 f_D_shortenRow_51
      rw [hc] at x2
      simp only [if_neg (nI_ge hi (show m < 2 ^ 31 by omega)), x1, Option.bind_some, x2, if_pos (show enD none = -1 from rfl), nI_1]
    | some e =>
      have he := (hu i hi).2 e hc
      rw [hc] at x2
      have x4 : f_D_isLess F (nI d + enD (some e)) (enD (w (row i))) (hp K R n s t) = some (if on_lt (some (d + e)) (w (row i)) then 1 else 0, hp K R n s t) := by
        have := D_isLess (F := F) (h := hp K R n s t) (x := some (d + e)) (y := w (row i)) (fun z hz => by cases hz; omega) (on_ok_mono (hw i hi).2 (by omega))
        rw [← this]
        show f_D_isLess F (nI d + nI e) _ _ = _
        rw [nI_add]; rfl
      have hmin : on_min (w (row i)) (on_add (some d) (u (row i))) = if on_lt (some (d + e)) (w (row i)) then some (d + e) else w (row i) := by
        rw [hc, on_min_lt]; rfl
      by_cases hl : on_lt (some (d + e)) (w (row i)) = true
      · refine ⟨up2 t fs (row i) (nI (d + e)), ⟨fun a ha => by rw [up2_ne ha]; exact h1 a ha, fun i' a1 a2 => ?_, fun i' a1 a2 => ?_⟩, ?_⟩
        · by_cases e2 : i' = i
          · subst e2; rw [up2_at, hmin, if_pos hl]; rfl
          · rw [up2_nj (fun q => e2 (hr.2.2 _ _ a1 hi q))]; exact h2 i' a1 (by omega)
        · rw [up2_nj (fun q => by have := hr.2.2 _ _ a1 hi q; omega)]; exact h3 i' a1 (by omega)
        · unfold g_D_shortenRow_3 f_D_shortenRow_51
          have x5 : hm_ist (hp K R n s t) fs (nI (row i)) (nI d + enD (some e)) = some (hp K R n s (up2 t fs (row i) (nI (d + e)))) := by
            rw [hp_ist hfs hri.2 (by omega)]
            show some (hp K R n s (up2 t fs (row i) (nI d + nI e))) = _
            rw [nI_add]
          simp only [if_neg (nI_ge hi (show m < 2 ^ 31 by omega)), x1, Option.bind_some, x2, if_neg (show ¬ enD (some e) = -1 from enD_ne (by omega)), x3, x4, hm_and_some, hl, if_true, if_neg (show ¬ (1 : Int32) = 0 by decide), x5, nI_1]
      · refine hkeep (by rw [hmin, if_neg hl]) ?_
        unfold g_D_shortenRow_3 f_D_shortenRow_51
        simp only [if_neg (nI_ge hi (show m < 2 ^ 31 by omega)), x1, Option.bind_some, x2, if_neg (show ¬ enD (some e) = -1 from enD_ne (by omega)), x3, x4, hm_and_some, if_neg hl, if_true, nI_1]
  · intro N t ⟨h1, h2, h3⟩
    refine ⟨t, ?_, h1, fun i hi => h2 i hi hi⟩
    show g_D_shortenRow_3 F (f_D_shortenRow_3 F N) ra (nI m) (nI d) fm fs (nI m) (hp K R n s t) = _
    unfold g_D_shortenRow_3
    rw [if_pos (Int32.le_refl _)]
/-- least lengths with one node more, again and again -/
def fwI (T : Nat → Nat → Option Nat) (row : Nat → Nat) : Nat → Nat → Nat → Option Nat
  | 0 => T
  | i + 1 => fun x y => on_min (fwI T row i x y) (on_add (fwI T row i x (row i)) (fwI T row i (row i) y))
theorem wk_D_eq {L : Nat → Nat → Option Nat} {S S' : Nat → Prop} {a b : Nat} {m : Option Nat} (h : wk_D L S a b m) (e : ∀ v, S v ↔ S' v) : wk_D L S' a b m :=
  ⟨fun p hp => h.1 p (fun v hv => (e v).mpr (hp v hv)), fun d hd => by obtain ⟨p, h1, h2⟩ := h.2 d hd; exact ⟨p, fun v hv => (e v).mp (h1 v hv), h2⟩⟩
theorem fw_D (T : Nat → Nat → Option Nat) (row : Nat → Nat) : ∀ (i a b : Nat), wk_D T (fun v => ∃ i', i' < i ∧ row i' = v) a b (fwI T row i a b)
  | 0, a, b => wk_D_0 (fun v ⟨i', h, _⟩ => by omega) a b
  | i + 1, a, b => by
    refine wk_D_eq (wk_D_step (v := row i) (T := fwI T row i) (fw_D T row i a b) (fw_D T row i a (row i)) (fw_D T row i (row i) b)) (fun v => ⟨fun q => ?_, fun q => ?_⟩)
    · rcases q with ⟨i', h1, h2⟩ | h
      · exact ⟨i', by omega, h2⟩
      · exact ⟨i, by omega, h.symm⟩
    · obtain ⟨i', h1, h2⟩ := q
      by_cases e : i' = i
      · subst e; exact Or.inr h2.symm
      · exact Or.inl ⟨i', by omega, h2⟩
end SR
