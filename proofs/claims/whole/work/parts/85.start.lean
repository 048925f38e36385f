
def hm_h0 (n : Nat) : hm_T := (fun _ => none, fun _ _ => 0, fun _ _ => none, n, 0)
/-- THE PURE STATEMENT: the law's function answers 1, within the room -/
def Law_ok : Prop := ∀ (n L : Nat) (xs : Nat → Int32), L ≤ 2560 → ∃ (F : Nat) (h' : hm_T), f_W_law F L xs (hm_h0 n) = some ((1 : Int32), h') ∧ hm_n h' ≤ n + 600000 ∧ hm_s h' ≤ 7302250
theorem hm_nF_in : ∀ q ∈ hm_nF, Cond.fieldLinkNest q.1 q.2.1 q.2.2.1 q.2.2.2.1 q.2.2.2.2.1 q.2.2.2.2.2 ∈ lw_tbl := by decide +kernel
theorem hm_nM_in : ∀ q ∈ hm_nM, Cond.methodLinkNest q.1 q.2.1 q.2.2.1 q.2.2.2 ∈ lw_tbl := by decide +kernel
set_option maxHeartbeats 4000000 in
set_option maxRecDepth 100000 in
theorem start_of (ok : Law_ok) {p : Program} {e : Env} {s : State} {m : MethodId} {below : List Frame} {meth : Method} {c : Code} (l : Launch) {b L : Nat} {xs : Nat → Int32} (hL : L ≤ 2560) (C0 : lw_At p s m meth c b L xs) : W p l e room_1 s m #[Value.ref b] below meth c s.heap [] 0 0 (lw_Z below #[Value.ref b] s) (entryFrame m ([Value.ref b] : List Value).toArray 4) := by
  obtain ⟨hx, hb, hr, hml, hown, hts, hX, hbl, hlocks, hgv⟩ := id C0
  have htb : ∀ w ∈ hm_big, w.before #[Value.ref b] s = true := fun w hw => hts w (hm_inL hw)
  obtain ⟨c0, i0, K0⟩ := u_known (C := "DistanceLabels$Contraction") (T := T_0) (N := 7) (n := 7) htb lay_0 (htb (Cond.instantiable "DistanceLabels$Contraction" 7) (hm_inT 71 (by decide +kernel) (by decide +kernel)))
  obtain ⟨c1, i1, K1⟩ := u_known (C := "DistanceLabels$Labels") (T := T_1) (N := 2) (n := 2) htb lay_1 (htb (Cond.instantiable "DistanceLabels$Labels" 2) (hm_inT 56 (by decide +kernel) (by decide +kernel)))
  obtain ⟨c2, i2, K2⟩ := u_known (C := "DistanceLabels$Net") (T := T_2) (N := 5) (n := 5) htb lay_2 (htb (Cond.instantiable "DistanceLabels$Net" 5) (hm_inT 17 (by decide +kernel) (by decide +kernel)))
  obtain ⟨c3, i3, K3⟩ := u_known (C := "DistanceLabels") (T := T_3) (N := 9) (n := 9) htb lay_3 (htb (Cond.instantiable "DistanceLabels" 9) (hm_inT 9 (by decide +kernel) (by decide +kernel)))
  obtain ⟨c4, i4, K4⟩ := u_known (C := "DistanceLabelsModel") (T := T_4) (N := 25) (n := 25) htb lay_4 (htb (Cond.instantiable "DistanceLabelsModel" 25) (hm_inT 356 (by decide +kernel) (by decide +kernel)))
  obtain ⟨cI, kI, ccI, fI, hkI, hkdI⟩ := Cond.arrayClass_spec (htb _ kA_int)
  obtain ⟨cZ, kZ, ccZ, fZ, hkZ, hkdZ⟩ := Cond.arrayClass_spec (htb _ kA_bool)
  obtain ⟨comp, cA, kA, fc, hkA, hkdA, fA⟩ := Cond.arrayOver_specA (hts _ kO_int)
  obtain ⟨E, hE⟩ : ∃ E : hm_E, E = ((fun k => match k with | 0 => c0 | 1 => c1 | 2 => c2 | 3 => c3 | _ => c4, fun k => match k with | 0 => i0 | 1 => i1 | 2 => i2 | 3 => i3 | _ => i4), fun k => match k with | 2 => cZ | 5 => cA | _ => cI, s.heap.size) := ⟨_, rfl⟩
  have hV : hm_V E s := by
    subst hE
    refine ⟨⟨fun k q hq => ?_, fun k q hq => ?_⟩, fun q hq => va_Nw.of rfl (hts _ (hm_nF_in q hq)), fun q hq => va_Nw.of rfl (hts _ (hm_nM_in q hq)), over_moved (a := #[Value.ref b]) (a' := #[]) (Vm.Alike.refl _) (hts _ kO_int)⟩
    · match k, hq with
      | 0, hq => cases hq; exact K0
      | 1, hq => cases hq; exact K1
      | 2, hq => cases hq; exact K2
      | 3, hq => cases hq; exact K3
      | 4, hq => cases hq; exact K4
      | k + 5, hq => simp [vwCl] at hq
    · match k, hq with
      | 0, hq => cases hq; exact ⟨fun n z => ⟨fun k h => (by cases h), kI, hkI, ccI, hkdI⟩, fI⟩
      | 1, hq => cases hq; exact ⟨fun n z => ⟨fun k h => (by cases h), kI, hkI, ccI, hkdI⟩, fI⟩
      | 2, hq => cases hq; exact ⟨fun n z => ⟨fun k h => (by cases h), kZ, hkZ, ccZ, hkdZ⟩, fZ⟩
      | 3, hq => cases hq; exact ⟨fun n z => ⟨fun k h => (by cases h), kA, hkA, comp, hkdA⟩, fA⟩
      | k + 4, hq => simp [hm_tys] at hq
  have hE2 : E.2.2 = s.heap.size := by rw [hE]
  obtain ⟨F, h', hf, hn, hs⟩ := ok s.heap.size L xs hL
  have C : hm_C E code 4 "DistanceLabelsLaw" 6 145 s.heap.size 0 (hm_n h') (hm_s h') p room_1 s m #[Value.ref b] c := ⟨hx, hb, hml, hown, htb, hV, rfl, by rw [hE2]; exact Nat.le_refl _, hn, by rw [Nat.zero_add]; exact hs, Nat.le_of_ble_eq_true rfl, Nat.le_of_ble_eq_true rfl⟩
  have g := w_f_W_law (l := l) (e := e) (below := below) C hr hlocks hX hbl hE2 hf
  have hl := lv_entry ([.ref b]) (n := 4) (Nat.le_of_ble_eq_true rfl)
  rw [lg_entry_eq]
  have k := g.2.2 s.heap [] _ (Nat.le_refl _) (Nat.zero_le _) ⟨rfl, fun a k n hk => by cases hk⟩ va_S.rf hl
  have e1 : hm_n (hm_h0 s.heap.size) - s.heap.size = 0 := Nat.sub_self _
  have e2 : hm_s (hm_h0 s.heap.size) - 0 = 0 := rfl
  rw [e1, e2] at k
  exact k
