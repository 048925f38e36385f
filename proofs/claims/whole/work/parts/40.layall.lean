section LA
variable {K : Nat → Option ((Nat ⊕ Nat) × Nat)} {R : Nat → Nat → Option Nat} {n s F o m k : Nat} {I : Nat → Nat → Int32} {row rk : Nat → Nat} {W A : Nat → Nat → Option Nat}
theorem prm.rwk {ra : Nat} (h : prm m row rk) (hk : k ≤ m) (hI : ∀ i, i < m → I ra i = nI (row i)) : rwok I ra k row := by
  have hm := h.1
  refine ⟨by omega, fun i hi => ⟨hI i (by omega), ?_⟩, fun i j hi hj e => ?_⟩
  · have := (h.2.1 i (by omega)).1; omega
  · rw [← (h.2.1 i (by omega)).2, e, (h.2.1 j (by omega)).2]
/-- what contraction leaves alone -/
def outC (o x : Nat) : Prop := x ≠ o + 108 ∧ x ≠ o + 108 + 35 ∧ x ≠ o + 108 + 36 ∧ ¬ inG (o + 108 + 1) x ∧ ¬ inG (o + 108 + 18) x
theorem K_letGo {L : List cE} (hF : 20 ≤ F) (S : shD K R o) (hm : I (o + 1) 0 = nI m) (hp0 : prm m row rk) (hk : k < m) (hrow : ∀ i, i < m → I (o + 1 + 18) i = nI (row i)) (hrk : ∀ v, v < m → I (o + 1 + 19) v = nI (rk v)) (hW : ∀ x y, x < m → y < m → I (o + 108 + 1 + 1 + x) y = enD (W x y) ∧ on_ok 15000 (W x y)) (h0 : hold I (o + 108) L) (hlen : (L ++ lu (ctc row rk k W) (cte row k W) m m).length ≤ 1120) :
    ∃ I', f_K_letGo F (o + 108) (o + 1) (nI k) (hp K R n s I) = some (hp K R n s I') ∧ (∀ x, outC o x → I' x = I x) ∧ (∀ j, j ≠ 4 → I' (o + 108) j = I (o + 108) j) ∧ hold I' (o + 108) (L ++ lu (ctc row rk k W) (cte row k W) m m) ∧ ∀ x y, x < m → y < m → I' (o + 108 + 1 + 1 + x) y = enD (ctW row rk k W x y) := by
  have h16 := hp0.1
  have nr : ¬ inG (o + 108 + 18) (o + 1 + 18) := fun q => by have := q.1; omega
  obtain ⟨I1, e1, f1, g1⟩ := D_copy (F := F) (n := n) (s := s) (I := I) (ra := o + 1 + 18) (m := k) (gf := o + 108 + 1) (gt := o + 108 + 18) (row := row) hF S.N1.K18 S.C108.g1 S.C108.g18 nr (fun a q1 q2 => by have := q1.2; have := q2.1; omega) (hp0.rwk (by omega) hrow)
  have hrow1 : ∀ i, i < m → I1 (o + 1 + 18) i = nI (row i) := fun i hi => by rw [f1 _ nr]; exact hrow i hi
  have hmx : mx I1 (o + 108 + 18) k row W 15000 := fun i j hi hj => by
    have hx := (hp0.2.1 i (by omega)).1
    have hy := (hp0.2.1 j (by omega)).1
    exact ⟨by rw [g1 i j hi hj]; exact (hW _ _ hx hy).1, (hW _ _ hx hy).2⟩
  obtain ⟨I2, e2, f2, g2⟩ := D_short (F := F) (n := n) (s := s) (I := I1) (ra := o + 1 + 18) (m := k) (g := o + 108 + 18) (B := 15000) (row := row) (T := W) hF S.N1.K18 S.C108.g18 nr (hp0.rwk (by omega) hrow1) (by omega) hmx
  have fr : ∀ x, ¬ inG (o + 108 + 18) x → I2 x = I x := fun x hx => (f2 x hx).trans (f1 x hx)
  have out : ∀ x, x < o + 108 + 19 → ¬ inG (o + 108 + 18) x := fun x hx z => by have := z.1; omega
  have outg : ∀ x, o + 108 + 35 ≤ x → ¬ inG (o + 108 + 18) x := fun x hx z => by have := z.2; omega
  have hh : hold I2 (o + 108) L := ⟨by rw [fr _ (out _ (by omega))]; exact h0.1, fun i x hx => by rw [fr _ (outg _ (by omega)), fr _ (outg _ (by omega))]; exact h0.2 i x hx⟩
  have hH : lgH o m k I2 row rk W := by
    refine ⟨by rw [fr _ (out _ (by omega))]; exact hm, hp0, hk, fun v hv => by rw [fr _ (out _ (by omega))]; exact hrk v hv, fun x y hx hy => (hW x y hx hy).2, fun x y hx hy ex ey => ?_⟩
    have := g2 (rk x) (rk y) ex ey
    rw [(hp0.2.2 x hx).2, (hp0.2.2 y hy).2] at this
    refine ⟨this.1, on_ok_mono this.2 ?_⟩
    have hpow : 2 ^ k ≤ 2 ^ 16 := Nat.pow_le_pow_right (by decide) (by omega)
    have := Nat.mul_le_mul_left 15000 hpow
    omega
  obtain ⟨I3, e3, h3⟩ := lg_out (F := F) (n := n) (s := s) hF S hH hlen hh (fun x y hx hy => by rw [fr _ (out _ (by omega))]; exact (hW x y hx hy).1)
  refine ⟨I3, ?_, fun x hx => (h3.1 x hx.1 hx.2.1 hx.2.2.1 hx.2.2.2.1).trans (fr x hx.2.2.2.2), fun j hj => by rw [h3.2.1 j hj, fr _ (out _ (by omega))], h3.2.2.1, fun x y hx hy => (h3.2.2.2 x y hx hy).1 trivial⟩
  unfold f_K_letGo
  have x9 : hm_ild (hp K R n s I2) (o + 1 + 18) (nI k) = some (nI (row k)) := by rw [hp_ild S.N1.K18 (by omega) (by omega), fr _ nr, hrow k hk]
  simp only [eN_r3 S.N1, Option.bind_some, eC_r0 S.C108, eC_r1 S.C108, e1, e2, x9]
  rw [← nI_0]
  exact e3
theorem nI_dec (i : Nat) : nI i + (-1) = nI i - 1 := by
  cases i with
  | zero => decide +kernel
  | succ i => rw [pk_m1, nI_pred]
theorem K_layAll (hF : 20 ≤ F) (S : shD K R o) (hm : I (o + 1) 0 = nI m) (hp0 : prm m row rk) (hrow : ∀ i, i < m → I (o + 1 + 18) i = nI (row i)) (hrk : ∀ v, v < m → I (o + 1 + 19) v = nI (rk v)) (hA : ∀ x y, x < m → y < m → I (o + 1 + 1 + 1 + x) y = enD (A x y)) (hB : ∀ j, j ≤ m → ∀ x y, x < m → y < m → on_ok 15000 (cW A row rk m j x y)) (hlen : (cL A row rk m m).length ≤ 1120) :
    ∃ I', f_K_layAll F (o + 108) (o + 1) (hp K R n s I) = some (hp K R n s I') ∧ (∀ x, outC o x → I' x = I x) ∧ (∀ j, j ≠ 4 → I' (o + 108) j = I (o + 108) j) ∧ hold I' (o + 108) (cL A row rk m m) ∧ ∀ x y, x < m → y < m → I' (o + 108 + 1 + 1 + x) y = enD (cW A row rk m m x y) := by
  have h16 := hp0.1
  have nr : ¬ inG (o + 108 + 1) (o + 1 + 18) := fun q => by have := q.1; omega
  obtain ⟨I1, e1, f1, g1⟩ := D_copy (F := F) (n := n) (s := s) (I := I) (ra := o + 1 + 18) (m := m) (gf := o + 1 + 1) (gt := o + 108 + 1) (row := row) hF S.N1.K18 S.N1.g1 S.C108.g1 nr (fun a q1 q2 => by have := q1.2; have := q2.1; omega) (hp0.rw hrow)
  have lo : ∀ x, x < o + 108 → outC o x := fun x hx => ⟨by omega, by omega, by omega, fun z => by have := z.1; omega, fun z => by have := z.1; omega⟩
  have key : ∃ I', f_K_layAll_31 F F (o + 108) (o + 1) (nI m - 1) (hp K R n s (up2 I1 (o + 108) 4 (nI 0))) = some (hp K R n s I') ∧ (∀ x, outC o x → I' x = I x) ∧ (∀ j, j ≠ 4 → I' (o + 108) j = I (o + 108) j) ∧ hold I' (o + 108) (cL A row rk m m) ∧ ∀ x y, x < m → y < m → I' (o + 108 + 1 + 1 + x) y = enD (cW A row rk m m x y) := by
    refine hl_dn (fun N i t => f_K_layAll_31 F N (o + 108) (o + 1) (nI i - 1) (hp K R n s t)) (fun z => ∃ I', z = some (hp K R n s I') ∧ (∀ x, outC o x → I' x = I x) ∧ (∀ j, j ≠ 4 → I' (o + 108) j = I (o + 108) j) ∧ hold I' (o + 108) (cL A row rk m m) ∧ ∀ x y, x < m → y < m → I' (o + 108 + 1 + 1 + x) y = enD (cW A row rk m m x y)) (fun i t => i ≤ m ∧ (∀ x, outC o x → t x = I x) ∧ (∀ j, j ≠ 4 → t (o + 108) j = I (o + 108) j) ∧ hold t (o + 108) (cL A row rk m (m - i)) ∧ ∀ x y, x < m → y < m → t (o + 108 + 1 + 1 + x) y = enD (cW A row rk m (m - i) x y)) 0 ?_ ?_ F m _ (by omega) (by omega) ⟨Nat.le_refl _, fun x hx => ?_, fun j hj => ?_, ?_, fun x y hx hy => ?_⟩
    · intro N i t _ ⟨p1, p2, p3, p4, p5⟩
      have ej : m - i = (m - (i + 1)) + 1 := by omega
      have ek : m - 1 - (m - (i + 1)) = i := by omega
      have hl2 : (cL A row rk m (m - (i + 1)) ++ lu (ctc row rk i (cW A row rk m (m - (i + 1)))) (cte row i (cW A row rk m (m - (i + 1)))) m m).length ≤ 1120 := by
        have h1 := cL_mono (A := A) (row := row) (rk := rk) (m := m) (show m - (i + 1) + 1 ≤ m by omega)
        have h2 : cL A row rk m (m - (i + 1) + 1) = cL A row rk m (m - (i + 1)) ++ lu (ctc row rk (m - 1 - (m - (i + 1))) (cW A row rk m (m - (i + 1)))) (cte row (m - 1 - (m - (i + 1))) (cW A row rk m (m - (i + 1)))) m m := rfl
        rw [ek] at h2
        rw [← h2]
        omega
      obtain ⟨t', e2, f2, f3, f4, f5⟩ := K_letGo (F := F) (n := n) (s := s) (I := t) (k := i) (W := cW A row rk m (m - (i + 1))) hF S (by rw [p2 _ (lo _ (by omega))]; exact hm) hp0 (by omega) (fun j hj => by rw [p2 _ (lo _ (by omega))]; exact hrow j hj) (fun v hv => by rw [p2 _ (lo _ (by omega))]; exact hrk v hv) (fun x y hx hy => ⟨p5 x y hx hy, hB _ (by omega) x y hx hy⟩) p4 hl2
      refine Or.inr ⟨t', ⟨by omega, fun x hx => (f2 x hx).trans (p2 x hx), fun j hj => (f3 j hj).trans (p3 j hj), ?_, fun x y hx hy => ?_⟩, ?_⟩
      · rw [ej]; show hold t' _ (cL A row rk m (m - (i + 1)) ++ _); rw [ek]; exact f4
      · rw [ej]; show _ = enD (ctW row rk (m - 1 - (m - (i + 1))) (cW A row rk m (m - (i + 1))) x y); rw [ek]; exact f5 x y hx hy
      · show g_K_layAll_31 F (f_K_layAll_31 F N) (o + 108) (o + 1) (nI (i + 1) - 1) (hp K R n s t) = _
        unfold g_K_layAll_31
        rw [nI_pred, if_neg (nI_pos (by omega)), eC_is S.C108, Option.bind_some, e2, Option.bind_some, nI_dec]
    · intro N t ⟨p1, p2, p3, p4, p5⟩
      refine ⟨t, ?_, p2, p3, p4, p5⟩
      show g_K_layAll_31 F (f_K_layAll_31 F N) (o + 108) (o + 1) (nI 0 - 1) (hp K R n s t) = _
      unfold g_K_layAll_31
      rw [if_pos (by decide +kernel)]
    · rw [up2_ne hx.1]; exact f1 x hx.2.2.2.1
    · rw [up2_nj hj, f1 _ (fun z => by have := z.1; omega)]
    · rw [Nat.sub_self]
      exact ⟨by rw [up2_at]; rfl, fun i x hx => by simp [cL] at hx⟩
    · rw [Nat.sub_self, up2_ne (by omega)]
      have := g1 (rk x) (rk y) (hp0.2.2 x hx).1 (hp0.2.2 y hy).1
      rw [(hp0.2.2 x hx).2, (hp0.2.2 y hy).2] at this
      rw [this]; exact hA x y hx hy
  obtain ⟨I', e, r1, r2, r3, r4⟩ := key
  refine ⟨I', ?_, r1, r2, r3, r4⟩
  unfold f_K_layAll
  have w1 : up2 I1 (o + 108) 4 (0 : Int32) (o + 1) 0 = nI m := by rw [up2_ne (by omega), f1 _ (fun z => by have := z.1; omega)]; exact hm
  simp only [eN_r3 S.N1, Option.bind_some, eN_gi S.N1, hm, eN_r2 S.N1, eC_r0 S.C108, e1, eC_pi S.C108, w1]
  rw [nI_0] at e
  exact e
end LA
