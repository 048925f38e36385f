/-! CONTRACTION, the class's side -/
abbrev cE : Type := Nat × Nat × Nat × Nat
def lw (c : Nat → Nat → Bool) (e : Nat → Nat → cE) (u : Nat) : Nat → List cE
  | 0 => []
  | w + 1 => lw c e u w ++ (if c u w = true then [e u w] else [])
def lu (c : Nat → Nat → Bool) (e : Nat → Nat → cE) (m : Nat) : Nat → List cE
  | 0 => []
  | u + 1 => lu c e m u ++ lw c e u m
theorem lw_mono {c : Nat → Nat → Bool} {e : Nat → Nat → cE} {u w w' : Nat} (h : w ≤ w') : (lw c e u w).length ≤ (lw c e u w').length := by
  induction h with
  | refl => exact Nat.le_refl _
  | step _ ih => simp only [lw, List.length_append]; omega
theorem lu_mono {c : Nat → Nat → Bool} {e : Nat → Nat → cE} {m u u' : Nat} (h : u ≤ u') : (lu c e m u).length ≤ (lu c e m u').length := by
  induction h with
  | refl => exact Nat.le_refl _
  | step _ ih => simp only [lu, List.length_append]; omega
theorem lu_lt {c : Nat → Nat → Bool} {e : Nat → Nat → cE} {m u w : Nat} (hu : u < m) (hw : w < m) (hc : c u w = true) : (lu c e m u).length + (lw c e u w).length < (lu c e m m).length := by
  have h1 := lw_mono (c := c) (e := e) (u := u) (show w + 1 ≤ m from hw)
  have h2 := lu_mono (c := c) (e := e) (m := m) (show u + 1 ≤ m from hu)
  have h3 : (lw c e u (w + 1)).length = (lw c e u w).length + 1 := by simp [lw, hc]
  have h4 : (lu c e m (u + 1)).length = (lu c e m u).length + (lw c e u m).length := by simp [lu]
  omega
/-- does the pair u, w get a shortcut as the node of rank k goes; the length that it gets -/
def ctb (row : Nat → Nat) (k : Nat) (W : Nat → Nat → Option Nat) (u w : Nat) : Option Nat := on_add (W u (row k)) (W (row k) w)
def ctc (row rk : Nat → Nat) (k : Nat) (W : Nat → Nat → Option Nat) (u w : Nat) : Bool := decide (u ≠ w) && (decide (rk u < k) && (decide (rk w < k) && on_lt (ctb row k W u w) (fwI W row k u w)))
def ctW (row rk : Nat → Nat) (k : Nat) (W : Nat → Nat → Option Nat) (u w : Nat) : Option Nat := if ctc row rk k W u w = true then ctb row k W u w else W u w
def cte (row : Nat → Nat) (k : Nat) (W : Nat → Nat → Option Nat) (u w : Nat) : cE := (u, w, (ctb row k W u w).getD 0, row k)
section KC
variable {K : Nat → Option ((Nat ⊕ Nat) × Nat)} {R : Nat → Nat → Option Nat} {n s F c m k : Nat} {I : Nat → Nat → Int32} {row rk : Nat → Nat}
/-- the shortcuts so far, as the object holds them -/
def hold (I : Nat → Nat → Int32) (c : Nat) (L : List cE) : Prop := I c 4 = nI L.length ∧ ∀ (i : Nat) (x : cE), L[i]? = some x → I (c + 35) i = nI ((x.1 * 16 + x.2.1) * 16 + x.2.2.2) ∧ I (c + 36) i = nI x.2.2.1
def brI (c u w q : Nat) (len x : Int32) (I : Nat → Nat → Int32) : Nat → Nat → Int32 := up2 (up2 (up2 (up2 I (c + 1 + 1 + u) w len) (c + 35) q x) (c + 36) q len) c 4 (nI (q + 1))
theorem K_bring {u w v q : Nat} {len : Int32} (S : shC K R c) (hu : u < 16) (hw : w < 16) (hq : q < 1120) (h4 : I c 4 = nI q) : f_K_bring F c (nI u) (nI w) len (nI v) (hp K R n s I) = some (hp K R n s (brI c u w q len (nI ((u * 16 + w) * 16 + v)) I)) := by
  unfold f_K_bring brI
  have a1 : up2 I (c + 1 + 1 + u) w len c 4 = nI q := by rw [up2_ne (by omega)]; exact h4
  have a2 : up2 (up2 I (c + 1 + 1 + u) w len) (c + 35) q (nI ((u * 16 + w) * 16 + v)) c 4 = nI q := by rw [up2_ne (by omega)]; exact a1
  have a3 : up2 (up2 (up2 I (c + 1 + 1 + u) w len) (c + 35) q (nI ((u * 16 + w) * 16 + v))) (c + 36) q len c 4 = nI q := by rw [up2_ne (by omega)]; exact a2
  have a4 : (nI u * (16 : Int32) + nI w) * (16 : Int32) + nI v = nI ((u * 16 + w) * 16 + v) := by rw [n_16, pk_mul, nI_add, pk_mul, nI_add]
  have a5 : ¬ (1120 : Int32) ≤ nI q := by rw [show (1120 : Int32) = nI 1120 by decide +kernel]; exact nI_ge hq (by omega)
  simp only [eC_r0 S, Option.bind_some, gd_ald S.g1 hu, gd_ist S.g1 hu hw, eC_gi S, a1, if_neg a5, eC_r2 S, a4, hp_ist S.K35 hq (show 1120 < 2 ^ 31 by omega), eC_r3 S, a2, hp_ist S.K36 hq (show 1120 < 2 ^ 31 by omega), a3, eC_pi S, nI_1]
theorem hold.add {L : List cE} {u w v d : Nat} (hu : u < 16) (h : hold I c L) : hold (brI c u w L.length (nI d) (nI ((u * 16 + w) * 16 + v)) I) c (L ++ [(u, w, d, v)]) := by
  unfold brI
  refine ⟨by rw [up2_at]; simp, fun i x hx => ?_⟩
  by_cases hi : i < L.length
  · rw [List.getElem?_append_left hi] at hx
    have := h.2 i x hx
    refine ⟨?_, ?_⟩
    · rw [up2_ne (by omega), up2_ne (by omega), up2_nj (by omega), up2_ne (by omega)]; exact this.1
    · rw [up2_ne (by omega), up2_nj (by omega), up2_ne (by omega), up2_ne (by omega)]; exact this.2
  · have hi2 : i = L.length := by
      have := (List.getElem?_eq_some_iff.mp hx).1
      simp at this
      omega
    subst hi2
    have hx2 : (u, w, d, v) = x := by simpa using hx
    subst hx2
    refine ⟨?_, ?_⟩
    · rw [up2_ne (by omega), up2_ne (by omega), up2_at]
    · rw [up2_ne (by omega), up2_at]
/-- the ints while the node of rank k goes: which pairs are through, the list so far -/
def LGi (c m k : Nat) (row rk : Nat → Nat) (W : Nat → Nat → Option Nat) (I0 t : Nat → Nat → Int32) (pr : Nat → Nat → Prop) (L : List cE) : Prop :=
  (∀ x, x ≠ c → x ≠ c + 35 → x ≠ c + 36 → ¬ inG (c + 1) x → t x = I0 x) ∧ (∀ j, j ≠ 4 → t c j = I0 c j) ∧ hold t c L ∧
  ∀ x y, x < m → y < m → (pr x y → t (c + 1 + 1 + x) y = enD (ctW row rk k W x y)) ∧ (¬ pr x y → t (c + 1 + 1 + x) y = enD (W x y))
theorem LGi.eq {W : Nat → Nat → Option Nat} {I0 t : Nat → Nat → Int32} {pr pr' : Nat → Nat → Prop} {L L' : List cE} (h : LGi c m k row rk W I0 t pr L) (e : ∀ x y, x < m → y < m → (pr' x y ↔ pr x y)) (hL : L' = L) : LGi c m k row rk W I0 t pr' L' := by
  subst hL
  exact ⟨h.1, h.2.1, h.2.2.1, fun x y hx hy => ⟨fun q => (h.2.2.2 x y hx hy).1 ((e x y hx hy).mp q), fun q => (h.2.2.2 x y hx hy).2 (fun z => q ((e x y hx hy).mpr z))⟩⟩
end KC
