theorem on_add_0 (x : Option Nat) : on_add x (some 0) = x := by cases x <;> rfl
theorem on_0_add (x : Option Nat) : on_add (some 0) x = x := by cases x <;> simp [on_add]
/-- the stations: b of OUT of a, a of IN of b -/
def sO (D : Nat → Nat → Option Nat) (row rk : Nat → Nat) (a b : Nat) : Option Nat := if ∀ k, k < rk b → on_add (D a (row k)) (D (row k) b) ≠ D a b then D a b else none
def sI (D : Nat → Nat → Option Nat) (row rk : Nat → Nat) (b a : Nat) : Option Nat := if ∀ k, k < rk a → on_add (D a (row k)) (D (row k) b) ≠ D a b then D a b else none
def cnt (x : Option Nat) : Nat := if x = none then 0 else 1
def chgN (x y : Option Nat) : Nat := if x = y then 0 else if x = none then 1 else if y = none then 1 else 2
def chg (x y : Int32) : Int32 := if x = y then 0 else if x = -1 then 1 else if y = -1 then 1 else 2
theorem chg_en {x y : Option Nat} (hx : on_ok 2000000000 x) (hy : on_ok 2000000000 y) : chg (enD x) (enD y) = nI (chgN x y) := by
  unfold chg chgN
  have e1 : enD x = -1 ↔ x = none := enD_inj (y := none) hx (fun d h => by cases h)
  have e2 : enD y = -1 ↔ y = none := enD_inj (y := none) hy (fun d h => by cases h)
  simp only [enD_inj hx hy, e1, e2]
  split
  · rfl
  · split
    · rfl
    · split <;> rfl
section LB
variable {K : Nat → Option ((Nat ⊕ Nat) × Nat)} {R : Nat → Nat → Option Nat} {n s F o m : Nat} {I : Nat → Nat → Int32} {row rk : Nat → Nat} {D : Nat → Nat → Option Nat}
theorem first_b {a b : Nat} {r : Int32} (hp0 : prm m row rk) (hb : b < m) (hD0 : D b b = some 0) (h : isFirst D row m a b r) : r = nI b ↔ ∀ k, k < rk b → on_add (D a (row k)) (D (row k) b) ≠ D a b := by
  have h16 := hp0.1
  have hb2 := hp0.2.2 b hb
  have hat : on_add (D a (row (rk b))) (D (row (rk b)) b) = D a b := by rw [hb2.2, hD0, on_add_0]
  rcases h with ⟨k, hk, h1, h2, h3⟩ | ⟨h1, -⟩
  · have hrk := hp0.2.1 k hk
    rw [h3, nI_eq (by omega) (by omega)]
    refine ⟨fun q k' hk' => ?_, fun q => ?_⟩
    · rw [← q, hrk.2] at hk'; exact h1 k' hk'
    · rcases Nat.lt_trichotomy k (rk b) with z | z | z
      · exact absurd h2 (q k z)
      · rw [z]; exact hb2.2
      · exact absurd hat (h1 _ z)
  · exact absurd hat (h1 _ hb2.1)
theorem first_a {a b : Nat} {r : Int32} (hp0 : prm m row rk) (ha : a < m) (hD0 : D a a = some 0) (h : isFirst D row m a b r) : r = nI a ↔ ∀ k, k < rk a → on_add (D a (row k)) (D (row k) b) ≠ D a b := by
  have h16 := hp0.1
  have ha2 := hp0.2.2 a ha
  have hat : on_add (D a (row (rk a))) (D (row (rk a)) b) = D a b := by rw [ha2.2, hD0, on_0_add]
  rcases h with ⟨k, hk, h1, h2, h3⟩ | ⟨h1, -⟩
  · have hrk := hp0.2.1 k hk
    rw [h3, nI_eq (by omega) (by omega)]
    refine ⟨fun q k' hk' => ?_, fun q => ?_⟩
    · rw [← q, hrk.2] at hk'; exact h1 k' hk'
    · rcases Nat.lt_trichotomy k (rk a) with z | z | z
      · exact absurd h2 (q k z)
      · rw [z]; exact ha2.2
      · exact absurd hat (h1 _ z)
  · exact absurd hat (h1 _ ha2.1)
theorem L_lay {a v h : Nat} {x : Int32} (S : shL K R a) (hv : v < 16) (hh : h < 16) : f_L_lay F a (nI v) (nI h) x (hp K R n s I) = some (chg (I (a + 1 + 1 + v) h) x, hp K R n s (up2 (up2 I (a + 1 + 1 + v) h x) (a + 18 + 1 + v) h x)) := by
  unfold f_L_lay f_L_lay_47 chg
  simp only [eL_r0 S, Option.bind_some, gd_ald S.g1 hv, gd_ild S.g1 hv hh, gd_ist S.g1 hv hh, eL_r1 S, gd_ald S.g18 hv, gd_ist S.g18 hv hh]
  split
  · rfl
  · split
    · rfl
    · split <;> rfl
/-- the ints behind layPair -/
def lpI (o a b : Nat) (x y : Int32) (I : Nat → Nat → Int32) : Nat → Nat → Int32 := up2 (up2 (up2 (up2 (up2 I (o + 38 + 1 + 1 + a) b x) (o + 38 + 18 + 1 + a) b x) (o + 73 + 1 + 1 + b) a y) (o + 73 + 18 + 1 + b) a y) o 8 (I o 8 + (chg (I (o + 38 + 1 + 1 + a) b) x + chg (I (o + 73 + 1 + 1 + b) a) y))
theorem D_pair {a b : Nat} (hF : 20 ≤ F) (S : shD K R o) (hm : I (o + 1) 0 = nI m) (hp0 : prm m row rk) (hrow : ∀ i, i < m → I (o + 1 + 18) i = nI (row i)) (hD : ∀ x y, x < m → y < m → I (o + 21 + 1 + x) y = enD (D x y) ∧ on_ok 100000000 (D x y)) (hD0 : ∀ x, x < m → D x x = some 0) (ha : a < m) (hb : b < m) :
    f_D_layPair F o (nI a) (nI b) (hp K R n s I) = some (nI (cnt (sO D row rk a b) + cnt (sI D row rk b a)), hp K R n s (lpI o a b (enD (sO D row rk a b)) (enD (sI D row rk b a)) I)) := by
  have h16 := hp0.1
  obtain ⟨r, e, hn, hs⟩ := D_first (F := F) (n := n) (s := s) hF S hm hp0 hrow hD ha hb
  have xab : hm_ild (hp K R n s I) (o + 21 + 1 + a) (nI b) = some (enD (D a b)) := by rw [gd_ild S.g21 (by omega) (by omega), (hD a b ha hb).1]
  -- the tail, for any two values
  have tail : ∀ (x y : Option Nat), on_ok 100000000 x → on_ok 100000000 y → f_D_layPair_43 F o (nI a) (nI b) (enD x) (enD y) (hp K R n s I) = some (nI (cnt x + cnt y), hp K R n s (lpI o a b (enD x) (enD y) I)) := by
    intro x y hx hy
    unfold f_D_layPair_43
    have z1 := L_lay (F := F) (n := n) (s := s) (I := I) (v := a) (h := b) (x := enD x) S.L38 (by omega) (by omega)
    have z2 := L_lay (F := F) (n := n) (s := s) (I := up2 (up2 I (o + 38 + 1 + 1 + a) b (enD x)) (o + 38 + 18 + 1 + a) b (enD x)) (v := b) (h := a) (x := enD y) S.L73 (by omega) (by omega)
    have z3 : up2 (up2 I (o + 38 + 1 + 1 + a) b (enD x)) (o + 38 + 18 + 1 + a) b (enD x) (o + 73 + 1 + 1 + b) a = I (o + 73 + 1 + 1 + b) a := by rw [up2_ne (by omega), up2_ne (by omega)]
    rw [z3] at z2
    simp only [eD_gi S, Option.bind_some, eD_r2 S, eL_is S.L38, z1, hm_and_some, eD_r3 S, eL_is S.L73, z2, eD_pi S]
    have e1 : enD x = -1 ↔ x = none := enD_inj (y := none) (on_ok_mono hx (by omega)) (fun d h => by cases h)
    have e2 : enD y = -1 ↔ y = none := enD_inj (y := none) (on_ok_mono hy (by omega)) (fun d h => by cases h)
    unfold f_D_layPair_88 cnt
    by_cases c1 : x = none <;> by_cases c2 : y = none
    · rw [if_pos (e1.mpr c1), if_pos (e2.mpr c2), if_pos c1, if_pos c2]; rfl
    · rw [if_pos (e1.mpr c1), if_neg (fun q => c2 (e2.mp q)), if_pos c1, if_neg c2]; rfl
    · rw [if_neg (fun q => c1 (e1.mp q)), if_pos (e2.mpr c2), if_neg c1, if_pos c2]; rfl
    · rw [if_neg (fun q => c1 (e1.mp q)), if_neg (fun q => c2 (e2.mp q)), if_neg c1, if_neg c2]; rfl
  have hok := (hD a b ha hb).2
  have hno : on_ok 100000000 none := fun d h => by cases h
  unfold f_D_layPair
  simp only [eD_is S, Option.bind_some, e, hm_and_some]
  have mid : ∀ x : Option Nat, on_ok 100000000 x → f_D_layPair_24 F o (nI a) (nI b) r (enD x) (hp K R n s I) = some (nI (cnt x + cnt (sI D row rk b a)), hp K R n s (lpI o a b (enD x) (enD (sI D row rk b a)) I)) := by
    intro x hx
    unfold f_D_layPair_24
    by_cases q : r = nI a
    · have hsI : sI D row rk b a = D a b := by
        unfold sI
        by_cases hn0 : D a b = none
        · rw [hn0, ite_self]
        · rw [if_pos ((first_a hp0 ha (hD0 a ha) (hs hn0)).mp q)]
      rw [if_pos q]
      simp only [eD_r1 S, Option.bind_some, gd_ald S.g21 (show a < 16 by omega), xab, hsI]
      exact tail x (D a b) hx hok
    · have hsI : sI D row rk b a = none := by
        unfold sI
        by_cases hn0 : D a b = none
        · rw [hn0, ite_self]
        · rw [if_neg (fun z => q ((first_a hp0 ha (hD0 a ha) (hs hn0)).mpr z))]
      rw [if_neg q, hsI]
      exact tail x none hx hno
  by_cases q : r = nI b
  · have hsO : sO D row rk a b = D a b := by
      unfold sO
      by_cases hn0 : D a b = none
      · rw [hn0, ite_self]
      · rw [if_pos ((first_b hp0 hb (hD0 b hb) (hs hn0)).mp q)]
    rw [if_pos q]
    simp only [eD_r1 S, Option.bind_some, gd_ald S.g21 (show a < 16 by omega), xab, hsO]
    exact mid (D a b) hok
  · have hsO : sO D row rk a b = none := by
      unfold sO
      by_cases hn0 : D a b = none
      · rw [hn0, ite_self]
      · rw [if_neg (fun z => q ((first_b hp0 hb (hD0 b hb) (hs hn0)).mpr z))]
    rw [if_neg q, hsO]
    exact mid none hno
end LB
