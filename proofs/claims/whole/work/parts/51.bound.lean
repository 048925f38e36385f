/-! HOW LONG A LEAST WAY CAN BE; what contraction keeps -/
theorem pigeon : ∀ (n : Nat) (l : List Nat), l.Nodup → (∀ x ∈ l, x < n) → l.length ≤ n
  | 0, l, _, h => by
    cases l with
    | nil => exact Nat.le_refl _
    | cons x l => exact absurd (h x List.mem_cons_self) (by omega)
  | n + 1, l, hd, h => by
    by_cases hn : n ∈ l
    · obtain ⟨l1, l2, e, h1⟩ := wk_first l hn
      subst e
      rw [List.nodup_append] at hd
      obtain ⟨d1, d2, d3⟩ := hd
      rw [List.nodup_cons] at d2
      have := pigeon n (l1 ++ l2) (List.nodup_append.mpr ⟨d1, d2.2, fun a ha b hb => d3 a ha b (List.mem_cons_of_mem _ hb)⟩) (fun x hx => by
        have hlt : x < n + 1 := h x (by
          rcases List.mem_append.mp hx with z | z
          · exact List.mem_append_left _ z
          · exact List.mem_append_right _ (List.mem_cons_of_mem _ z))
        have hne : x ≠ n := fun e => by
          subst e
          rcases List.mem_append.mp hx with z | z
          · exact h1 z
          · exact d2.1 z
        omega)
      simp only [List.length_append, List.length_cons] at this ⊢
      omega
    · have := pigeon n l hd (fun x hx => by
        have := h x hx
        have hne : x ≠ n := fun e => hn (e ▸ hx)
        omega)
      omega
theorem wk_nd (L : Nat → Nat → Option Nat) (b : Nat) : ∀ (p : List Nat) (a : Nat), ∃ p' : List Nat, p'.Nodup ∧ (∀ v ∈ p', v ∈ p) ∧ on_le (wk_len L a p' b) (wk_len L a p b)
  | [], a => ⟨[], List.nodup_nil, fun v h => h, on_le_rf _⟩
  | u :: p, a => by
    obtain ⟨p', h1, h2, h3⟩ := wk_nd L b p u
    by_cases hu : u ∈ p'
    · obtain ⟨p1, p2, e, _⟩ := wk_first p' hu
      subst e
      rw [List.nodup_append] at h1
      refine ⟨u :: p2, h1.2.1, fun v hv => ?_, ?_⟩
      · rcases List.mem_cons.mp hv with z | z
        · rw [z]; exact List.mem_cons_self
        · exact List.mem_cons_of_mem _ (h2 v (List.mem_append_right _ (List.mem_cons_of_mem _ z)))
      · refine on_add_mono (on_le_rf _) (on_le_tr ?_ h3)
        rw [wk_app]
        exact on_le_addl _ _
    · refine ⟨u :: p', List.nodup_cons.mpr ⟨hu, h1⟩, fun v hv => ?_, on_add_mono (on_le_rf _) h3⟩
      rcases List.mem_cons.mp hv with z | z
      · rw [z]; exact List.mem_cons_self
      · exact List.mem_cons_of_mem _ (h2 v z)
theorem wk_bd {L : Nat → Nat → Option Nat} {m B b : Nat} (hL : ∀ x y, x < m → y < m → on_ok B (L x y)) (hb : b < m) : ∀ (p : List Nat) (a : Nat), a < m → (∀ v ∈ p, v < m) → on_ok ((p.length + 1) * B) (wk_len L a p b)
  | [], a, ha, _ => by
    rw [show ([] : List Nat).length + 1 = 1 from rfl, Nat.one_mul]
    exact hL a b ha hb
  | u :: p, a, ha, hp => by
    have hu := hp u List.mem_cons_self
    have := on_ok_add (hL a u ha hu) (wk_bd hL hb p u hu (fun v hv => hp v (List.mem_cons_of_mem _ hv)))
    refine on_ok_mono this ?_
    rw [List.length_cons, Nat.add_mul (p.length + 1) 1 B, Nat.one_mul]
    omega
theorem wk_D_bd {L : Nat → Nat → Option Nat} {S : Nat → Prop} {m B a b : Nat} {x : Option Nat} (h16 : m ≤ 16) (hL : ∀ x y, x < m → y < m → on_ok B (L x y)) (hS : ∀ v, S v → v < m) (ha : a < m) (hb : b < m) (h : wk_D L S a b x) : on_ok (17 * B) x := by
  intro d hd
  obtain ⟨p, hp, e⟩ := h.2 d hd
  obtain ⟨p', h1, h2, h3⟩ := wk_nd L b p a
  have hp' : ∀ v ∈ p', v < m := fun v hv => hS v (hp v (h2 v hv))
  have h4 := h.1 p' (fun v hv => hp v (h2 v hv))
  rw [hd] at h4
  rw [e] at h3
  have h5 := wk_bd hL hb p' a ha hp'
  have hlen := pigeon m p' h1 hp'
  cases hw : wk_len L a p' b with
  | none => rw [hw] at h3; exact absurd h3 (fun z => z)
  | some c =>
    rw [hw] at h4
    have h6 := h5 c hw
    have h7 : d ≤ c := h4
    have : (p'.length + 1) * B ≤ 17 * B := Nat.mul_le_mul_right _ (by omega)
    omega
theorem fwG_ok {T : Nat → Nat → Option Nat} {ok : Nat → Bool} {m k B x y : Nat} (h16 : m ≤ 16) (hk : k ≤ m) (hT : ∀ x y, x < m → y < m → on_ok B (T x y)) (hx : x < m) (hy : y < m) : on_ok (17 * B) (fwG T ok k x y) :=
  wk_D_bd h16 hT (fun v hv => by have := hv.1; omega) hx hy (fwG_D T ok k x y)
theorem wk_mono {L L' : Nat → Nat → Option Nat} (h : ∀ x y, on_le (L' x y) (L x y)) (b : Nat) : ∀ (p : List Nat) (a : Nat), on_le (wk_len L' a p b) (wk_len L a p b)
  | [], a => h a b
  | u :: p, a => on_add_mono (h a u) (wk_mono h b p u)
theorem dg_le (L : Nat → Nat → Option Nat) (x y : Nat) : on_le (dg L x y) (L x y) := by
  unfold dg
  split
  · cases L x y <;> simp [on_le]
  · exact on_le_rf _
theorem dg_ne {L : Nat → Nat → Option Nat} {x y : Nat} (h : x ≠ y) : dg L x y = L x y := if_neg h
theorem dg_eq (L : Nat → Nat → Option Nat) (x : Nat) : dg L x x = some 0 := if_pos rfl
/-- a way that may stay has one that doesn't, no longer -/
theorem dg_path (L : Nat → Nat → Option Nat) (b : Nat) : ∀ (p : List Nat) (a : Nat), a ≠ b → ∃ p' : List Nat, (∀ v ∈ p', v ∈ p) ∧ on_le (wk_len L a p' b) (wk_len (dg L) a p b)
  | [], a, h => ⟨[], fun v h => h, by show on_le (L a b) (dg L a b); rw [dg_ne h]; exact on_le_rf _⟩
  | u :: p, a, h => by
    by_cases e1 : a = u
    · subst e1
      obtain ⟨p', h1, h2⟩ := dg_path L b p a h
      refine ⟨p', fun v hv => List.mem_cons_of_mem _ (h1 v hv), ?_⟩
      show on_le _ (on_add (dg L a a) (wk_len (dg L) a p b))
      rw [dg_eq, on_0_add]; exact h2
    · by_cases e2 : u = b
      · subst e2
        refine ⟨[], fun v hv => (by cases hv), ?_⟩
        show on_le (L a u) (on_add (dg L a u) _)
        rw [dg_ne e1]
        exact on_le_addr _ _
      · obtain ⟨p', h1, h2⟩ := dg_path L b p u e2
        refine ⟨u :: p', fun v hv => ?_, ?_⟩
        · rcases List.mem_cons.mp hv with z | z
          · rw [z]; exact List.mem_cons_self
          · exact List.mem_cons_of_mem _ (h1 v z)
        · show on_le (on_add (L a u) _) (on_add (dg L a u) _)
          rw [dg_ne e1]
          exact on_add_mono (on_le_rf _) h2
theorem dg_D {L : Nat → Nat → Option Nat} {S : Nat → Prop} {a b : Nat} {x : Option Nat} (hne : a ≠ b) (h : wk_D (dg L) S a b x) : wk_D L S a b x := by
  refine ⟨fun p hp => on_le_tr (h.1 p hp) (wk_mono (dg_le L) b p a), fun d hd => ?_⟩
  obtain ⟨p, hp, e⟩ := h.2 d hd
  obtain ⟨p', h1, h2⟩ := dg_path L b p a hne
  have h3 := on_le_tr (h.1 p' (fun v hv => hp v (h1 v hv))) (wk_mono (dg_le L) b p' a)
  rw [e, ← hd] at h2
  exact ⟨p', fun v hv => hp v (h1 v hv), (on_le_as h2 h3).trans hd⟩
theorem fw_dg {W : Nat → Nat → Option Nat} {row : Nat → Nat} {k x y : Nat} (hne : x ≠ y) : fwI (dg W) row k x y = fwI W row k x y := wk_D_one (dg_D hne (fw_D (dg W) row k x y)) (fw_D W row k x y)
theorem fw_0 {W : Nat → Nat → Option Nat} {row : Nat → Nat} {k x : Nat} : fwI (dg W) row k x x = some 0 := by
  have h := (fw_D (dg W) row k x x).1 [] (fun v hv => by cases hv)
  rw [show wk_len (dg W) x [] x = some 0 from dg_eq W x] at h
  cases hc : fwI (dg W) row k x x with
  | none => rw [hc] at h; exact absurd h (fun z => z)
  | some d => rw [hc] at h; have h2 : d ≤ 0 := h; rw [show d = 0 by omega]
theorem fw_le {T : Nat → Nat → Option Nat} {row : Nat → Nat} {k x y : Nat} : on_le (fwI T row k x y) (T x y) := (fw_D T row k x y).1 [] (fun v hv => by cases hv)
theorem fw_tri {T : Nat → Nat → Option Nat} {row : Nat → Nat} {k x y z i : Nat} (hi : i < k) (hz : row i = z) : on_le (fwI T row k x y) (on_add (fwI T row k x z) (fwI T row k z y)) := by
  have d1 := fw_D T row k x z
  have d2 := fw_D T row k z y
  cases h1 : fwI T row k x z with
  | none => exact on_le_none _
  | some a =>
    cases h2 : fwI T row k z y with
    | none => exact on_le_none _
    | some b =>
      obtain ⟨p1, q1, e1⟩ := d1.2 a h1
      obtain ⟨p2, q2, e2⟩ := d2.2 b h2
      have := (fw_D T row k x y).1 (p1 ++ z :: p2) (fun v hv => by
        rcases List.mem_append.mp hv with w | w
        · exact q1 v w
        · rcases List.mem_cons.mp w with w | w
          · exact ⟨i, hi, by rw [w]; exact hz⟩
          · exact q2 v w)
      rw [wk_app, e1, e2] at this
      exact this
section KP
variable {m k : Nat} {row rk : Nat → Nat} {W : Nat → Nat → Option Nat}
theorem ctW_le (x y : Nat) : on_le (ctW row rk k W x y) (W x y) := by
  unfold ctW
  by_cases h : ctc row rk k W x y = true
  · rw [if_pos h]
    unfold ctc at h
    simp only [Bool.and_eq_true] at h
    have h2 : on_le (ctb row k W x y) (fwI W row k x y) := by
      have := h.2.2.2
      cases h1 : ctb row k W x y <;> cases h3 : fwI W row k x y <;> simp_all [on_lt, on_le]
      omega
    exact on_le_tr h2 fw_le
  · rw [if_neg h]; exact on_le_rf _
theorem dg_mono {L L' : Nat → Nat → Option Nat} (h : ∀ x y, on_le (L' x y) (L x y)) (x y : Nat) : on_le (dg L' x y) (dg L x y) := by
  unfold dg
  split
  · exact on_le_rf _
  · exact h x y
theorem fw_mono {L L' : Nat → Nat → Option Nat} (h : ∀ x y, on_le (L' x y) (L x y)) (x y : Nat) : on_le (fwI L' row k x y) (fwI L row k x y) := by
  cases hc : fwI L row k x y with
  | none => exact on_le_none _
  | some d =>
    obtain ⟨p, hp, e⟩ := (fw_D L row k x y).2 d hc
    have h1 := (fw_D L' row k x y).1 p hp
    have h2 := wk_mono h y p x
    rw [e] at h2
    exact on_le_tr h1 h2
/-- the going of the node of rank k keeps the least lengths between the others -/
theorem keep (hp0 : prm m row rk) (hk : k < m) {x y : Nat} (hx : x < m) (hy : y < m) (rx : rk x < k) (ry : rk y < k) : fwI (dg (ctW row rk k W)) row k x y = fwI (dg W) row (k + 1) x y := by
  have hrk := hp0.2.1 k hk
  have nv : ∀ u, rk u < k → u ≠ row k := fun u hu e => by rw [e, hrk.2] at hu; omega
  have inS : ∀ {u}, u < m → rk u < k → row (rk u) = u := fun hu _ => (hp0.2.2 _ hu).2
  apply on_le_as
  · -- no longer
    have E0 : ∀ a b, on_le (fwI (dg (ctW row rk k W)) row k a b) (fwI (dg W) row k a b) := fun a b => fw_mono (dg_mono (fun x y => ctW_le x y)) a b
    show on_le _ (on_min (fwI (dg W) row k x y) (on_add (fwI (dg W) row k x (row k)) (fwI (dg W) row k (row k) y)))
    rcases on_min_c (fwI (dg W) row k x y) (on_add (fwI (dg W) row k x (row k)) (fwI (dg W) row k (row k) y)) with q | q
    · rw [q]; exact E0 x y
    · rw [q]
      cases h1 : fwI (dg W) row k x (row k) with
      | none => exact on_le_none _
      | some d1 =>
        cases h2 : fwI (dg W) row k (row k) y with
        | none => exact on_le_none _
        | some d2 =>
          -- the last arc to the node, the first from it
          obtain ⟨u, hu, ru, lu1⟩ : ∃ u, u < m ∧ rk u < k ∧ on_le (on_add (fwI (dg W) row k x u) (W u (row k))) (some d1) := by
            obtain ⟨p, hp, e⟩ := (fw_D (dg W) row k x (row k)).2 d1 h1
            rcases List.eq_nil_or_concat p with z | ⟨p', u, z⟩
            · subst z
              refine ⟨x, hx, rx, ?_⟩
              have e' : dg W x (row k) = some d1 := e
              rw [dg_ne (nv x rx)] at e'
              rw [fw_0, on_0_add, e']
              exact on_le_rf _
            · subst z
              rw [List.concat_eq_append] at hp e
              obtain ⟨i, hi, hu⟩ := hp u (List.mem_append_right _ List.mem_cons_self)
              have hri := hp0.2.1 i (by omega)
              have ru : rk u < k := by rw [← hu, hri.2]; exact hi
              refine ⟨u, by rw [← hu]; exact hri.1, ru, ?_⟩
              rw [wk_snoc, dg_ne (nv u ru)] at e
              rw [← e]
              exact on_add_mono ((fw_D (dg W) row k x u).1 p' (fun v hv => hp v (List.mem_append_left _ hv))) (on_le_rf _)
          obtain ⟨w, hw, rw', lw1⟩ : ∃ w, w < m ∧ rk w < k ∧ on_le (on_add (W (row k) w) (fwI (dg W) row k w y)) (some d2) := by
            obtain ⟨p, hp, e⟩ := (fw_D (dg W) row k (row k) y).2 d2 h2
            cases p with
            | nil =>
              refine ⟨y, hy, ry, ?_⟩
              have e' : dg W (row k) y = some d2 := e
              rw [dg_ne (fun z => nv y ry z.symm)] at e'
              rw [fw_0, on_add_0, e']
              exact on_le_rf _
            | cons w p =>
              obtain ⟨i, hi, hw⟩ := hp w List.mem_cons_self
              have hri := hp0.2.1 i (by omega)
              have rw' : rk w < k := by rw [← hw, hri.2]; exact hi
              refine ⟨w, by rw [← hw]; exact hri.1, rw', ?_⟩
              have e' : on_add (dg W (row k) w) (wk_len (dg W) w p y) = some d2 := e
              rw [dg_ne (fun z => nv w rw' z.symm)] at e'
              rw [← e']
              exact on_add_mono (on_le_rf _) ((fw_D (dg W) row k w y).1 p (fun v hv => hp v (List.mem_cons_of_mem _ hv)))
          have mid : on_le (fwI (dg (ctW row rk k W)) row k u w) (on_add (W u (row k)) (W (row k) w)) := by
            by_cases e : u = w
            · subst e; rw [fw_0]; cases on_add (W u (row k)) (W (row k) u) <;> simp [on_le]
            · by_cases hc : ctc row rk k W u w = true
              · refine on_le_tr fw_le ?_
                rw [dg_ne e]
                unfold ctW
                rw [if_pos hc]
                exact on_le_rf _
              · refine on_le_tr (E0 u w) ?_
                rw [fw_dg e]
                have hn : on_lt (ctb row k W u w) (fwI W row k u w) = false := by
                  unfold ctc at hc
                  simpa [e, ru, rw'] using hc
                show on_le _ (ctb row k W u w)
                cases z1 : ctb row k W u w <;> cases z2 : fwI W row k u w <;> simp_all [on_lt, on_le]
          have t1 := fw_tri (T := dg (ctW row rk k W)) (row := row) (x := x) (y := y) ru (inS hu ru)
          have t2 := fw_tri (T := dg (ctW row rk k W)) (row := row) (x := u) (y := y) rw' (inS hw rw')
          have s1 := on_le_tr t1 (on_add_mono (E0 x u) (on_le_tr t2 (on_add_mono mid (E0 w y))))
          refine on_le_tr s1 ?_
          have s2 := on_add_mono lu1 lw1
          rw [on_add_as] at s2 ⊢
          exact s2
  · -- no shorter
    have one : ∀ a b, on_le (fwI (dg W) row (k + 1) a b) (dg (ctW row rk k W) a b) := fun a b => by
      by_cases e : a = b
      · subst e; rw [fw_0, dg_eq]; exact on_le_rf _
      · rw [dg_ne e]
        unfold ctW
        by_cases hc : ctc row rk k W a b = true
        · rw [if_pos hc]
          have hc2 := hc
          unfold ctc at hc2
          simp only [Bool.and_eq_true, decide_eq_true_eq] at hc2
          refine on_le_tr (fw_tri (z := row k) (Nat.lt_succ_self k) rfl) (on_add_mono ?_ ?_)
          · have := fw_le (T := dg W) (row := row) (k := k + 1) (x := a) (y := row k)
            rw [dg_ne (nv a hc2.2.1)] at this
            exact this
          · have := fw_le (T := dg W) (row := row) (k := k + 1) (x := row k) (y := b)
            rw [dg_ne (fun z => nv b hc2.2.2.1 z.symm)] at this
            exact this
        · rw [if_neg hc]
          have := fw_le (T := dg W) (row := row) (k := k + 1) (x := a) (y := b)
          rw [dg_ne e] at this
          exact this
    have all : ∀ (p : List Nat) (a : Nat), (∀ v ∈ p, ∃ i', i' < k ∧ row i' = v) → on_le (fwI (dg W) row (k + 1) a y) (wk_len (dg (ctW row rk k W)) a p y) := by
      intro p
      induction p with
      | nil => intro a _; exact one a y
      | cons u p ih =>
        intro a hp
        obtain ⟨i, hi, hu⟩ := hp u List.mem_cons_self
        exact on_le_tr (fw_tri (z := u) (show i < k + 1 by omega) hu) (on_add_mono (one a u) (ih u (fun v hv => hp v (List.mem_cons_of_mem _ hv))))
    cases hc : fwI (dg (ctW row rk k W)) row k x y with
    | none => exact on_le_none _
    | some d =>
      obtain ⟨p, hp, e⟩ := (fw_D (dg (ctW row rk k W)) row k x y).2 d hc
      have := all p x hp
      rw [e] at this
      exact this
end KP
