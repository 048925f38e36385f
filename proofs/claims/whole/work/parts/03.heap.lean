
/-! THE HEAP AS MATHEMATICS. hm_T: what kind of cell stands at an address (.inl t: an array; .inr c: an object of the kind c) and its length; its ints; its references; the next address; the slots so far -/
abbrev hm_T : Type := (Nat → Option ((Nat ⊕ Nat) × Nat)) × (Nat → Nat → Int32) × (Nat → Nat → Option Nat) × Nat × Nat
abbrev hm_k (h : hm_T) : Nat → Option ((Nat ⊕ Nat) × Nat) := h.1
abbrev hm_i (h : hm_T) : Nat → Nat → Int32 := h.2.1
abbrev hm_r (h : hm_T) : Nat → Nat → Option Nat := h.2.2.1
abbrev hm_n (h : hm_T) : Nat := h.2.2.2.1
abbrev hm_s (h : hm_T) : Nat := h.2.2.2.2
/-- what is fixed: the numbers and slots of the kinds of objects and of arrays, the first address of ours -/
abbrev hm_E : Type := va_G × (Nat → ClassId) × Nat
def hm_fv (ci : Nat) (h : hm_T) (a k : Nat) : Value := if hm_isr ci k = true then va_rf (hm_r h a k) else .int (hm_i h a k)
def hm_fs (ci n : Nat) (h : hm_T) (a : Nat) : List Value := (List.range n).map (fun k => hm_fv ci h a k)
/-- array kinds: 0 int[], 1 int[] that nobody writes, 2 boolean[]; from 5 on arrays of references: 5 int[][] -/
def hm_ce (cy : Nat → ClassId) (h : hm_T) (a : Nat) (k : Nat ⊕ Nat) (n : Nat) : va_E := match k with
  | .inl t => if t < 5 then .inl (cy t, n, .inl (hm_i h a)) else .inl (cy t, n, .inr (.inr (.inr (.inr (hm_r h a)))))
  | .inr ci => .inr (ci, hm_fs ci n h a)
def hm_at (E : hm_E) (h : hm_T) (H : Heap) : Prop := H.size = hm_n h ∧ ∀ (a : Nat) (k : Nat ⊕ Nat) (n : Nat), hm_k h a = some (k, n) → (k = .inl 1 ∨ E.2.2 ≤ a) ∧ va_at E.1 vwCl (a, hm_ce E.2.1 h a k n) H
def hm_tys (E : hm_E) : List (ClassId × FieldType) := [(E.2.1 0, .int), (E.2.1 1, .int), (E.2.1 2, .boolean), (E.2.1 5, .array .int)]
/-- what is known of the machine's tables, at any state of the run -/
def hm_V (E : hm_E) (s : State) : Prop := va_K E.1 vwCl (hm_tys E) s ∧ (∀ q ∈ hm_nF, va_Nw (.fieldLinkNest q.1 q.2.1 q.2.2.1 q.2.2.2.1 q.2.2.2.2.1 q.2.2.2.2.2) s) ∧ (∀ q ∈ hm_nM, va_Nw (.methodLinkNest q.1 q.2.1 q.2.2.1 q.2.2.2) s) ∧ (Cond.arrayOver (.array .int)).before #[] s = true
theorem hm_V.warm {E : hm_E} {s U : State} (hW : s.WarmedH U.vm) (h : hm_V E s) : hm_V E U := ⟨va_K.moved hW.alike h.1, fun q hq => va_Nw.warmF hW (h.2.1 q hq), fun q hq => va_Nw.warmM hW (h.2.2.1 q hq), over_moved (a := #[]) (a' := #[]) hW.alike h.2.2.2⟩
theorem hm_V.same {E : hm_E} {s U : State} (hv : s.vm = U.vm) (h : hm_V E s) : hm_V E U := ⟨va_K.moved (by rw [hv]; exact Vm.Alike.refl _) h.1, fun q hq => va_Nw.same rfl hv (h.2.1 q hq), fun q hq => va_Nw.same rfl hv (h.2.2.1 q hq), over_moved (a := #[]) (a' := #[]) (by rw [hv]; exact Vm.Alike.refl _) h.2.2.2⟩
/-- a frame's fixed facts -/
def hm_C (E : hm_E) (cc : ByteArray) (nL : Nat) (own : String) (fr lo n0 s0 nE sE : Nat) (p : Program) (R : Room) (s : State) (m : MethodId) (args : Array Value) (c : Code) : Prop :=
  p.tables.exec = Jvm.exec ∧ c.code = cc ∧ c.maxLocals = nL ∧ s.vm.findClass own = some m.cls ∧ (∀ w ∈ hm_big, w.before args s = true) ∧ hm_V E s ∧ s.heap.size = n0 ∧ E.2.2 ≤ n0 ∧ nE ≤ n0 + R.cells ∧ sE ≤ s0 + R.slots ∧ fr ≤ R.frames ∧ lo ≤ R.locals
/-- the machine at pc with locals lv, stack st and the heap h goes on to Q; the heap stays within the room -/
def hm_G (E : hm_E) (nL n0 s0 nE sE : Nat) (p : Program) (l : Launch) (e : Env) (R : Room) (s : State) (m : MethodId) (args : Array Value) (below : List Frame) (meth : Method) (c : Code) (Q : State → Prop) (pc : Nat) (lv : List (Nat × Value)) (st : List Value) (h : hm_T) : Prop :=
  hm_n h ≤ nE ∧ hm_s h ≤ sE ∧ ∀ (H : Heap) (locs : List Loc) (ls : Array Slot), n0 ≤ hm_n h → s0 ≤ hm_s h → hm_at E h H → va_S (fun q => E.2.2 ≤ q) s.heap H locs → lv_has ls nL lv → W p l e R s m args below meth c H locs (hm_n h - n0) (hm_s h - s0) Q (F0 m pc ls st)
theorem hm_bind {α β : Type} {x : Option α} {f : α → Option β} {o : β} (h : x.bind f = some o) : ∃ v, x = some v ∧ f v = some o := by
  cases x with
  | none => cases h
  | some v => exact ⟨v, rfl, h⟩
def hm_and {α β γ : Type} (x : Option (α × β)) (f : α → β → Option γ) : Option γ := match x with
  | none => none
  | some q => f q.1 q.2
theorem hm_and_of {α β γ : Type} {x : Option (α × β)} {f : α → β → Option γ} {o : γ} (h : hm_and x f = some o) : ∃ a b, x = some (a, b) ∧ f a b = some o := by
  cases x with
  | none => cases h
  | some q => exact ⟨q.1, q.2, rfl, h⟩
theorem hm_ifp {α : Type} {c : Prop} [Decidable c] {a b : Option α} {o : α} (h : (if c then a else b) = some o) (hc : c) : a = some o := by rw [if_pos hc] at h; exact h
theorem hm_ifn {α : Type} {c : Prop} [Decidable c] {a b : Option α} {o : α} (h : (if c then a else b) = some o) (hc : ¬ c) : b = some o := by rw [if_neg hc] at h; exact h
theorem hm_one {D : va_G} {cl : List vw_C} {q : Nat × va_E} {H : Heap} (h : va_at D cl q H) : va_P D cl [q] H := fun k x hx => by
  match k, hx with
  | 0, hx => cases hx; exact h
  | k + 1, hx => simp at hx
/-! the heap's own acts, as functions that answer none where the machine would throw -/
def hm_ild (h : hm_T) (a : Nat) (j : Int32) : Option Int32 := (hm_k h a).bind fun q => if (q.1 = .inl 0 ∨ q.1 = .inl 1) ∧ ¬ (j < 0 ∨ q.2 ≤ j.toNatClampNeg) then some (hm_i h a j.toNatClampNeg) else none
def hm_zld (h : hm_T) (a : Nat) (j : Int32) : Option Int32 := (hm_k h a).bind fun q => if q.1 = .inl 2 ∧ ¬ (j < 0 ∨ q.2 ≤ j.toNatClampNeg) then some (hm_i h a j.toNatClampNeg) else none
def hm_ald (h : hm_T) (a : Nat) (j : Int32) : Option Nat := (hm_k h a).bind fun q => if q.1 = .inl 5 ∧ ¬ (j < 0 ∨ q.2 ≤ j.toNatClampNeg) then hm_r h a j.toNatClampNeg else none
def hm_len (h : hm_T) (a : Nat) : Option Int32 := (hm_k h a).bind fun q => if q.1 = .inl 0 ∨ q.1 = .inl 1 then some (Int32.ofNat q.2) else none
def hm_seti (h : hm_T) (a j : Nat) (x : Int32) : hm_T := (h.1, va_up h.2.1 a (va_up (h.2.1 a) j x), h.2.2.1, h.2.2.2.1, h.2.2.2.2)
def hm_setr (h : hm_T) (a j : Nat) (x : Option Nat) : hm_T := (h.1, h.2.1, va_up h.2.2.1 a (va_up (h.2.2.1 a) j x), h.2.2.2.1, h.2.2.2.2)
def hm_ist (h : hm_T) (a : Nat) (j x : Int32) : Option hm_T := (hm_k h a).bind fun q => if q.1 = .inl 0 ∧ ¬ (j < 0 ∨ q.2 ≤ j.toNatClampNeg) then some (hm_seti h a j.toNatClampNeg x) else none
def hm_zst (h : hm_T) (a : Nat) (j x : Int32) : Option hm_T := (hm_k h a).bind fun q => if q.1 = .inl 2 ∧ ¬ (j < 0 ∨ q.2 ≤ j.toNatClampNeg) then some (hm_seti h a j.toNatClampNeg (vp_nar .boolean x)) else none
def hm_gi (ci N k : Nat) (h : hm_T) (a : Nat) : Option Int32 := if hm_k h a = some (.inr ci, N) then some (hm_i h a k) else none
def hm_gr (ci N k : Nat) (h : hm_T) (a : Nat) : Option Nat := if hm_k h a = some (.inr ci, N) then hm_r h a k else none
def hm_pi (ci N k : Nat) (h : hm_T) (a : Nat) (x : Int32) : Option hm_T := if hm_k h a = some (.inr ci, N) then some (hm_seti h a k x) else none
def hm_pz (ci N k : Nat) (h : hm_T) (a : Nat) (x : Int32) : Option hm_T := if hm_k h a = some (.inr ci, N) ∧ (x = 0 ∨ x = 1) then some (hm_seti h a k x) else none
def hm_pr (ci N k : Nat) (h : hm_T) (a b : Nat) : Option hm_T := if hm_k h a = some (.inr ci, N) then some (hm_setr h a k (some b)) else none
/-- a new cell: its address is the next one -/
def hm_mk (h : hm_T) (k : Nat ⊕ Nat) (n : Nat) : hm_T := (va_up h.1 h.2.2.2.1 (some (k, n)), va_up h.2.1 h.2.2.2.1 (fun _ => 0), va_up h.2.2.1 h.2.2.2.1 (fun _ => none), h.2.2.2.1 + 1, h.2.2.2.2 + n)
def hm_new (ci N : Nat) (h : hm_T) : Option (Nat × hm_T) := some (hm_n h, hm_mk h (.inr ci) N)
def hm_newa (t : Nat) (h : hm_T) (j : Int32) : Option (Nat × hm_T) := if ¬ j < 0 ∧ j.toNatClampNeg ≤ 1000000 then some (hm_n h, hm_mk h (.inl t) j.toNatClampNeg) else none
def hm_mkg (h : hm_T) (N M : Nat) : hm_T := (fun a => if a = h.2.2.2.1 then some (.inl 5, N) else if h.2.2.2.1 < a ∧ a ≤ h.2.2.2.1 + N then some (.inl 0, M) else h.1 a, fun a => if h.2.2.2.1 ≤ a ∧ a ≤ h.2.2.2.1 + N then (fun _ => 0) else h.2.1 a, fun a => if a = h.2.2.2.1 then (fun i => if i < N then some (h.2.2.2.1 + 1 + i) else none) else if h.2.2.2.1 < a ∧ a ≤ h.2.2.2.1 + N then (fun _ => none) else h.2.2.1 a, h.2.2.2.1 + 1 + N, h.2.2.2.2 + N + N * M)
def hm_newg (h : hm_T) (i j : Int32) : Option (Nat × hm_T) := if (¬ i < 0 ∧ ¬ j < 0) ∧ i.toNatClampNeg ≤ 1000 ∧ j.toNatClampNeg ≤ 1000 then some (hm_n h, hm_mkg h i.toNatClampNeg j.toNatClampNeg) else none
theorem hm_mk_k (h : hm_T) (k : Nat ⊕ Nat) (n a : Nat) : hm_k (hm_mk h k n) a = if a = hm_n h then some (k, n) else hm_k h a := rfl
theorem hm_mk_i (h : hm_T) (k : Nat ⊕ Nat) (n a : Nat) : hm_i (hm_mk h k n) a = if a = hm_n h then (fun _ => 0) else hm_i h a := rfl
theorem hm_mk_r (h : hm_T) (k : Nat ⊕ Nat) (n a : Nat) : hm_r (hm_mk h k n) a = if a = hm_n h then (fun _ => none) else hm_r h a := rfl
theorem hm_mkg_k (h : hm_T) (N M a : Nat) : hm_k (hm_mkg h N M) a = if a = hm_n h then some (.inl 5, N) else if hm_n h < a ∧ a ≤ hm_n h + N then some (.inl 0, M) else hm_k h a := rfl
theorem hm_mkg_i (h : hm_T) (N M a : Nat) : hm_i (hm_mkg h N M) a = if hm_n h ≤ a ∧ a ≤ hm_n h + N then (fun _ => 0) else hm_i h a := rfl
theorem hm_mkg_r (h : hm_T) (N M a : Nat) : hm_r (hm_mkg h N M) a = if a = hm_n h then (fun i => if i < N then some (hm_n h + 1 + i) else none) else if hm_n h < a ∧ a ≤ hm_n h + N then (fun _ => none) else hm_r h a := rfl
theorem hm_mkg_n (h : hm_T) (N M : Nat) : hm_n (hm_mkg h N M) = hm_n h + 1 + N := rfl
theorem hm_mkg_s (h : hm_T) (N M : Nat) : hm_s (hm_mkg h N M) = hm_s h + N + N * M := rfl
theorem hm_ild_of {h : hm_T} {a : Nat} {j v : Int32} (hv : hm_ild h a j = some v) : ∃ (k : Nat ⊕ Nat) (n : Nat), hm_k h a = some (k, n) ∧ (k = .inl 0 ∨ k = .inl 1) ∧ vp_in j n ∧ v = hm_i h a j.toNatClampNeg := by
  obtain ⟨⟨k, n⟩, h1, h2⟩ := hm_bind hv
  by_cases hc : (k = .inl 0 ∨ k = .inl 1) ∧ ¬ (j < 0 ∨ n ≤ j.toNatClampNeg)
  · rw [if_pos hc] at h2
    exact ⟨k, n, h1, hc.1, hc.2, (Option.some.inj h2).symm⟩
  · rw [if_neg hc] at h2
    cases h2
theorem hm_zld_of {h : hm_T} {a : Nat} {j v : Int32} (hv : hm_zld h a j = some v) : ∃ (n : Nat), hm_k h a = some (.inl 2, n) ∧ vp_in j n ∧ v = hm_i h a j.toNatClampNeg := by
  obtain ⟨⟨k, n⟩, h1, h2⟩ := hm_bind hv
  by_cases hc : k = .inl 2 ∧ ¬ (j < 0 ∨ n ≤ j.toNatClampNeg)
  · rw [if_pos hc] at h2
    exact ⟨n, by rw [h1, hc.1], hc.2, (Option.some.inj h2).symm⟩
  · rw [if_neg hc] at h2
    cases h2
theorem hm_ald_of {h : hm_T} {a v : Nat} {j : Int32} (hv : hm_ald h a j = some v) : ∃ (n : Nat), hm_k h a = some (.inl 5, n) ∧ vp_in j n ∧ hm_r h a j.toNatClampNeg = some v := by
  obtain ⟨⟨k, n⟩, h1, h2⟩ := hm_bind hv
  by_cases hc : k = .inl 5 ∧ ¬ (j < 0 ∨ n ≤ j.toNatClampNeg)
  · rw [if_pos hc] at h2
    exact ⟨n, by rw [h1, hc.1], hc.2, h2⟩
  · rw [if_neg hc] at h2
    cases h2
theorem hm_len_of {h : hm_T} {a : Nat} {v : Int32} (hv : hm_len h a = some v) : ∃ (k : Nat ⊕ Nat) (n : Nat), hm_k h a = some (k, n) ∧ (k = .inl 0 ∨ k = .inl 1) ∧ v = Int32.ofNat n := by
  obtain ⟨⟨k, n⟩, h1, h2⟩ := hm_bind hv
  by_cases hc : k = .inl 0 ∨ k = .inl 1
  · rw [if_pos hc] at h2
    exact ⟨k, n, h1, hc, (Option.some.inj h2).symm⟩
  · rw [if_neg hc] at h2
    cases h2
theorem hm_ist_of {h h' : hm_T} {a : Nat} {j x : Int32} (hv : hm_ist h a j x = some h') : ∃ (n : Nat), hm_k h a = some (.inl 0, n) ∧ vp_in j n ∧ h' = hm_seti h a j.toNatClampNeg x := by
  obtain ⟨⟨k, n⟩, h1, h2⟩ := hm_bind hv
  by_cases hc : k = .inl 0 ∧ ¬ (j < 0 ∨ n ≤ j.toNatClampNeg)
  · rw [if_pos hc] at h2
    exact ⟨n, by rw [h1, hc.1], hc.2, (Option.some.inj h2).symm⟩
  · rw [if_neg hc] at h2
    cases h2
theorem hm_zst_of {h h' : hm_T} {a : Nat} {j x : Int32} (hv : hm_zst h a j x = some h') : ∃ (n : Nat), hm_k h a = some (.inl 2, n) ∧ vp_in j n ∧ h' = hm_seti h a j.toNatClampNeg (vp_nar .boolean x) := by
  obtain ⟨⟨k, n⟩, h1, h2⟩ := hm_bind hv
  by_cases hc : k = .inl 2 ∧ ¬ (j < 0 ∨ n ≤ j.toNatClampNeg)
  · rw [if_pos hc] at h2
    exact ⟨n, by rw [h1, hc.1], hc.2, (Option.some.inj h2).symm⟩
  · rw [if_neg hc] at h2
    cases h2
theorem hm_gi_of {ci N k a : Nat} {h : hm_T} {v : Int32} (hv : hm_gi ci N k h a = some v) : hm_k h a = some (.inr ci, N) ∧ v = hm_i h a k := by
  by_cases hc : hm_k h a = some (.inr ci, N)
  · exact ⟨hc, (Option.some.inj (hm_ifp hv hc)).symm⟩
  · cases hm_ifn hv hc
theorem hm_gr_of {ci N k a v : Nat} {h : hm_T} (hv : hm_gr ci N k h a = some v) : hm_k h a = some (.inr ci, N) ∧ hm_r h a k = some v := by
  by_cases hc : hm_k h a = some (.inr ci, N)
  · exact ⟨hc, hm_ifp hv hc⟩
  · cases hm_ifn hv hc
theorem hm_pi_of {ci N k a : Nat} {h h' : hm_T} {x : Int32} (hv : hm_pi ci N k h a x = some h') : hm_k h a = some (.inr ci, N) ∧ h' = hm_seti h a k x := by
  by_cases hc : hm_k h a = some (.inr ci, N)
  · exact ⟨hc, (Option.some.inj (hm_ifp hv hc)).symm⟩
  · cases hm_ifn hv hc
theorem hm_pz_of {ci N k a : Nat} {h h' : hm_T} {x : Int32} (hv : hm_pz ci N k h a x = some h') : hm_k h a = some (.inr ci, N) ∧ (x = 0 ∨ x = 1) ∧ h' = hm_seti h a k x := by
  by_cases hc : hm_k h a = some (.inr ci, N) ∧ (x = 0 ∨ x = 1)
  · exact ⟨hc.1, hc.2, (Option.some.inj (hm_ifp hv hc)).symm⟩
  · cases hm_ifn hv hc
theorem hm_pr_of {ci N k a b : Nat} {h h' : hm_T} (hv : hm_pr ci N k h a b = some h') : hm_k h a = some (.inr ci, N) ∧ h' = hm_setr h a k (some b) := by
  by_cases hc : hm_k h a = some (.inr ci, N)
  · exact ⟨hc, (Option.some.inj (hm_ifp hv hc)).symm⟩
  · cases hm_ifn hv hc
theorem hm_ce_off {cy : Nat → ClassId} {h h' : hm_T} {b : Nat} (hi : hm_i h' b = hm_i h b) (hr : hm_r h' b = hm_r h b) (k : Nat ⊕ Nat) (n : Nat) : hm_ce cy h' b k n = hm_ce cy h b k n := by
  cases k with
  | inl t => simp only [hm_ce, hi, hr]
  | inr ci => simp only [hm_ce, hm_fs, hm_fv, hi, hr]
/-- one cell is written, the rest stays -/
theorem hm_at.set {E : hm_E} {h h' : hm_T} {H H' : Heap} {a n : Nat} {k : Nat ⊕ Nat} (A : hm_at E h H) (hk : hm_k h a = some (k, n)) (e1 : hm_k h' = hm_k h) (ei : ∀ b, b ≠ a → hm_i h' b = hm_i h b) (er : ∀ b, b ≠ a → hm_r h' b = hm_r h b) (en : hm_n h' = hm_n h) (z : H'.size = H.size) (oq : ∀ q : Nat, q ≠ a → H'[q]? = H[q]?) (he : va_at E.1 vwCl (a, hm_ce E.2.1 h' a k n) H') : hm_at E h' H' := by
  refine ⟨by rw [z, A.1, en], fun b k' n' hb => ?_⟩
  rw [e1] at hb
  obtain ⟨hx, hy⟩ := A.2 b k' n' hb
  refine ⟨hx, ?_⟩
  by_cases hba : b = a
  · subst hba
    rw [hk] at hb
    cases hb
    exact he
  · rw [hm_ce_off (ei b hba) (er b hba)]
    exact hy.kept (oq b hba)
/-- a cell comes -/
theorem hm_at.new {E : hm_E} {h : hm_T} {H H' : Heap} {n : Nat} {k : Nat ⊕ Nat} (A : hm_at E h H) (hE : E.2.2 ≤ hm_n h) (z : H'.size = hm_n h + 1) (oq : ∀ q : Nat, q < hm_n h → H'[q]? = H[q]?) (he : va_at E.1 vwCl (hm_n h, hm_ce E.2.1 (hm_mk h k n) (hm_n h) k n) H') : hm_at E (hm_mk h k n) H' := by
  refine ⟨z, fun b k' n' hb => ?_⟩
  by_cases hba : b = hm_n h
  · subst hba
    have hb2 : some (k, n) = some (k', n') := by rw [← hb]; simp [hm_mk, va_up, hm_i, hm_r, hm_k, hm_n, hm_s]
    cases hb2
    exact ⟨Or.inr hE, he⟩
  · have hb2 : hm_k h b = some (k', n') := by rw [← hb]; simp [hm_mk, va_up, hba, hm_i, hm_r, hm_k, hm_n, hm_s]
    obtain ⟨hx, hy⟩ := A.2 b k' n' hb2
    refine ⟨hx, ?_⟩
    have hlt : b < hm_n h := by rw [← A.1]; exact hy.lt
    rw [hm_ce_off (h := h) (by simp [hm_mk, va_up, hba, hm_i, hm_r, hm_k, hm_n, hm_s]) (by simp [hm_mk, va_up, hba, hm_i, hm_r, hm_k, hm_n, hm_s])]
    exact hy.kept (oq b hlt)
theorem hm_fs_get {ci n k a : Nat} {h : hm_T} (hk : k < n) : (hm_fs ci n h a)[k]? = some (hm_fv ci h a k) := by
  simp [hm_fs, hk, hm_i, hm_r, hm_k, hm_n, hm_s]
theorem hm_fs_len {ci n a : Nat} {h : hm_T} : (hm_fs ci n h a).length = n := by simp [hm_fs, hm_i, hm_r, hm_k, hm_n, hm_s]
theorem hm_fs_V {ci n k a : Nat} {h : hm_T} (hk : k < n) : vp_V (hm_fs ci n h a) k = hm_fv ci h a k := by
  simp [vp_V, hm_fs, hk]


section HM
variable {p : Program} {l : Launch} {e : Env} {R : Room} {s : State} {m : MethodId} {args : Array Value} {below : List Frame} {meth : Method} {c : Code} {Q : State → Prop} {E : hm_E} {cc : ByteArray} {nL : Nat} {own : String} {fr lo n0 s0 nE sE : Nat} {pc : Nat} {lv lv' : List (Nat × Value)} {st : List Value} {h h' : hm_T}

theorem hm_iconst (C : hm_C E cc nL own fr lo n0 s0 nE sE p R s m args c) {n : Int} {v : Int32} (d : decode cc pc = .ok (.iconst n, 1)) (hv : Int32.ofInt n = v) (k : hm_G E nL n0 s0 nE sE p l e R s m args below meth c Q (pc + 1) lv (.int v :: st) h) : hm_G E nL n0 s0 nE sE p l e R s m args below meth c Q pc lv st h := ⟨k.1, k.2.1, fun H locs ls a1 a2 a3 a4 a5 => lv_iconst C.1 C.2.1 d hv (k.2.2 H locs ls a1 a2 a3 a4 a5)⟩
theorem hm_bipush (C : hm_C E cc nL own fr lo n0 s0 nE sE p R s m args c) {n : Int} {v : Int32} (d : decode cc pc = .ok (.bipush n, 2)) (hv : (Int8.ofInt n).toInt32 = v) (k : hm_G E nL n0 s0 nE sE p l e R s m args below meth c Q (pc + 2) lv (.int v :: st) h) : hm_G E nL n0 s0 nE sE p l e R s m args below meth c Q pc lv st h := ⟨k.1, k.2.1, fun H locs ls a1 a2 a3 a4 a5 => lv_bipush C.1 C.2.1 d hv (k.2.2 H locs ls a1 a2 a3 a4 a5)⟩
theorem hm_sipush (C : hm_C E cc nL own fr lo n0 s0 nE sE p R s m args c) {n : Int} {v : Int32} (d : decode cc pc = .ok (.sipush n, 3)) (hv : (Int16.ofInt n).toInt32 = v) (k : hm_G E nL n0 s0 nE sE p l e R s m args below meth c Q (pc + 3) lv (.int v :: st) h) : hm_G E nL n0 s0 nE sE p l e R s m args below meth c Q pc lv st h := ⟨k.1, k.2.1, fun H locs ls a1 a2 a3 a4 a5 => lv_sipush C.1 C.2.1 d hv (k.2.2 H locs ls a1 a2 a3 a4 a5)⟩
theorem hm_iload_n (C : hm_C E cc nL own fr lo n0 s0 nE sE p R s m args c) {k0 : Fin 4} {i : Nat} {x : Int32} (d : decode cc pc = .ok (.iload_n k0, 1)) (hi : (k0 : Nat) = i) (j : Nat) (hj : lv[j]? = some (i, .int x)) (k : hm_G E nL n0 s0 nE sE p l e R s m args below meth c Q (pc + 1) lv (.int x :: st) h) : hm_G E nL n0 s0 nE sE p l e R s m args below meth c Q pc lv st h := ⟨k.1, k.2.1, fun H locs ls a1 a2 a3 a4 a5 => lv_iload_n C.1 C.2.1 d hi (lv_at a5 j hj) (k.2.2 H locs ls a1 a2 a3 a4 a5)⟩
theorem hm_iload (C : hm_C E cc nL own fr lo n0 s0 nE sE p R s m args c) {i : Nat} {x : Int32} (d : decode cc pc = .ok (.iload i, 2)) (j : Nat) (hj : lv[j]? = some (i, .int x)) (k : hm_G E nL n0 s0 nE sE p l e R s m args below meth c Q (pc + 2) lv (.int x :: st) h) : hm_G E nL n0 s0 nE sE p l e R s m args below meth c Q pc lv st h := ⟨k.1, k.2.1, fun H locs ls a1 a2 a3 a4 a5 => lv_iload C.1 C.2.1 d (lv_at a5 j hj) (k.2.2 H locs ls a1 a2 a3 a4 a5)⟩
theorem hm_aload_n (C : hm_C E cc nL own fr lo n0 s0 nE sE p R s m args c) {k0 : Fin 4} {i x : Nat} (d : decode cc pc = .ok (.aload_n k0, 1)) (hi : (k0 : Nat) = i) (j : Nat) (hj : lv[j]? = some (i, .ref x)) (k : hm_G E nL n0 s0 nE sE p l e R s m args below meth c Q (pc + 1) lv (.ref x :: st) h) : hm_G E nL n0 s0 nE sE p l e R s m args below meth c Q pc lv st h := ⟨k.1, k.2.1, fun H locs ls a1 a2 a3 a4 a5 => lv_aload_n C.1 C.2.1 d hi (lv_at a5 j hj) (k.2.2 H locs ls a1 a2 a3 a4 a5)⟩
theorem hm_aload (C : hm_C E cc nL own fr lo n0 s0 nE sE p R s m args c) {i x : Nat} (d : decode cc pc = .ok (.aload i, 2)) (j : Nat) (hj : lv[j]? = some (i, .ref x)) (k : hm_G E nL n0 s0 nE sE p l e R s m args below meth c Q (pc + 2) lv (.ref x :: st) h) : hm_G E nL n0 s0 nE sE p l e R s m args below meth c Q pc lv st h := ⟨k.1, k.2.1, fun H locs ls a1 a2 a3 a4 a5 => lv_aload C.1 C.2.1 d (lv_at a5 j hj) (k.2.2 H locs ls a1 a2 a3 a4 a5)⟩
theorem hm_iadd (C : hm_C E cc nL own fr lo n0 s0 nE sE p R s m args c) {x y : Int32} (d : decode cc pc = .ok (.iadd, 1))  (k : hm_G E nL n0 s0 nE sE p l e R s m args below meth c Q (pc + 1) lv (.int (x + y) :: st) h) : hm_G E nL n0 s0 nE sE p l e R s m args below meth c Q pc lv (.int y :: .int x :: st) h := ⟨k.1, k.2.1, fun H locs ls a1 a2 a3 a4 a5 => lv_iadd C.1 C.2.1 d  (k.2.2 H locs ls a1 a2 a3 a4 a5)⟩
theorem hm_isub (C : hm_C E cc nL own fr lo n0 s0 nE sE p R s m args c) {x y : Int32} (d : decode cc pc = .ok (.isub, 1))  (k : hm_G E nL n0 s0 nE sE p l e R s m args below meth c Q (pc + 1) lv (.int (x - y) :: st) h) : hm_G E nL n0 s0 nE sE p l e R s m args below meth c Q pc lv (.int y :: .int x :: st) h := ⟨k.1, k.2.1, fun H locs ls a1 a2 a3 a4 a5 => lv_isub C.1 C.2.1 d  (k.2.2 H locs ls a1 a2 a3 a4 a5)⟩
theorem hm_imul (C : hm_C E cc nL own fr lo n0 s0 nE sE p R s m args c) {x y : Int32} (d : decode cc pc = .ok (.imul, 1))  (k : hm_G E nL n0 s0 nE sE p l e R s m args below meth c Q (pc + 1) lv (.int (x * y) :: st) h) : hm_G E nL n0 s0 nE sE p l e R s m args below meth c Q pc lv (.int y :: .int x :: st) h := ⟨k.1, k.2.1, fun H locs ls a1 a2 a3 a4 a5 => lv_imul C.1 C.2.1 d  (k.2.2 H locs ls a1 a2 a3 a4 a5)⟩
theorem hm_iand (C : hm_C E cc nL own fr lo n0 s0 nE sE p R s m args c) {x y : Int32} (d : decode cc pc = .ok (.iand, 1))  (k : hm_G E nL n0 s0 nE sE p l e R s m args below meth c Q (pc + 1) lv (.int (x &&& y) :: st) h) : hm_G E nL n0 s0 nE sE p l e R s m args below meth c Q pc lv (.int y :: .int x :: st) h := ⟨k.1, k.2.1, fun H locs ls a1 a2 a3 a4 a5 => lv_iand C.1 C.2.1 d  (k.2.2 H locs ls a1 a2 a3 a4 a5)⟩
theorem hm_ior (C : hm_C E cc nL own fr lo n0 s0 nE sE p R s m args c) {x y : Int32} (d : decode cc pc = .ok (.ior, 1))  (k : hm_G E nL n0 s0 nE sE p l e R s m args below meth c Q (pc + 1) lv (.int (x ||| y) :: st) h) : hm_G E nL n0 s0 nE sE p l e R s m args below meth c Q pc lv (.int y :: .int x :: st) h := ⟨k.1, k.2.1, fun H locs ls a1 a2 a3 a4 a5 => lv_ior C.1 C.2.1 d  (k.2.2 H locs ls a1 a2 a3 a4 a5)⟩
theorem hm_ixor (C : hm_C E cc nL own fr lo n0 s0 nE sE p R s m args c) {x y : Int32} (d : decode cc pc = .ok (.ixor, 1))  (k : hm_G E nL n0 s0 nE sE p l e R s m args below meth c Q (pc + 1) lv (.int (x ^^^ y) :: st) h) : hm_G E nL n0 s0 nE sE p l e R s m args below meth c Q pc lv (.int y :: .int x :: st) h := ⟨k.1, k.2.1, fun H locs ls a1 a2 a3 a4 a5 => lv_ixor C.1 C.2.1 d  (k.2.2 H locs ls a1 a2 a3 a4 a5)⟩
theorem hm_ishl (C : hm_C E cc nL own fr lo n0 s0 nE sE p R s m args c) {x y : Int32} (d : decode cc pc = .ok (.ishl, 1))  (k : hm_G E nL n0 s0 nE sE p l e R s m args below meth c Q (pc + 1) lv (.int (x <<< (y &&& 31)) :: st) h) : hm_G E nL n0 s0 nE sE p l e R s m args below meth c Q pc lv (.int y :: .int x :: st) h := ⟨k.1, k.2.1, fun H locs ls a1 a2 a3 a4 a5 => lv_ishl C.1 C.2.1 d  (k.2.2 H locs ls a1 a2 a3 a4 a5)⟩
theorem hm_ishr (C : hm_C E cc nL own fr lo n0 s0 nE sE p R s m args c) {x y : Int32} (d : decode cc pc = .ok (.ishr, 1))  (k : hm_G E nL n0 s0 nE sE p l e R s m args below meth c Q (pc + 1) lv (.int (x >>> (y &&& 31)) :: st) h) : hm_G E nL n0 s0 nE sE p l e R s m args below meth c Q pc lv (.int y :: .int x :: st) h := ⟨k.1, k.2.1, fun H locs ls a1 a2 a3 a4 a5 => lv_ishr C.1 C.2.1 d  (k.2.2 H locs ls a1 a2 a3 a4 a5)⟩
theorem hm_idiv (C : hm_C E cc nL own fr lo n0 s0 nE sE p R s m args c) {x y : Int32} (d : decode cc pc = .ok (.idiv, 1)) (hne : ¬ y = 0) (k : hm_G E nL n0 s0 nE sE p l e R s m args below meth c Q (pc + 1) lv (.int (x / y) :: st) h) : hm_G E nL n0 s0 nE sE p l e R s m args below meth c Q pc lv (.int y :: .int x :: st) h := ⟨k.1, k.2.1, fun H locs ls a1 a2 a3 a4 a5 => lv_idiv C.1 C.2.1 d hne (k.2.2 H locs ls a1 a2 a3 a4 a5)⟩
theorem hm_irem (C : hm_C E cc nL own fr lo n0 s0 nE sE p R s m args c) {x y : Int32} (d : decode cc pc = .ok (.irem, 1)) (hne : ¬ y = 0) (k : hm_G E nL n0 s0 nE sE p l e R s m args below meth c Q (pc + 1) lv (.int (x - x / y * y) :: st) h) : hm_G E nL n0 s0 nE sE p l e R s m args below meth c Q pc lv (.int y :: .int x :: st) h := ⟨k.1, k.2.1, fun H locs ls a1 a2 a3 a4 a5 => lv_irem C.1 C.2.1 d hne (k.2.2 H locs ls a1 a2 a3 a4 a5)⟩
theorem hm_ineg (C : hm_C E cc nL own fr lo n0 s0 nE sE p R s m args c) {x : Int32} (d : decode cc pc = .ok (.ineg, 1))  (k : hm_G E nL n0 s0 nE sE p l e R s m args below meth c Q (pc + 1) lv (.int (-x) :: st) h) : hm_G E nL n0 s0 nE sE p l e R s m args below meth c Q pc lv (.int x :: st) h := ⟨k.1, k.2.1, fun H locs ls a1 a2 a3 a4 a5 => lv_ineg C.1 C.2.1 d  (k.2.2 H locs ls a1 a2 a3 a4 a5)⟩
theorem hm_iushr (C : hm_C E cc nL own fr lo n0 s0 nE sE p R s m args c) {x y v : Int32} (d : decode cc pc = .ok (.iushr, 1)) (hv : (x.toUInt32 >>> (y.toUInt32 &&& Int32.toUInt32 31)).toInt32 = v) (k : hm_G E nL n0 s0 nE sE p l e R s m args below meth c Q (pc + 1) lv (.int v :: st) h) : hm_G E nL n0 s0 nE sE p l e R s m args below meth c Q pc lv (.int y :: .int x :: st) h := ⟨k.1, k.2.1, fun H locs ls a1 a2 a3 a4 a5 => lv_iushr C.1 C.2.1 d hv (k.2.2 H locs ls a1 a2 a3 a4 a5)⟩
theorem hm_dup (C : hm_C E cc nL own fr lo n0 s0 nE sE p R s m args c) {va : Value} (d : decode cc pc = .ok (.dup, 1)) (hva : va.category = 1) (k : hm_G E nL n0 s0 nE sE p l e R s m args below meth c Q (pc + 1) lv (va :: va :: st) h) : hm_G E nL n0 s0 nE sE p l e R s m args below meth c Q pc lv (va :: st) h := ⟨k.1, k.2.1, fun H locs ls a1 a2 a3 a4 a5 => lv_dup C.1 C.2.1 d hva (k.2.2 H locs ls a1 a2 a3 a4 a5)⟩
theorem hm_pop (C : hm_C E cc nL own fr lo n0 s0 nE sE p R s m args c) {va : Value} (d : decode cc pc = .ok (.pop, 1)) (hva : va.category = 1) (k : hm_G E nL n0 s0 nE sE p l e R s m args below meth c Q (pc + 1) lv st h) : hm_G E nL n0 s0 nE sE p l e R s m args below meth c Q pc lv (va :: st) h := ⟨k.1, k.2.1, fun H locs ls a1 a2 a3 a4 a5 => lv_pop C.1 C.2.1 d hva (k.2.2 H locs ls a1 a2 a3 a4 a5)⟩
theorem hm_dup_x1 (C : hm_C E cc nL own fr lo n0 s0 nE sE p R s m args c) {va vb : Value} (d : decode cc pc = .ok (.dup_x1, 1)) (hva : va.category = 1) (hvb : vb.category = 1) (k : hm_G E nL n0 s0 nE sE p l e R s m args below meth c Q (pc + 1) lv (va :: vb :: va :: st) h) : hm_G E nL n0 s0 nE sE p l e R s m args below meth c Q pc lv (va :: vb :: st) h := ⟨k.1, k.2.1, fun H locs ls a1 a2 a3 a4 a5 => lv_dup_x1 C.1 C.2.1 d hva hvb (k.2.2 H locs ls a1 a2 a3 a4 a5)⟩
theorem hm_dup_x2 (C : hm_C E cc nL own fr lo n0 s0 nE sE p R s m args c) {va vb vd : Value} (d : decode cc pc = .ok (.dup_x2, 1)) (hva : va.category = 1) (hvb : vb.category = 1) (hvd : vd.category = 1) (k : hm_G E nL n0 s0 nE sE p l e R s m args below meth c Q (pc + 1) lv (va :: vb :: vd :: va :: st) h) : hm_G E nL n0 s0 nE sE p l e R s m args below meth c Q pc lv (va :: vb :: vd :: st) h := ⟨k.1, k.2.1, fun H locs ls a1 a2 a3 a4 a5 => lv_dup_x2 C.1 C.2.1 d hva hvb hvd (k.2.2 H locs ls a1 a2 a3 a4 a5)⟩
theorem hm_dup2 (C : hm_C E cc nL own fr lo n0 s0 nE sE p R s m args c) {va vb : Value} (d : decode cc pc = .ok (.dup2, 1)) (hva : va.category = 1) (hvb : vb.category = 1) (k : hm_G E nL n0 s0 nE sE p l e R s m args below meth c Q (pc + 1) lv (va :: vb :: va :: vb :: st) h) : hm_G E nL n0 s0 nE sE p l e R s m args below meth c Q pc lv (va :: vb :: st) h := ⟨k.1, k.2.1, fun H locs ls a1 a2 a3 a4 a5 => lv_dup2_11 C.1 C.2.1 d hva hvb (k.2.2 H locs ls a1 a2 a3 a4 a5)⟩
theorem hm_istore_n (C : hm_C E cc nL own fr lo n0 s0 nE sE p R s m args c) {k0 : Fin 4} {i : Nat} {x : Int32} (d : decode cc pc = .ok (.istore_n k0, 1)) (hi : (k0 : Nat) = i) (hn : i < nL) (hl : (i, Value.int x) :: lv.filter (fun q => !(q.1 == i) && !(q.1 + 1 == i && q.2.category == 2)) = lv') (k : hm_G E nL n0 s0 nE sE p l e R s m args below meth c Q (pc + 1) lv' st h) : hm_G E nL n0 s0 nE sE p l e R s m args below meth c Q pc lv (.int x :: st) h := ⟨k.1, k.2.1, fun H locs ls a1 a2 a3 a4 a5 => lv_istore_n C.1 C.2.1 d hi a5 hn hl (fun ls' a5' => k.2.2 H locs ls' a1 a2 a3 a4 a5')⟩
theorem hm_istore (C : hm_C E cc nL own fr lo n0 s0 nE sE p R s m args c) {i : Nat} {x : Int32} (d : decode cc pc = .ok (.istore i, 2)) (hn : i < nL) (hl : (i, Value.int x) :: lv.filter (fun q => !(q.1 == i) && !(q.1 + 1 == i && q.2.category == 2)) = lv') (k : hm_G E nL n0 s0 nE sE p l e R s m args below meth c Q (pc + 2) lv' st h) : hm_G E nL n0 s0 nE sE p l e R s m args below meth c Q pc lv (.int x :: st) h := ⟨k.1, k.2.1, fun H locs ls a1 a2 a3 a4 a5 => lv_istore C.1 C.2.1 d a5 hn hl (fun ls' a5' => k.2.2 H locs ls' a1 a2 a3 a4 a5')⟩
theorem hm_astore_n (C : hm_C E cc nL own fr lo n0 s0 nE sE p R s m args c) {k0 : Fin 4} {i : Nat} {x : Nat} (d : decode cc pc = .ok (.astore_n k0, 1)) (hi : (k0 : Nat) = i) (hn : i < nL) (hl : (i, Value.ref x) :: lv.filter (fun q => !(q.1 == i) && !(q.1 + 1 == i && q.2.category == 2)) = lv') (k : hm_G E nL n0 s0 nE sE p l e R s m args below meth c Q (pc + 1) lv' st h) : hm_G E nL n0 s0 nE sE p l e R s m args below meth c Q pc lv (.ref x :: st) h := ⟨k.1, k.2.1, fun H locs ls a1 a2 a3 a4 a5 => lv_astore_n C.1 C.2.1 d hi a5 hn hl (fun ls' a5' => k.2.2 H locs ls' a1 a2 a3 a4 a5')⟩
theorem hm_astore (C : hm_C E cc nL own fr lo n0 s0 nE sE p R s m args c) {i : Nat} {x : Nat} (d : decode cc pc = .ok (.astore i, 2)) (hn : i < nL) (hl : (i, Value.ref x) :: lv.filter (fun q => !(q.1 == i) && !(q.1 + 1 == i && q.2.category == 2)) = lv') (k : hm_G E nL n0 s0 nE sE p l e R s m args below meth c Q (pc + 2) lv' st h) : hm_G E nL n0 s0 nE sE p l e R s m args below meth c Q pc lv (.ref x :: st) h := ⟨k.1, k.2.1, fun H locs ls a1 a2 a3 a4 a5 => lv_astore C.1 C.2.1 d a5 hn hl (fun ls' a5' => k.2.2 H locs ls' a1 a2 a3 a4 a5')⟩
theorem hm_iinc (C : hm_C E cc nL own fr lo n0 s0 nE sE p R s m args c) {i : Nat} {n : Int} {x v : Int32} (d : decode cc pc = .ok (.iinc i n, 3)) (j : Nat) (hj : lv[j]? = some (i, .int x)) (hv : x + Int32.ofInt n = v) (hn : i < nL) (hl : (i, Value.int v) :: lv.filter (fun q => !(q.1 == i) && !(q.1 + 1 == i && q.2.category == 2)) = lv') (k : hm_G E nL n0 s0 nE sE p l e R s m args below meth c Q (pc + 3) lv' st h) : hm_G E nL n0 s0 nE sE p l e R s m args below meth c Q pc lv st h := ⟨k.1, k.2.1, fun H locs ls a1 a2 a3 a4 a5 => lv_iinc C.1 C.2.1 d a5 hj hv hn hl (fun ls' a5' => k.2.2 H locs ls' a1 a2 a3 a4 a5')⟩
theorem hm_sub (ks : List Nat) (hl : lv_pick lv ks = lv') (k : hm_G E nL n0 s0 nE sE p l e R s m args below meth c Q pc lv' st h) : hm_G E nL n0 s0 nE sE p l e R s m args below meth c Q pc lv st h := ⟨k.1, k.2.1, fun H locs ls a1 a2 a3 a4 a5 => k.2.2 H locs ls a1 a2 a3 a4 (lv_sub a5 ks hl)⟩
theorem hm_goto (C : hm_C E cc nL own fr lo n0 s0 nE sE p R s m args c) {off : Int} {tgt : Nat} (d : decode cc pc = .ok (.goto off, 3)) (ht : (pc : Int) + off = (tgt : Int)) (k : hm_G E nL n0 s0 nE sE p l e R s m args below meth c Q tgt lv st h) : hm_G E nL n0 s0 nE sE p l e R s m args below meth c Q pc lv st h := ⟨k.1, k.2.1, fun H locs ls a1 a2 a3 a4 a5 => lv_goto C.1 C.2.1 d ht (k.2.2 H locs ls a1 a2 a3 a4 a5)⟩
theorem hm_if_eq (C : hm_C E cc nL own fr lo n0 s0 nE sE p R s m args c) {x : Int32} {off : Int} {tgt : Nat} (d : decode cc pc = .ok (.ifCond .eq off, 3)) (ht : (pc : Int) + off = (tgt : Int)) (kt : x = 0 → hm_G E nL n0 s0 nE sE p l e R s m args below meth c Q tgt lv st h) (kf : ¬ x = 0 → hm_G E nL n0 s0 nE sE p l e R s m args below meth c Q (pc + 3) lv st h) : hm_G E nL n0 s0 nE sE p l e R s m args below meth c Q pc lv (.int x :: st) h := by
  have hn : hm_n h ≤ nE ∧ hm_s h ≤ sE := by
    by_cases hc : x = 0
    · exact ⟨(kt hc).1, (kt hc).2.1⟩
    · exact ⟨(kf hc).1, (kf hc).2.1⟩
  exact ⟨hn.1, hn.2, fun H locs ls a1 a2 a3 a4 a5 => lv_if_eq C.1 C.2.1 d ht (fun z => (kt z).2.2 H locs ls a1 a2 a3 a4 a5) (fun z => (kf z).2.2 H locs ls a1 a2 a3 a4 a5)⟩
theorem hm_if_lt (C : hm_C E cc nL own fr lo n0 s0 nE sE p R s m args c) {x : Int32} {off : Int} {tgt : Nat} (d : decode cc pc = .ok (.ifCond .lt off, 3)) (ht : (pc : Int) + off = (tgt : Int)) (kt : x < 0 → hm_G E nL n0 s0 nE sE p l e R s m args below meth c Q tgt lv st h) (kf : ¬ x < 0 → hm_G E nL n0 s0 nE sE p l e R s m args below meth c Q (pc + 3) lv st h) : hm_G E nL n0 s0 nE sE p l e R s m args below meth c Q pc lv (.int x :: st) h := by
  have hn : hm_n h ≤ nE ∧ hm_s h ≤ sE := by
    by_cases hc : x < 0
    · exact ⟨(kt hc).1, (kt hc).2.1⟩
    · exact ⟨(kf hc).1, (kf hc).2.1⟩
  exact ⟨hn.1, hn.2, fun H locs ls a1 a2 a3 a4 a5 => lv_if_lt C.1 C.2.1 d ht (fun z => (kt z).2.2 H locs ls a1 a2 a3 a4 a5) (fun z => (kf z).2.2 H locs ls a1 a2 a3 a4 a5)⟩
theorem hm_if_ge (C : hm_C E cc nL own fr lo n0 s0 nE sE p R s m args c) {x : Int32} {off : Int} {tgt : Nat} (d : decode cc pc = .ok (.ifCond .ge off, 3)) (ht : (pc : Int) + off = (tgt : Int)) (kt : 0 ≤ x → hm_G E nL n0 s0 nE sE p l e R s m args below meth c Q tgt lv st h) (kf : ¬ 0 ≤ x → hm_G E nL n0 s0 nE sE p l e R s m args below meth c Q (pc + 3) lv st h) : hm_G E nL n0 s0 nE sE p l e R s m args below meth c Q pc lv (.int x :: st) h := by
  have hn : hm_n h ≤ nE ∧ hm_s h ≤ sE := by
    by_cases hc : 0 ≤ x
    · exact ⟨(kt hc).1, (kt hc).2.1⟩
    · exact ⟨(kf hc).1, (kf hc).2.1⟩
  exact ⟨hn.1, hn.2, fun H locs ls a1 a2 a3 a4 a5 => lv_if_ge C.1 C.2.1 d ht (fun z => (kt z).2.2 H locs ls a1 a2 a3 a4 a5) (fun z => (kf z).2.2 H locs ls a1 a2 a3 a4 a5)⟩
theorem hm_if_gt (C : hm_C E cc nL own fr lo n0 s0 nE sE p R s m args c) {x : Int32} {off : Int} {tgt : Nat} (d : decode cc pc = .ok (.ifCond .gt off, 3)) (ht : (pc : Int) + off = (tgt : Int)) (kt : 0 < x → hm_G E nL n0 s0 nE sE p l e R s m args below meth c Q tgt lv st h) (kf : ¬ 0 < x → hm_G E nL n0 s0 nE sE p l e R s m args below meth c Q (pc + 3) lv st h) : hm_G E nL n0 s0 nE sE p l e R s m args below meth c Q pc lv (.int x :: st) h := by
  have hn : hm_n h ≤ nE ∧ hm_s h ≤ sE := by
    by_cases hc : 0 < x
    · exact ⟨(kt hc).1, (kt hc).2.1⟩
    · exact ⟨(kf hc).1, (kf hc).2.1⟩
  exact ⟨hn.1, hn.2, fun H locs ls a1 a2 a3 a4 a5 => lv_if_gt C.1 C.2.1 d ht (fun z => (kt z).2.2 H locs ls a1 a2 a3 a4 a5) (fun z => (kf z).2.2 H locs ls a1 a2 a3 a4 a5)⟩
theorem hm_if_le (C : hm_C E cc nL own fr lo n0 s0 nE sE p R s m args c) {x : Int32} {off : Int} {tgt : Nat} (d : decode cc pc = .ok (.ifCond .le off, 3)) (ht : (pc : Int) + off = (tgt : Int)) (kt : x ≤ 0 → hm_G E nL n0 s0 nE sE p l e R s m args below meth c Q tgt lv st h) (kf : ¬ x ≤ 0 → hm_G E nL n0 s0 nE sE p l e R s m args below meth c Q (pc + 3) lv st h) : hm_G E nL n0 s0 nE sE p l e R s m args below meth c Q pc lv (.int x :: st) h := by
  have hn : hm_n h ≤ nE ∧ hm_s h ≤ sE := by
    by_cases hc : x ≤ 0
    · exact ⟨(kt hc).1, (kt hc).2.1⟩
    · exact ⟨(kf hc).1, (kf hc).2.1⟩
  exact ⟨hn.1, hn.2, fun H locs ls a1 a2 a3 a4 a5 => lv_if_le C.1 C.2.1 d ht (fun z => (kt z).2.2 H locs ls a1 a2 a3 a4 a5) (fun z => (kf z).2.2 H locs ls a1 a2 a3 a4 a5)⟩
theorem hm_if_ne (C : hm_C E cc nL own fr lo n0 s0 nE sE p R s m args c) {x : Int32} {off : Int} {tgt : Nat} (d : decode cc pc = .ok (.ifCond .ne off, 3)) (ht : (pc : Int) + off = (tgt : Int)) (kt : ¬ x = 0 → hm_G E nL n0 s0 nE sE p l e R s m args below meth c Q tgt lv st h) (kf : x = 0 → hm_G E nL n0 s0 nE sE p l e R s m args below meth c Q (pc + 3) lv st h) : hm_G E nL n0 s0 nE sE p l e R s m args below meth c Q pc lv (.int x :: st) h := by
  have hn : hm_n h ≤ nE ∧ hm_s h ≤ sE := by
    by_cases hc : x = 0
    · exact ⟨(kf hc).1, (kf hc).2.1⟩
    · exact ⟨(kt hc).1, (kt hc).2.1⟩
  exact ⟨hn.1, hn.2, fun H locs ls a1 a2 a3 a4 a5 => lv_if_ne C.1 C.2.1 d ht (fun z => (kt z).2.2 H locs ls a1 a2 a3 a4 a5) (fun z => (kf z).2.2 H locs ls a1 a2 a3 a4 a5)⟩
theorem hm_icmp_eq (C : hm_C E cc nL own fr lo n0 s0 nE sE p R s m args c) {x y : Int32} {off : Int} {tgt : Nat} (d : decode cc pc = .ok (.if_icmp .eq off, 3)) (ht : (pc : Int) + off = (tgt : Int)) (kt : x = y → hm_G E nL n0 s0 nE sE p l e R s m args below meth c Q tgt lv st h) (kf : ¬ x = y → hm_G E nL n0 s0 nE sE p l e R s m args below meth c Q (pc + 3) lv st h) : hm_G E nL n0 s0 nE sE p l e R s m args below meth c Q pc lv (.int y :: .int x :: st) h := by
  have hn : hm_n h ≤ nE ∧ hm_s h ≤ sE := by
    by_cases hc : x = y
    · exact ⟨(kt hc).1, (kt hc).2.1⟩
    · exact ⟨(kf hc).1, (kf hc).2.1⟩
  exact ⟨hn.1, hn.2, fun H locs ls a1 a2 a3 a4 a5 => lv_icmp_eq C.1 C.2.1 d ht (fun z => (kt z).2.2 H locs ls a1 a2 a3 a4 a5) (fun z => (kf z).2.2 H locs ls a1 a2 a3 a4 a5)⟩
theorem hm_icmp_lt (C : hm_C E cc nL own fr lo n0 s0 nE sE p R s m args c) {x y : Int32} {off : Int} {tgt : Nat} (d : decode cc pc = .ok (.if_icmp .lt off, 3)) (ht : (pc : Int) + off = (tgt : Int)) (kt : x < y → hm_G E nL n0 s0 nE sE p l e R s m args below meth c Q tgt lv st h) (kf : ¬ x < y → hm_G E nL n0 s0 nE sE p l e R s m args below meth c Q (pc + 3) lv st h) : hm_G E nL n0 s0 nE sE p l e R s m args below meth c Q pc lv (.int y :: .int x :: st) h := by
  have hn : hm_n h ≤ nE ∧ hm_s h ≤ sE := by
    by_cases hc : x < y
    · exact ⟨(kt hc).1, (kt hc).2.1⟩
    · exact ⟨(kf hc).1, (kf hc).2.1⟩
  exact ⟨hn.1, hn.2, fun H locs ls a1 a2 a3 a4 a5 => lv_icmp_lt C.1 C.2.1 d ht (fun z => (kt z).2.2 H locs ls a1 a2 a3 a4 a5) (fun z => (kf z).2.2 H locs ls a1 a2 a3 a4 a5)⟩
theorem hm_icmp_ge (C : hm_C E cc nL own fr lo n0 s0 nE sE p R s m args c) {x y : Int32} {off : Int} {tgt : Nat} (d : decode cc pc = .ok (.if_icmp .ge off, 3)) (ht : (pc : Int) + off = (tgt : Int)) (kt : y ≤ x → hm_G E nL n0 s0 nE sE p l e R s m args below meth c Q tgt lv st h) (kf : ¬ y ≤ x → hm_G E nL n0 s0 nE sE p l e R s m args below meth c Q (pc + 3) lv st h) : hm_G E nL n0 s0 nE sE p l e R s m args below meth c Q pc lv (.int y :: .int x :: st) h := by
  have hn : hm_n h ≤ nE ∧ hm_s h ≤ sE := by
    by_cases hc : y ≤ x
    · exact ⟨(kt hc).1, (kt hc).2.1⟩
    · exact ⟨(kf hc).1, (kf hc).2.1⟩
  exact ⟨hn.1, hn.2, fun H locs ls a1 a2 a3 a4 a5 => lv_icmp_ge C.1 C.2.1 d ht (fun z => (kt z).2.2 H locs ls a1 a2 a3 a4 a5) (fun z => (kf z).2.2 H locs ls a1 a2 a3 a4 a5)⟩
theorem hm_icmp_gt (C : hm_C E cc nL own fr lo n0 s0 nE sE p R s m args c) {x y : Int32} {off : Int} {tgt : Nat} (d : decode cc pc = .ok (.if_icmp .gt off, 3)) (ht : (pc : Int) + off = (tgt : Int)) (kt : y < x → hm_G E nL n0 s0 nE sE p l e R s m args below meth c Q tgt lv st h) (kf : ¬ y < x → hm_G E nL n0 s0 nE sE p l e R s m args below meth c Q (pc + 3) lv st h) : hm_G E nL n0 s0 nE sE p l e R s m args below meth c Q pc lv (.int y :: .int x :: st) h := by
  have hn : hm_n h ≤ nE ∧ hm_s h ≤ sE := by
    by_cases hc : y < x
    · exact ⟨(kt hc).1, (kt hc).2.1⟩
    · exact ⟨(kf hc).1, (kf hc).2.1⟩
  exact ⟨hn.1, hn.2, fun H locs ls a1 a2 a3 a4 a5 => lv_icmp_gt C.1 C.2.1 d ht (fun z => (kt z).2.2 H locs ls a1 a2 a3 a4 a5) (fun z => (kf z).2.2 H locs ls a1 a2 a3 a4 a5)⟩
theorem hm_icmp_le (C : hm_C E cc nL own fr lo n0 s0 nE sE p R s m args c) {x y : Int32} {off : Int} {tgt : Nat} (d : decode cc pc = .ok (.if_icmp .le off, 3)) (ht : (pc : Int) + off = (tgt : Int)) (kt : x ≤ y → hm_G E nL n0 s0 nE sE p l e R s m args below meth c Q tgt lv st h) (kf : ¬ x ≤ y → hm_G E nL n0 s0 nE sE p l e R s m args below meth c Q (pc + 3) lv st h) : hm_G E nL n0 s0 nE sE p l e R s m args below meth c Q pc lv (.int y :: .int x :: st) h := by
  have hn : hm_n h ≤ nE ∧ hm_s h ≤ sE := by
    by_cases hc : x ≤ y
    · exact ⟨(kt hc).1, (kt hc).2.1⟩
    · exact ⟨(kf hc).1, (kf hc).2.1⟩
  exact ⟨hn.1, hn.2, fun H locs ls a1 a2 a3 a4 a5 => lv_icmp_le C.1 C.2.1 d ht (fun z => (kt z).2.2 H locs ls a1 a2 a3 a4 a5) (fun z => (kf z).2.2 H locs ls a1 a2 a3 a4 a5)⟩
theorem hm_icmp_ne (C : hm_C E cc nL own fr lo n0 s0 nE sE p R s m args c) {x y : Int32} {off : Int} {tgt : Nat} (d : decode cc pc = .ok (.if_icmp .ne off, 3)) (ht : (pc : Int) + off = (tgt : Int)) (kt : ¬ x = y → hm_G E nL n0 s0 nE sE p l e R s m args below meth c Q tgt lv st h) (kf : x = y → hm_G E nL n0 s0 nE sE p l e R s m args below meth c Q (pc + 3) lv st h) : hm_G E nL n0 s0 nE sE p l e R s m args below meth c Q pc lv (.int y :: .int x :: st) h := by
  have hn : hm_n h ≤ nE ∧ hm_s h ≤ sE := by
    by_cases hc : x = y
    · exact ⟨(kf hc).1, (kf hc).2.1⟩
    · exact ⟨(kt hc).1, (kt hc).2.1⟩
  exact ⟨hn.1, hn.2, fun H locs ls a1 a2 a3 a4 a5 => lv_icmp_ne C.1 C.2.1 d ht (fun z => (kt z).2.2 H locs ls a1 a2 a3 a4 a5) (fun z => (kf z).2.2 H locs ls a1 a2 a3 a4 a5)⟩
theorem hm_tswIn (C : hm_C E cc nL own fr lo n0 s0 nE sE p R s m args c) {dflt lo hi : Int} {offs : Array Int} {len : Nat} {x : Int32} {off : Int} {tgt : Nat} (d : decode cc pc = .ok (.tableswitch dflt lo hi offs, len)) (h1 : ¬ x.toInt < lo) (h2 : ¬ hi < x.toInt) (ho : offs[(x.toInt - lo).toNat]? = some off) (ht : (pc : Int) + off = (tgt : Int)) (k : hm_G E nL n0 s0 nE sE p l e R s m args below meth c Q tgt lv st h) : hm_G E nL n0 s0 nE sE p l e R s m args below meth c Q pc lv (.int x :: st) h := ⟨k.1, k.2.1, fun H locs ls a1 a2 a3 a4 a5 => lv_tableIn C.1 C.2.1 d h1 h2 ho ht (k.2.2 H locs ls a1 a2 a3 a4 a5)⟩
theorem hm_tswOut (C : hm_C E cc nL own fr lo n0 s0 nE sE p R s m args c) {dflt lo hi : Int} {offs : Array Int} {len : Nat} {x : Int32} {tgt : Nat} (d : decode cc pc = .ok (.tableswitch dflt lo hi offs, len)) (h1 : x.toInt < lo ∨ hi < x.toInt) (ht : (pc : Int) + dflt = (tgt : Int)) (k : hm_G E nL n0 s0 nE sE p l e R s m args below meth c Q tgt lv st h) : hm_G E nL n0 s0 nE sE p l e R s m args below meth c Q pc lv (.int x :: st) h := ⟨k.1, k.2.1, fun H locs ls a1 a2 a3 a4 a5 => lv_tableOut C.1 C.2.1 d h1 ht (k.2.2 H locs ls a1 a2 a3 a4 a5)⟩

theorem hm_iaload (C : hm_C E cc nL own fr lo n0 s0 nE sE p R s m args c) {a : Nat} {j v : Int32} (d : decode cc pc = .ok (.iaload, 1)) (hv : hm_ild h a j = some v) (k : hm_G E nL n0 s0 nE sE p l e R s m args below meth c Q (pc + 1) lv (.int v :: st) h) : hm_G E nL n0 s0 nE sE p l e R s m args below meth c Q pc lv (.int j :: .ref a :: st) h := by
  obtain ⟨t, n, h1, h2, h3, rfl⟩ := hm_ild_of hv
  refine ⟨k.1, k.2.1, fun H locs ls a1 a2 a3 a4 a5 => ?_⟩
  have hat := (a3.2 a _ _ h1).2
  rcases h2 with rfl | rfl
  · exact va_iald C.1 C.2.1 C.2.2.2.2.2.1.1 (hm_one hat) 0 0 rfl rfl h3 d (k.2.2 H locs ls a1 a2 a3 a4 a5)
  · exact va_iald C.1 C.2.1 C.2.2.2.2.2.1.1 (hm_one hat) 0 1 rfl rfl h3 d (k.2.2 H locs ls a1 a2 a3 a4 a5)
theorem hm_baload (C : hm_C E cc nL own fr lo n0 s0 nE sE p R s m args c) {a : Nat} {j v : Int32} (d : decode cc pc = .ok (.baload, 1)) (hv : hm_zld h a j = some v) (k : hm_G E nL n0 s0 nE sE p l e R s m args below meth c Q (pc + 1) lv (.int v :: st) h) : hm_G E nL n0 s0 nE sE p l e R s m args below meth c Q pc lv (.int j :: .ref a :: st) h := by
  obtain ⟨n, h1, h3, rfl⟩ := hm_zld_of hv
  refine ⟨k.1, k.2.1, fun H locs ls a1 a2 a3 a4 a5 => ?_⟩
  have hat := (a3.2 a _ _ h1).2
  exact va_zald C.1 C.2.1 C.2.2.2.2.2.1.1 (hm_one hat) 0 2 rfl rfl h3 d (k.2.2 H locs ls a1 a2 a3 a4 a5)
theorem hm_aaload (C : hm_C E cc nL own fr lo n0 s0 nE sE p R s m args c) {a v : Nat} {j : Int32} (d : decode cc pc = .ok (.aaload, 1)) (hv : hm_ald h a j = some v) (k : hm_G E nL n0 s0 nE sE p l e R s m args below meth c Q (pc + 1) lv (.ref v :: st) h) : hm_G E nL n0 s0 nE sE p l e R s m args below meth c Q pc lv (.int j :: .ref a :: st) h := by
  obtain ⟨n, h1, h3, h4⟩ := hm_ald_of hv
  refine ⟨k.1, k.2.1, fun H locs ls a1 a2 a3 a4 a5 => ?_⟩
  have hat : H[a]? = some (arrV (E.2.1 5) n (fun j => va_rf (hm_r h a j))) := (a3.2 a _ _ h1).2
  have hlt : j.toNatClampNeg < n := Nat.not_le.mp fun q => h3 (Or.inr q)
  refine W.aald (v := .ref v) (ty := .array .int) C.1 C.2.1 hat ((C.2.2.2.2.2.1.1.2 3 _ rfl).1 n _) rfl (fun q => by cases q) (by rw [arrV_size]; exact h3) (by rw [arrV_read _ _ hlt, h4]; rfl) rfl rfl d (k.2.2 H locs ls a1 a2 a3 a4 a5)
theorem hm_alen (C : hm_C E cc nL own fr lo n0 s0 nE sE p R s m args c) {a : Nat} {v : Int32} (d : decode cc pc = .ok (.arraylength, 1)) (hv : hm_len h a = some v) (k : hm_G E nL n0 s0 nE sE p l e R s m args below meth c Q (pc + 1) lv (.int v :: st) h) : hm_G E nL n0 s0 nE sE p l e R s m args below meth c Q pc lv (.ref a :: st) h := by
  obtain ⟨t, n, h1, h2, rfl⟩ := hm_len_of hv
  refine ⟨k.1, k.2.1, fun H locs ls a1 a2 a3 a4 a5 => ?_⟩
  have hat := (a3.2 a _ _ h1).2
  rcases h2 with rfl | rfl
  · exact va_alen C.1 C.2.1 C.2.2.2.2.2.1.1 (hm_one hat) 0 0 rfl rfl rfl d (k.2.2 H locs ls a1 a2 a3 a4 a5)
  · exact va_alen C.1 C.2.1 C.2.2.2.2.2.1.1 (hm_one hat) 0 1 rfl rfl rfl d (k.2.2 H locs ls a1 a2 a3 a4 a5)
theorem hm_ist_at {H H' : Heap} {a n j t : Nat} {x : Int32} (ht : t < 5) (A : hm_at E h H) (hk : hm_k h a = some (.inl t, n)) (z : H'.size = H.size) (oq : ∀ q : Nat, q ≠ a → H'[q]? = H[q]?) (e1 : H'[a]? = some ((arrV (E.2.1 t) n (fun j => .int (hm_i h a j))).setSlot j (.int x))) : hm_at E (hm_seti h a j x) H' := by
  refine A.set hk rfl (fun b hb => by simp [hm_seti, va_up, hb, hm_i, hm_r, hm_k, hm_n, hm_s]) (fun b hb => rfl) rfl z oq ?_
  have hce : hm_ce E.2.1 (hm_seti h a j x) a (.inl t) n = .inl (E.2.1 t, n, .inl (va_up (hm_i h a) j x)) := by simp [hm_ce, ht, hm_seti, va_up, hm_i, hm_r, hm_k, hm_n, hm_s]
  rw [hce]
  show H'[a]? = some (vp_cell _ _)
  rw [e1, vp_cell_i, arrV_store]
  congr 2
  funext q
  by_cases hq : q = j
  · subst hq; simp [updV, va_up]
  · simp [updV, va_up, hq]
theorem hm_iastore (C : hm_C E cc nL own fr lo n0 s0 nE sE p R s m args c) {a : Nat} {j x : Int32} (d : decode cc pc = .ok (.iastore, 1)) (hv : hm_ist h a j x = some h') (k : hm_G E nL n0 s0 nE sE p l e R s m args below meth c Q (pc + 1) lv st h') : hm_G E nL n0 s0 nE sE p l e R s m args below meth c Q pc lv (.int x :: .int j :: .ref a :: st) h := by
  obtain ⟨n, h1, h3, rfl⟩ := hm_ist_of hv
  refine ⟨k.1, k.2.1, fun H locs ls a1 a2 a3 a4 a5 => ?_⟩
  have hat : H[a]? = some (arrV (E.2.1 0) n (fun j => .int (hm_i h a j))) := (a3.2 a _ _ h1).2
  have hbase : E.2.2 ≤ a := by
    rcases (a3.2 a _ _ h1).1 with q | q
    · cases q
    · exact q
  refine W.iast C.1 C.2.1 hat ((C.2.2.2.2.2.1.1.2 0 _ rfl).1 n _) (fun q => by cases q) (by rw [arrV_size]; exact h3) rfl rfl d fun H1 e1 z oq => ?_
  exact k.2.2 H1 _ ls a1 a2 (hm_ist_at (by decide) a3 h1 z oq e1) (a4.put z oq hbase) a5
theorem hm_bastore (C : hm_C E cc nL own fr lo n0 s0 nE sE p R s m args c) {a : Nat} {j x : Int32} (d : decode cc pc = .ok (.bastore, 1)) (hv : hm_zst h a j x = some h') (k : hm_G E nL n0 s0 nE sE p l e R s m args below meth c Q (pc + 1) lv st h') : hm_G E nL n0 s0 nE sE p l e R s m args below meth c Q pc lv (.int x :: .int j :: .ref a :: st) h := by
  obtain ⟨n, h1, h3, rfl⟩ := hm_zst_of hv
  refine ⟨k.1, k.2.1, fun H locs ls a1 a2 a3 a4 a5 => ?_⟩
  have hat : H[a]? = some (arrV (E.2.1 2) n (fun j => .int (hm_i h a j))) := (a3.2 a _ _ h1).2
  have hbase : E.2.2 ≤ a := by
    rcases (a3.2 a _ _ h1).1 with q | q
    · cases q
    · exact q
  refine W.zast C.1 C.2.1 hat ((C.2.2.2.2.2.1.1.2 2 _ rfl).1 n _) (fun q => by cases q) (by rw [arrV_size]; exact h3) rfl rfl d fun H1 e1 z oq => ?_
  exact k.2.2 H1 _ ls a1 a2 (hm_ist_at (by decide) a3 h1 z oq e1) (a4.put z oq hbase) a5


/-- a kind of objects: its number, name, fields, their count, their types -/
def hm_Cl (ci : Nat) (K : String) (T : u_T) (N : Nat) (ty : Nat → FieldType) : Prop := vwCl[ci]? = some (K, T, N) ∧ (∀ w ∈ u_ws K T N, w ∈ hm_big) ∧ (∀ k, k < N → parseFieldDescriptor (T k).2.2.1 = some (ty k)) ∧ (∀ a, a < N → ∀ b, b < N → a ≠ b → (T a).2.1 ≠ (T b).2.1)
theorem hm_get (C : hm_C E cc nL own fr lo n0 s0 nE sE p R s m args c) {ci N a idx : Nat} {K : String} {T : u_T} {ty : Nat → FieldType} {v : Value} (F : hm_Cl ci K T N ty) (k0 : Nat) (hk0 : k0 < N) (hl : Cond.fieldLink own idx (T k0).1 (T k0).2.1 (T k0).2.2.1 ∈ hm_big) (d : decode cc pc = .ok (.getfield idx, 3)) (hk : hm_k h a = some (.inr ci, N)) (hv : hm_fv ci h a k0 = v) (k : hm_G E nL n0 s0 nE sE p l e R s m args below meth c Q (pc + 3) lv (v :: st) h) : hm_G E nL n0 s0 nE sE p l e R s m args below meth c Q pc lv (.ref a :: st) h := by
  refine ⟨k.1, k.2.1, fun H locs ls a1 a2 a3 a4 a5 => ?_⟩
  have hat : va_at E.1 vwCl (a, .inr (ci, hm_fs ci N h a)) H := (a3.2 a _ _ hk).2
  exact va_get C.1 C.2.1 C.2.2.2.2.1 F.2.1 C.2.2.2.1 C.2.2.2.2.2.1.1 (hm_one hat) 0 rfl F.1 k0 hk0 (C.2.2.2.2.1 _ hl) (fun _ h9 => h9) (by rw [hm_fs_get hk0, hv]) d (k.2.2 H locs ls a1 a2 a3 a4 a5)
theorem hm_getN (C : hm_C E cc nL own fr lo n0 s0 nE sE p R s m args c) {ci N a idx : Nat} {K host : String} {T : u_T} {ty : Nat → FieldType} {v : Value} (F : hm_Cl ci K T N ty) (k0 : Nat) (hk0 : k0 < N) (hl : (own, idx, (T k0).1, (T k0).2.1, (T k0).2.2.1, host) ∈ hm_nF) (d : decode cc pc = .ok (.getfield idx, 3)) (hk : hm_k h a = some (.inr ci, N)) (hv : hm_fv ci h a k0 = v) (k : hm_G E nL n0 s0 nE sE p l e R s m args below meth c Q (pc + 3) lv (v :: st) h) : hm_G E nL n0 s0 nE sE p l e R s m args below meth c Q pc lv (.ref a :: st) h := by
  refine ⟨k.1, k.2.1, fun H locs ls a1 a2 a3 a4 a5 => ?_⟩
  have hat : va_at E.1 vwCl (a, .inr (ci, hm_fs ci N h a)) H := (a3.2 a _ _ hk).2
  exact va_getN C.1 C.2.1 C.2.2.2.2.1 F.2.1 C.2.2.2.1 C.2.2.2.2.2.1.1 (hm_one hat) 0 rfl F.1 k0 hk0 (va_Nw.use rfl (C.2.2.2.2.2.1.2.1 _ hl)) (fun _ h9 => h9) (by rw [hm_fs_get hk0, hv]) d (k.2.2 H locs ls a1 a2 a3 a4 a5)
theorem hm_put_at {H H' : Heap} {a N ci k0 : Nat} {K : String} {T : u_T} {ty : Nat → FieldType} {v : Value} {cell : Cell} (F : hm_Cl ci K T N ty) (hap : ∀ x y, x < N → y < N → x ≠ y → (E.1.2 ci) x ≠ (E.1.2 ci) y) (A : hm_at E h H) (hk : hm_k h a = some (.inr ci, N)) (hk0 : k0 < N) (z : H'.size = H.size) (oq : ∀ q : Nat, q ≠ a → H'[q]? = H[q]?) (e1 : H'[a]? = some (cell.setSlot (E.1.2 ci k0) v)) (q2 : cell.cls = E.1.1 ci) (q3 : cell.vm = .none) (q4 : ∀ k, k < N → cell.slots[(E.1.2 ci) k]? = some (vp_V (hm_fs ci N h a) k)) (e2 : hm_k h' = hm_k h) (ei : ∀ b, b ≠ a → hm_i h' b = hm_i h b) (er : ∀ b, b ≠ a → hm_r h' b = hm_r h b) (en : hm_n h' = hm_n h) (ev : hm_fv ci h' a k0 = v) (eo : ∀ k, k ≠ k0 → hm_fv ci h' a k = hm_fv ci h a k) : hm_at E h' H' := by
  refine A.set hk e2 ei er en z oq ?_
  show va_at E.1 vwCl (a, .inr (ci, hm_fs ci N h' a)) H'
  refine ⟨_, F.1, t_OB.to (V := updV (vp_V (hm_fs ci N h a)) k0 v) ⟨_, e1, q2, q3, t_set q4 hap hk0 v⟩ (fun j hj => ?_)⟩
  have hj' : j < N := hj
  rw [hm_fs_V hj']
  by_cases hjk : j = k0
  · subst hjk; simp [updV, ev]
  · simp only [updV, if_neg hjk]; rw [hm_fs_V hj', eo j hjk]
theorem hm_put (C : hm_C E cc nL own fr lo n0 s0 nE sE p R s m args c) {ci N a idx : Nat} {K : String} {T : u_T} {ty : Nat → FieldType} {v : Value} (F : hm_Cl ci K T N ty) (k0 : Nat) (hk0 : k0 < N) (hl : Cond.fieldLink own idx (T k0).1 (T k0).2.1 (T k0).2.2.1 ∈ hm_big) (hfin : (T k0).2.2.2 = false ∨ ((T k0).2.2.2 = true ∧ meth.name = "<init>" ∧ (T k0).1 = own)) (hn : narrow (ty k0) v = v) (hfit : fits (ty k0) v = true) (d : decode cc pc = .ok (.putfield idx, 3)) (hk : hm_k h a = some (.inr ci, N)) (e2 : hm_k h' = hm_k h) (ei : ∀ b, b ≠ a → hm_i h' b = hm_i h b) (er : ∀ b, b ≠ a → hm_r h' b = hm_r h b) (en : hm_n h' = hm_n h) (es : hm_s h' = hm_s h) (ev : hm_fv ci h' a k0 = v) (eo : ∀ k, k ≠ k0 → hm_fv ci h' a k = hm_fv ci h a k) (k : hm_G E nL n0 s0 nE sE p l e R s m args below meth c Q (pc + 3) lv st h') : hm_G E nL n0 s0 nE sE p l e R s m args below meth c Q pc lv (v :: .ref a :: st) h := by
  refine ⟨en ▸ k.1, es ▸ k.2.1, fun H locs ls a1 a2 a3 a4 a5 => ?_⟩
  have hts := C.2.2.2.2.1
  have hK := C.2.2.2.2.2.1.1
  have hap := va_apart (own := own) hts F.2.1 ty F.2.2.1 F.2.2.2 hK F.1
  have hat : va_at E.1 vwCl (a, .inr (ci, hm_fs ci N h a)) H := (a3.2 a _ _ hk).2
  have hbase : E.2.2 ≤ a := by
    rcases (a3.2 a _ _ hk).1 with q | q
    · cases q
    · exact q
  obtain ⟨r, h1, cell, q1, q2, q3, q4⟩ := hat
  have hr : r = (K, T, N) := Option.some.inj (h1.symm.trans F.1)
  subst hr
  obtain ⟨hS, hfc, kC, hkC, hkind⟩ := hK.1 ci _ F.1
  obtain ⟨cf, kf, fi, f, hi, hsl⟩ := hS k0 hk0
  have hlay := hts _ (F.2.1 _ (u_in_lay hk0))
  unfold u_lay at hlay
  have hst := (u_facts hfc hkC (u_lays hts F.2.1 hk0) hi).1
  have hfin2 : ∀ (H' : Heap), H'[a]? = some (cell.setSlot f.slot v) → H'.size = H.size → (∀ q : Nat, q ≠ a → H'[q]? = H[q]?) → W p l e R s m args below meth c H' (locs ++ [⟨a, f.slot⟩]) (hm_n h - n0) (hm_s h - s0) Q (F0 m (pc + 3) ls st) := fun H' e1 z oq => by
    rw [hsl] at e1
    have := k.2.2 H' (locs ++ [⟨a, f.slot⟩]) ls (en ▸ a1) (es ▸ a2) (hm_put_at F hap a3 hk hk0 z oq e1 q2 q3 q4 e2 ei er en ev eo) (a4.put z oq hbase) a5
    rw [en, es] at this
    exact this
  rcases hfin with hfin | ⟨hfin, hin2, hdecl⟩
  · rw [if_neg (by rw [hfin]; decide)] at hlay
    have h6 := u_store hfc hkC hkind hlay hi (F.2.2.1 k0 hk0) hn hfit
    exact W.putK C.1 C.2.1 (f := f) ⟨C.2.2.2.1, hts _ hl, ⟨_, _, _, hi⟩, hst⟩ (by rw [q2]; exact h6) q1 q3 (by rw [hsl]; exact k2_hasslot (q4 k0 hk0)) rfl rfl d hfin2
  · rw [if_pos hfin] at hlay
    have hcf : m.cls = cf := by
      obtain ⟨_, _, c', _, _, _, -, -, hf', -, -, -, hown2, -⟩ := Cond.laysFinal_spec hlay
      have e1 : c' = cf := by have := hi.symm.trans hf'; simp at this; exact this.1.symm
      rw [hdecl] at hown2
      rw [← e1]; exact Option.some.inj (C.2.2.2.1.symm.trans hown2)
    have h6 := u_fits hfc hkC hkind (Or.inr hlay) hi (F.2.2.1 k0 hk0) hn hfit
    exact W.putFinK C.1 C.2.1 C.2.2.2.1 (hts _ hl) hi hst hcf hin2 (by rw [q2]; exact h6) q1 q3 (by rw [hsl]; exact k2_hasslot (q4 k0 hk0)) rfl rfl d hfin2

theorem hm_getI (C : hm_C E cc nL own fr lo n0 s0 nE sE p R s m args c) {ci N a idx : Nat} {K : String} {T : u_T} {ty : Nat → FieldType} {v : Int32} (F : hm_Cl ci K T N ty) (k0 : Nat) (hk0 : k0 < N) (hr : hm_isr ci k0 = false) (hl : Cond.fieldLink own idx (T k0).1 (T k0).2.1 (T k0).2.2.1 ∈ hm_big) (d : decode cc pc = .ok (.getfield idx, 3)) (hv : hm_gi ci N k0 h a = some v) (k : hm_G E nL n0 s0 nE sE p l e R s m args below meth c Q (pc + 3) lv (.int v :: st) h) : hm_G E nL n0 s0 nE sE p l e R s m args below meth c Q pc lv (.ref a :: st) h := by
  obtain ⟨h1, h2⟩ := hm_gi_of hv
  exact hm_get C F k0 hk0 hl d h1 (by simp [hm_fv, hr, h2, hm_i, hm_r, hm_k, hm_n, hm_s]) k
theorem hm_getIN (C : hm_C E cc nL own fr lo n0 s0 nE sE p R s m args c) {ci N a idx : Nat} {K host : String} {T : u_T} {ty : Nat → FieldType} {v : Int32} (F : hm_Cl ci K T N ty) (k0 : Nat) (hk0 : k0 < N) (hr : hm_isr ci k0 = false) (hl : (own, idx, (T k0).1, (T k0).2.1, (T k0).2.2.1, host) ∈ hm_nF) (d : decode cc pc = .ok (.getfield idx, 3)) (hv : hm_gi ci N k0 h a = some v) (k : hm_G E nL n0 s0 nE sE p l e R s m args below meth c Q (pc + 3) lv (.int v :: st) h) : hm_G E nL n0 s0 nE sE p l e R s m args below meth c Q pc lv (.ref a :: st) h := by
  obtain ⟨h1, h2⟩ := hm_gi_of hv
  exact hm_getN C F k0 hk0 hl d h1 (by simp [hm_fv, hr, h2, hm_i, hm_r, hm_k, hm_n, hm_s]) k
theorem hm_getR (C : hm_C E cc nL own fr lo n0 s0 nE sE p R s m args c) {ci N a idx : Nat} {K : String} {T : u_T} {ty : Nat → FieldType} {v : Nat} (F : hm_Cl ci K T N ty) (k0 : Nat) (hk0 : k0 < N) (hr : hm_isr ci k0 = true) (hl : Cond.fieldLink own idx (T k0).1 (T k0).2.1 (T k0).2.2.1 ∈ hm_big) (d : decode cc pc = .ok (.getfield idx, 3)) (hv : hm_gr ci N k0 h a = some v) (k : hm_G E nL n0 s0 nE sE p l e R s m args below meth c Q (pc + 3) lv (.ref v :: st) h) : hm_G E nL n0 s0 nE sE p l e R s m args below meth c Q pc lv (.ref a :: st) h := by
  obtain ⟨h1, h2⟩ := hm_gr_of hv
  exact hm_get C F k0 hk0 hl d h1 (by simp only [hm_fv, hr, h2]; rfl) k
theorem hm_getRN (C : hm_C E cc nL own fr lo n0 s0 nE sE p R s m args c) {ci N a idx : Nat} {K host : String} {T : u_T} {ty : Nat → FieldType} {v : Nat} (F : hm_Cl ci K T N ty) (k0 : Nat) (hk0 : k0 < N) (hr : hm_isr ci k0 = true) (hl : (own, idx, (T k0).1, (T k0).2.1, (T k0).2.2.1, host) ∈ hm_nF) (d : decode cc pc = .ok (.getfield idx, 3)) (hv : hm_gr ci N k0 h a = some v) (k : hm_G E nL n0 s0 nE sE p l e R s m args below meth c Q (pc + 3) lv (.ref v :: st) h) : hm_G E nL n0 s0 nE sE p l e R s m args below meth c Q pc lv (.ref a :: st) h := by
  obtain ⟨h1, h2⟩ := hm_gr_of hv
  exact hm_getN C F k0 hk0 hl d h1 (by simp only [hm_fv, hr, h2]; rfl) k
theorem hm_putI (C : hm_C E cc nL own fr lo n0 s0 nE sE p R s m args c) {ci N a idx : Nat} {K : String} {T : u_T} {ty : Nat → FieldType} {v : Int32} (F : hm_Cl ci K T N ty) (k0 : Nat) (hk0 : k0 < N) (hr : hm_isr ci k0 = false) (hl : Cond.fieldLink own idx (T k0).1 (T k0).2.1 (T k0).2.2.1 ∈ hm_big) (hfin : (T k0).2.2.2 = false ∨ ((T k0).2.2.2 = true ∧ meth.name = "<init>" ∧ (T k0).1 = own)) (hty : ty k0 = .int) (d : decode cc pc = .ok (.putfield idx, 3)) (hv : hm_pi ci N k0 h a v = some h') (k : hm_G E nL n0 s0 nE sE p l e R s m args below meth c Q (pc + 3) lv st h') : hm_G E nL n0 s0 nE sE p l e R s m args below meth c Q pc lv (.int v :: .ref a :: st) h := by
  obtain ⟨h1, rfl⟩ := hm_pi_of hv
  exact hm_put (h' := hm_seti h a k0 v) C F k0 hk0 hl hfin (by rw [hty]; rfl) (by rw [hty]; rfl) d h1 rfl (fun b hb => by simp [hm_seti, va_up, hb, hm_i, hm_r, hm_k, hm_n, hm_s]) (fun b hb => rfl) rfl rfl (by simp [hm_fv, hr, hm_seti, va_up, hm_i, hm_r, hm_k, hm_n, hm_s]) (fun j hj => by simp [hm_fv, hm_seti, va_up, hj, hm_i, hm_r, hm_k, hm_n, hm_s]) k
theorem hm_putZ (C : hm_C E cc nL own fr lo n0 s0 nE sE p R s m args c) {ci N a idx : Nat} {K : String} {T : u_T} {ty : Nat → FieldType} {v : Int32} (F : hm_Cl ci K T N ty) (k0 : Nat) (hk0 : k0 < N) (hr : hm_isr ci k0 = false) (hl : Cond.fieldLink own idx (T k0).1 (T k0).2.1 (T k0).2.2.1 ∈ hm_big) (hfin : (T k0).2.2.2 = false ∨ ((T k0).2.2.2 = true ∧ meth.name = "<init>" ∧ (T k0).1 = own)) (hty : ty k0 = .boolean) (d : decode cc pc = .ok (.putfield idx, 3)) (hv : hm_pz ci N k0 h a v = some h') (k : hm_G E nL n0 s0 nE sE p l e R s m args below meth c Q (pc + 3) lv st h') : hm_G E nL n0 s0 nE sE p l e R s m args below meth c Q pc lv (.int v :: .ref a :: st) h := by
  obtain ⟨h1, hz, rfl⟩ := hm_pz_of hv
  exact hm_put (h' := hm_seti h a k0 v) C F k0 hk0 hl hfin (by rw [hty]; rcases hz with rfl | rfl <;> rfl) (by rw [hty]; rcases hz with rfl | rfl <;> rfl) d h1 rfl (fun b hb => by simp [hm_seti, va_up, hb, hm_i, hm_r, hm_k, hm_n, hm_s]) (fun b hb => rfl) rfl rfl (by simp [hm_fv, hr, hm_seti, va_up, hm_i, hm_r, hm_k, hm_n, hm_s]) (fun j hj => by simp [hm_fv, hm_seti, va_up, hj, hm_i, hm_r, hm_k, hm_n, hm_s]) k
theorem hm_putR (C : hm_C E cc nL own fr lo n0 s0 nE sE p R s m args c) {ci N a idx : Nat} {K : String} {T : u_T} {ty : Nat → FieldType} {v : Nat} (F : hm_Cl ci K T N ty) (k0 : Nat) (hk0 : k0 < N) (hr : hm_isr ci k0 = true) (hl : Cond.fieldLink own idx (T k0).1 (T k0).2.1 (T k0).2.2.1 ∈ hm_big) (hfin : (T k0).2.2.2 = false ∨ ((T k0).2.2.2 = true ∧ meth.name = "<init>" ∧ (T k0).1 = own)) (hty : (∃ n, ty k0 = .object n) ∨ ∃ t, ty k0 = .array t) (d : decode cc pc = .ok (.putfield idx, 3)) (hv : hm_pr ci N k0 h a v = some h') (k : hm_G E nL n0 s0 nE sE p l e R s m args below meth c Q (pc + 3) lv st h') : hm_G E nL n0 s0 nE sE p l e R s m args below meth c Q pc lv (.ref v :: .ref a :: st) h := by
  obtain ⟨h1, rfl⟩ := hm_pr_of hv
  exact hm_put (h' := hm_setr h a k0 (some v)) C F k0 hk0 hl hfin (by rcases hty with ⟨n, e⟩ | ⟨n, e⟩ <;> rw [e] <;> rfl) (by rcases hty with ⟨n, e⟩ | ⟨n, e⟩ <;> rw [e] <;> rfl) d h1 rfl (fun b hb => rfl) (fun b hb => by simp [hm_setr, va_up, hb, hm_i, hm_r, hm_k, hm_n, hm_s]) rfl rfl (by simp [hm_fv, hr, hm_setr, va_up, va_rf, hm_i, hm_r, hm_k, hm_n, hm_s]) (fun j hj => by simp [hm_fv, hm_setr, va_up, hj, hm_i, hm_r, hm_k, hm_n, hm_s]) k

theorem hm_newO (C : hm_C E cc nL own fr lo n0 s0 nE sE p R s m args c) {ci N idx q : Nat} {K : String} {T : u_T} {ty : Nat → FieldType} (F : hm_Cl ci K T N ty) (hcl : Cond.classLink own idx K ∈ hm_big) (hins : Cond.instantiable K N ∈ hm_big) (hini : Cond.initialized K ∈ hm_big) (hdef : ∀ j, j < N → defaultValue (ty j) = if hm_isr ci j = true then .null else .int 0) (d : decode cc pc = .ok (.new idx, 3)) (hv : hm_new ci N h = some (q, h')) (k : hm_G E nL n0 s0 nE sE p l e R s m args below meth c Q (pc + 3) lv (.ref q :: st) h') : hm_G E nL n0 s0 nE sE p l e R s m args below meth c Q pc lv st h := by
  cases hv
  have k1 : hm_n h + 1 ≤ nE := k.1
  have k2 : hm_s h + N ≤ sE := k.2.1
  have c1 := C.2.2.2.2.2.2.2.2.1
  have c2 := C.2.2.2.2.2.2.2.2.2.1
  have c0 := C.2.2.2.2.2.2.2.1
  refine ⟨by omega, by omega, fun H locs ls a1 a2 a3 a4 a5 => ?_⟩
  have hts := C.2.2.2.2.1
  have hK := C.2.2.2.2.2.1.1
  have hKn := hK.1 ci _ F.1
  refine W.newcK C.1 C.2.1 C.2.2.2.1 (hts _ hcl) (hts _ hins) (hts _ hini) rfl d (by omega) (by omega) hKn.2.1 a3.1 fun H1 kC hkC e1 z1 o1 => ?_
  have hat : hm_at E (hm_mk h (.inr ci) N) H1 := by
    refine a3.new (by omega) z1 o1 ?_
    show va_at E.1 vwCl (hm_n h, .inr (ci, hm_fs ci N (hm_mk h (.inr ci) N) (hm_n h))) H1
    refine ⟨_, F.1, (u_born ty hts F.2.1 hKn hkC e1 F.2.2.1).to (fun j hj => ?_)⟩
    have hj' : j < N := hj
    rw [hm_fs_V hj', hdef j hj']
    unfold hm_fv
    rw [hm_mk_i, hm_mk_r, if_pos rfl, if_pos rfl]
    rfl
  have hS : va_S (fun q => E.2.2 ≤ q) s.heap H1 locs := ⟨Nat.le_trans a4.1 (by rw [z1, a3.1]; omega), fun x h1 h2 => (o1 x (by rw [← a3.1]; exact Nat.lt_of_lt_of_le h1 a4.1)).trans (a4.2.1 x h1 h2), a4.2.2⟩
  have := k.2.2 H1 locs ls (by show n0 ≤ hm_n h + 1; omega) (by show s0 ≤ hm_s h + N; omega) hat hS a5
  have e2 : hm_n (hm_mk h (.inr ci) N) - n0 = hm_n h - n0 + 1 := by show hm_n h + 1 - n0 = _; omega
  have e3 : hm_s (hm_mk h (.inr ci) N) - s0 = hm_s h - s0 + N := by show hm_s h + N - s0 = _; omega
  rw [e2, e3] at this
  exact this
theorem hm_newA (C : hm_C E cc nL own fr lo n0 s0 nE sE p R s m args c) {t q : Nat} {j : Int32} {at0 : ArrayType} {ty0 : FieldType} (t0 : Nat) (ht : hm_tys E = hm_tys E → (hm_tys E)[t0]? = some (E.2.1 t, ty0)) (ht5 : t < 5) (hty : newarray.typeOf at0 = ty0) (hn : FieldType.toString ty0 = FieldType.toString ty0 → va_RA s (E.2.1 t) ty0 → s.vm.findClass ("[" ++ ty0.toString) = some (E.2.1 t)) (hd : defaultValue ty0 = .int 0) (hcb : componentBytes ty0 ≤ 4) (harr : Cond.arrayClass ty0 ∈ hm_big) (d : decode cc pc = .ok (.newarray at0, 2)) (hv : hm_newa t h j = some (q, h')) (k : hm_G E nL n0 s0 nE sE p l e R s m args below meth c Q (pc + 2) lv (.ref q :: st) h') : hm_G E nL n0 s0 nE sE p l e R s m args below meth c Q pc lv (.int j :: st) h := by
  subst hty
  unfold hm_newa at hv
  by_cases hc : ¬ j < 0 ∧ j.toNatClampNeg ≤ 1000000
  · rw [if_pos hc] at hv
    cases hv
    have k1 : hm_n h + 1 ≤ nE := k.1
    have k2 : hm_s h + j.toNatClampNeg ≤ sE := k.2.1
    have c1 := C.2.2.2.2.2.2.2.2.1
    have c2 := C.2.2.2.2.2.2.2.2.2.1
    have c0 := C.2.2.2.2.2.2.2.1
    refine ⟨by omega, by omega, fun H locs ls a1 a2 a3 a4 a5 => ?_⟩
    have hts := C.2.2.2.2.1
    have hK := C.2.2.2.2.2.1.1
    have hk := hK.2 t0 _ (ht rfl)
    have hb4 : j.toNatClampNeg * componentBytes (newarray.typeOf at0) ≤ 1000000 * 4 := Nat.mul_le_mul hc.2 hcb
    refine va_newaK C.1 C.2.1 (hts _ harr) rfl d rfl hc.1 rfl (by omega) (by omega) (by omega) a3.1 fun H1 cA e1 z1 o1 hAr hNm => ?_
    have hcA : cA = E.2.1 t := Option.some.inj (hNm.symm.trans (hn rfl hk.2))
    have hat : hm_at E (hm_mk h (.inl t) j.toNatClampNeg) H1 := by
      refine a3.new (by omega) z1 o1 ?_
      have hce : hm_ce E.2.1 (hm_mk h (.inl t) j.toNatClampNeg) (hm_n h) (.inl t) j.toNatClampNeg = .inl (E.2.1 t, j.toNatClampNeg, .inl (fun _ => 0)) := by simp [hm_ce, ht5, hm_mk, va_up, hm_i, hm_r, hm_k, hm_n, hm_s]
      rw [hce]
      show H1[hm_n h]? = some (vp_cell _ _)
      rw [e1, hcA, hd]
      rfl
    have hS : va_S (fun q => E.2.2 ≤ q) s.heap H1 locs := ⟨Nat.le_trans a4.1 (by rw [z1, a3.1]; omega), fun x h1 h2 => (o1 x (by rw [← a3.1]; exact Nat.lt_of_lt_of_le h1 a4.1)).trans (a4.2.1 x h1 h2), a4.2.2⟩
    have := k.2.2 H1 locs ls (by show n0 ≤ hm_n h + 1; omega) (by show s0 ≤ hm_s h + _; omega) hat hS a5
    have e2 : hm_n (hm_mk h (.inl t) j.toNatClampNeg) - n0 = hm_n h - n0 + 1 := by show hm_n h + 1 - n0 = _; omega
    have e3 : hm_s (hm_mk h (.inl t) j.toNatClampNeg) - s0 = hm_s h - s0 + j.toNatClampNeg := by show hm_s h + _ - s0 = _; omega
    rw [e2, e3] at this
    exact this
  · rw [if_neg hc] at hv
    cases hv
/-! contracts, calls, ends -/
def hm_Pc (E : hm_E) (vs : List Value) (h : hm_T) : Array Value → State → Prop := fun v U => v = vs.toArray ∧ hm_at E h U.heap ∧ hm_V E U ∧ E.2.2 ≤ hm_n h
def hm_Qc (E : hm_E) (rv : Option Value) (h' : hm_T) : Array Value → State → Outcome → State → Prop := fun _ sS oc t => oc = .returned rv ∧ hm_at E h' t.heap ∧ va_F (fun q => E.2.2 ≤ q) sS t
def hm_le (h h' : hm_T) : Prop := hm_n h ≤ hm_n h' ∧ hm_s h ≤ hm_s h'
def hm_M (E : hm_E) (l : Launch) (y : MethodName) (b : ByteArray) (mL : Nat) (ret : Option FieldType) (fr lo : Nat) (vs : List Value) (h : hm_T) (rv : Option Value) (h' : hm_T) : Prop :=
  hm_le h h' ∧ Met l y (.code y b mL ret :: hm_big) { frames := fr, cells := hm_n h' - hm_n h, slots := hm_s h' - hm_s h, locals := lo } (hm_Pc E vs h) (hm_Qc E rv h') (hm_n h' - hm_n h) (hm_s h' - hm_s h) (fun q => E.2.2 ≤ q)
theorem hm_Pc.blind {vs : List Value} : FrameBlind (hm_Pc E vs h) := fun a U g mk q => ⟨q.1, q.2.1, hm_V.same rfl q.2.2.1, q.2.2.2⟩
def hm_Y (y : MethodName) (b : ByteArray) (mL : Nat) (ret : Option FieldType) (n : Nat) : Prop := Cond.code y b mL ret ∈ hm_big ∧ Cond.initialized y.cls ∈ hm_big ∧ (y.cls ≠ "java/lang/invoke/MethodHandle" ∧ y.cls ≠ "java/lang/invoke/VarHandle" ∧ (parseMethodDescriptor y.desc).map (fun d => d.parameters.length) = some n)
theorem hm_good {y : MethodName} {b : ByteArray} {mL : Nat} {ret : Option FieldType} (hc : Cond.code y b mL ret ∈ hm_big) : GoodIn hm_big (.code y b mL ret :: hm_big) := fun w hw => by
  rcases List.mem_cons.mp hw with rfl | hw
  · exact ⟨hc, hm_big_ok _ hc⟩
  · exact ⟨hw, hm_big_ok _ hw⟩
/-- behind a call: the heap that the callee's contract tells -/
theorem hm_called (C : hm_C E cc nL own fr lo n0 s0 nE sE p R s m args c) {rv : Option Value} {sb rest st0 : List Value} {a : Array Value} (hle : hm_le h h') (hr : ∀ (H : Heap) (locs : List Loc) (ls : Array Slot), n0 ≤ hm_n h → s0 ≤ hm_s h → hm_n h' ≤ nE → hm_s h' ≤ sE → hm_at E h H → ls.size = nL → va_Run p l e R s m args below meth c H locs (hm_n h - n0) (hm_s h - s0) (hm_n h' - hm_n h) (hm_s h' - hm_s h) (F0 m pc ls st0) rest (hm_Qc E rv h' a) (fun q => E.2.2 ≤ q)) (hsb : rv.toList ++ rest = sb) (k : hm_G E nL n0 s0 nE sE p l e R s m args below meth c Q (pc + 3) lv sb h') : hm_G E nL n0 s0 nE sE p l e R s m args below meth c Q pc lv st0 h := by
  refine ⟨Nat.le_trans hle.1 k.1, Nat.le_trans hle.2 k.2.1, fun H locs ls a1 a2 a3 a4 a5 => ?_⟩
  intro T hT X
  obtain ⟨v, st₀, t, T', L, h0, X', hL, e1, e2, ⟨hv, hat, hz, hk⟩, stp⟩ := hr H locs ls a1 a2 k.1 k.2.1 a3 a5.1 T hT X
  cases hv
  rw [h0] at hz hk
  have hS : va_S (fun q => E.2.2 ≤ q) s.heap T'.heap (locs ++ L) := by
    refine ⟨Nat.le_trans a4.1 (by rw [e1]; exact hz), fun q h1 h2 => ?_, fun q hq => ?_⟩
    · rw [e1, hk q (Nat.lt_of_lt_of_le h1 a4.1) h2]; exact a4.2.1 q h1 h2
    · rcases List.mem_append.mp hq with h | h
      · exact a4.2.2 q h
      · exact hL q h
  have kk := k.2.2 T'.heap (locs ++ L) ls (Nat.le_trans a1 hle.1) (Nat.le_trans a2 hle.2) (by rw [e1]; exact hat) hS a5
  have e3 : hm_n h' - n0 = hm_n h - n0 + (hm_n h' - hm_n h) := by have := hle.1; omega
  have e4 : hm_s h' - s0 = hm_s h - s0 + (hm_s h' - hm_s h) := by have := hle.2; omega
  rw [e3, e4, ← hsb] at kk
  obtain ⟨t2, b1, b2⟩ := kk T' rfl X'
  exact ⟨t2, stp t2 b1, b2⟩
theorem hm_roomy (C : hm_C E cc nL own fr lo n0 s0 nE sE p R s m args c) (hle : hm_le h h') (a1 : n0 ≤ hm_n h) (a2 : s0 ≤ hm_s h) (k1 : hm_n h' ≤ nE) (k2 : hm_s h' ≤ sE) : hm_n h - n0 + (hm_n h' - hm_n h) ≤ R.cells ∧ hm_s h - s0 + (hm_s h' - hm_s h) ≤ R.slots := by
  have c1 := C.2.2.2.2.2.2.2.2.1
  have c2 := C.2.2.2.2.2.2.2.2.2.1
  have := hle.1
  have := hle.2
  exact ⟨by omega, by omega⟩
theorem hm_callS (C : hm_C E cc nL own fr lo n0 s0 nE sE p R s m args c) {y : MethodName} {b : ByteArray} {mL n fr' lo' idx : Nat} {ret : Option FieldType} {vs sa sb : List Value} {rv : Option Value} (hM : hm_M E l y b mL ret fr' lo' vs h rv h') (Y : hm_Y y b mL ret n) (hs : Cond.static y ∈ hm_big) (hl : Cond.methodLink own idx y ∈ hm_big) (hfr : fr' + 1 ≤ fr) (hlo : 8 + (mL + 11) + lo' ≤ lo) (hn : vs.length = n) (hcat : (st.map fun v => v.category).sum ≤ 8) (d : decode cc pc = .ok (.invokestatic idx, 3)) (hsa : vs.reverse ++ st = sa) (hsb : rv.toList ++ st = sb) (k : hm_G E nL n0 s0 nE sE p l e R s m args below meth c Q (pc + 3) lv sb h') : hm_G E nL n0 s0 nE sE p l e R s m args below meth c Q pc lv sa h := by
  refine hm_called C (rest := st) (a := vs.toArray) hM.1 (fun H locs ls a1 a2 k1 k2 a3 a5 => ?_) hsb k
  have hts := C.2.2.2.2.1
  have hR := C.2.2.2.2.2.2.2.2.2.2
  exact va_runS (Ts := hm_big) (own := own) ⟨C.1, C.2.1, C.2.2.1, C.2.2.2.1, hts⟩ hM.2 ⟨callB_of n hts (hm_good Y.1) rfl rfl rfl (hts _ Y.2.1) (hts _ hl) Y.2.2 ⟨Nat.le_trans hfr hR.1, Nat.le_trans hlo hR.2⟩, hts _ hs⟩ ⟨hm_Pc.blind, fun U hU hW => ⟨rfl, by rw [hU]; exact a3, hm_V.warm hW C.2.2.2.2.2.1, Nat.le_trans C.2.2.2.2.2.2.2.1 a1⟩⟩ rfl hn a5 hsa.symm (lv_room hcat) d (hm_roomy C hM.1 a1 a2 k1 k2)
theorem hm_callSN (C : hm_C E cc nL own fr lo n0 s0 nE sE p R s m args c) {y : MethodName} {b : ByteArray} {mL n fr' lo' idx : Nat} {host : String} {ret : Option FieldType} {vs sa sb : List Value} {rv : Option Value} (hM : hm_M E l y b mL ret fr' lo' vs h rv h') (Y : hm_Y y b mL ret n) (hs : Cond.static y ∈ hm_big) (hl : (own, idx, y, host) ∈ hm_nM) (hfr : fr' + 1 ≤ fr) (hlo : 8 + (mL + 11) + lo' ≤ lo) (hn : vs.length = n) (hcat : (st.map fun v => v.category).sum ≤ 8) (d : decode cc pc = .ok (.invokestatic idx, 3)) (hsa : vs.reverse ++ st = sa) (hsb : rv.toList ++ st = sb) (k : hm_G E nL n0 s0 nE sE p l e R s m args below meth c Q (pc + 3) lv sb h') : hm_G E nL n0 s0 nE sE p l e R s m args below meth c Q pc lv sa h := by
  refine hm_called C (rest := st) (a := vs.toArray) hM.1 (fun H locs ls a1 a2 k1 k2 a3 a5 => ?_) hsb k
  have hts := C.2.2.2.2.1
  have hR := C.2.2.2.2.2.2.2.2.2.2
  exact va_runSN (Ts := hm_big) (own := own) ⟨C.1, C.2.1, C.2.2.1, C.2.2.2.1, hts⟩ hM.2 ⟨va_cnB n hts (hm_good Y.1) rfl rfl rfl (C.2.2.2.2.2.1.2.2.1 _ hl) (hts _ Y.2.1) Y.2.2 ⟨Nat.le_trans hfr hR.1, Nat.le_trans hlo hR.2⟩, hts _ hs, trivial⟩ ⟨hm_Pc.blind, fun U hU hW => ⟨rfl, by rw [hU]; exact a3, hm_V.warm hW C.2.2.2.2.2.1, Nat.le_trans C.2.2.2.2.2.2.2.1 a1⟩⟩ rfl hn a5 hsa.symm (lv_room hcat) d (hm_roomy C hM.1 a1 a2 k1 k2)
def hm_is (ci N : Nat) (h : hm_T) (a : Nat) : Option Unit := if hm_k h a = some (.inr ci, N) then some () else none
theorem hm_is_of {ci N a : Nat} {u : Unit} (hv : hm_is ci N h a = some u) : hm_k h a = some (.inr ci, N) := by
  by_cases hc : hm_k h a = some (.inr ci, N)
  · exact hc
  · cases hm_ifn hv hc
theorem hm_recv (C : hm_C E cc nL own fr lo n0 s0 nE sE p R s m args c) {ci N a : Nat} {K : String} {T : u_T} {ty : Nat → FieldType} {H : Heap} (F : hm_Cl ci K T N ty) (hk : hm_k h a = some (.inr ci, N)) (a3 : hm_at E h H) : ∃ cell : Cell, H[a]? = some cell ∧ cell.vm.isStatics = false ∧ s.vm.findClass K = some cell.cls := by
  have hat : va_at E.1 vwCl (a, .inr (ci, hm_fs ci N h a)) H := (a3.2 a _ _ hk).2
  exact va_recv C.2.2.2.2.2.1.1 (hm_one hat) F.1 (q0 := 0) rfl
theorem hm_callV (C : hm_C E cc nL own fr lo n0 s0 nE sE p R s m args c) {y : MethodName} {b : ByteArray} {mL n fr' lo' idx ci N a : Nat} {T : u_T} {ty : Nat → FieldType} {ret : Option FieldType} {vs sa sb : List Value} {rv : Option Value} {u : Unit} (hM : hm_M E l y b mL ret fr' lo' (.ref a :: vs) h rv h') (Y : hm_Y y b mL ret n) (F : hm_Cl ci y.cls T N ty) (hu : hm_is ci N h a = some u) (hs : Cond.instanceMethod y ∈ hm_big) (hse : Cond.selects y.cls y y ∈ hm_big) (hl : Cond.methodLink own idx y ∈ hm_big) (hfr : fr' + 1 ≤ fr) (hlo : 8 + (mL + 11) + lo' ≤ lo) (hn : vs.length = n) (hcat : (st.map fun v => v.category).sum ≤ 8) (d : decode cc pc = .ok (.invokevirtual idx, 3)) (hsa : vs.reverse ++ .ref a :: st = sa) (hsb : rv.toList ++ st = sb) (k : hm_G E nL n0 s0 nE sE p l e R s m args below meth c Q (pc + 3) lv sb h') : hm_G E nL n0 s0 nE sE p l e R s m args below meth c Q pc lv sa h := by
  refine hm_called C (rest := st) (a := (.ref a :: vs).toArray) hM.1 (fun H locs ls a1 a2 k1 k2 a3 a5 => ?_) hsb k
  have hts := C.2.2.2.2.1
  have hR := C.2.2.2.2.2.2.2.2.2.2
  exact va_runV (Ts := hm_big) (own := own) (C := y.cls) ⟨C.1, C.2.1, C.2.2.1, C.2.2.2.1, hts⟩ hM.2 ⟨callB_of n hts (hm_good Y.1) rfl rfl rfl (hts _ Y.2.1) (hts _ hl) Y.2.2 ⟨Nat.le_trans hfr hR.1, Nat.le_trans hlo hR.2⟩, hts _ hs, hts _ hse⟩ ⟨hm_Pc.blind, hm_recv C F (hm_is_of hu) a3, fun U hU hW => ⟨rfl, by rw [hU]; exact a3, hm_V.warm hW C.2.2.2.2.2.1, Nat.le_trans C.2.2.2.2.2.2.2.1 a1⟩⟩ rfl hn a5 hsa.symm (lv_room hcat) d (hm_roomy C hM.1 a1 a2 k1 k2)
theorem hm_callVN (C : hm_C E cc nL own fr lo n0 s0 nE sE p R s m args c) {y : MethodName} {b : ByteArray} {mL n fr' lo' idx ci N a : Nat} {host : String} {T : u_T} {ty : Nat → FieldType} {ret : Option FieldType} {vs sa sb : List Value} {rv : Option Value} {u : Unit} (hM : hm_M E l y b mL ret fr' lo' (.ref a :: vs) h rv h') (Y : hm_Y y b mL ret n) (F : hm_Cl ci y.cls T N ty) (hu : hm_is ci N h a = some u) (hs : Cond.instanceMethod y ∈ hm_big) (hse : Cond.selects y.cls y y ∈ hm_big) (hl : (own, idx, y, host) ∈ hm_nM) (hfr : fr' + 1 ≤ fr) (hlo : 8 + (mL + 11) + lo' ≤ lo) (hn : vs.length = n) (hcat : (st.map fun v => v.category).sum ≤ 8) (d : decode cc pc = .ok (.invokevirtual idx, 3)) (hsa : vs.reverse ++ .ref a :: st = sa) (hsb : rv.toList ++ st = sb) (k : hm_G E nL n0 s0 nE sE p l e R s m args below meth c Q (pc + 3) lv sb h') : hm_G E nL n0 s0 nE sE p l e R s m args below meth c Q pc lv sa h := by
  refine hm_called C (rest := st) (a := (.ref a :: vs).toArray) hM.1 (fun H locs ls a1 a2 k1 k2 a3 a5 => ?_) hsb k
  have hts := C.2.2.2.2.1
  have hR := C.2.2.2.2.2.2.2.2.2.2
  exact va_runVN (Ts := hm_big) (own := own) (C := y.cls) ⟨C.1, C.2.1, C.2.2.1, C.2.2.2.1, hts⟩ hM.2 ⟨va_cnB n hts (hm_good Y.1) rfl rfl rfl (C.2.2.2.2.2.1.2.2.1 _ hl) (hts _ Y.2.1) Y.2.2 ⟨Nat.le_trans hfr hR.1, Nat.le_trans hlo hR.2⟩, hts _ hs, hts _ hse⟩ ⟨hm_Pc.blind, hm_recv C F (hm_is_of hu) a3, fun U hU hW => ⟨rfl, by rw [hU]; exact a3, hm_V.warm hW C.2.2.2.2.2.1, Nat.le_trans C.2.2.2.2.2.2.2.1 a1⟩⟩ rfl hn a5 hsa.symm (lv_room hcat) d (hm_roomy C hM.1 a1 a2 k1 k2)
theorem hm_callI (C : hm_C E cc nL own fr lo n0 s0 nE sE p R s m args c) {y : MethodName} {b : ByteArray} {mL n fr' lo' idx a : Nat} {vs sa sb : List Value} (hM : hm_M E l y b mL none fr' lo' (.ref a :: vs) h none h') (Y : hm_Y y b mL none n) (hy : y.name = "<init>") (hs : Cond.instanceMethod y ∈ hm_big) (hl : Cond.methodLink own idx y ∈ hm_big) (hfr : fr' + 1 ≤ fr) (hlo : 8 + (mL + 11) + lo' ≤ lo) (hn : vs.length = n) (hcat : (st.map fun v => v.category).sum ≤ 8) (d : decode cc pc = .ok (.invokespecial idx, 3)) (hsa : vs.reverse ++ .ref a :: st = sa) (hsb : st = sb) (k : hm_G E nL n0 s0 nE sE p l e R s m args below meth c Q (pc + 3) lv sb h') : hm_G E nL n0 s0 nE sE p l e R s m args below meth c Q pc lv sa h := by
  refine hm_called C (rest := st) (a := (.ref a :: vs).toArray) (rv := none) hM.1 (fun H locs ls a1 a2 k1 k2 a3 a5 => ?_) hsb k
  have hts := C.2.2.2.2.1
  have hR := C.2.2.2.2.2.2.2.2.2.2
  exact va_runI (Ts := hm_big) (own := own) ⟨C.1, C.2.1, C.2.2.1, C.2.2.2.1, hts⟩ hM.2 ⟨callB_of n hts (hm_good Y.1) rfl rfl rfl (hts _ Y.2.1) (hts _ hl) Y.2.2 ⟨Nat.le_trans hfr hR.1, Nat.le_trans hlo hR.2⟩, hy, hts _ hs⟩ ⟨hm_Pc.blind, fun U hU hW => ⟨rfl, by rw [hU]; exact a3, hm_V.warm hW C.2.2.2.2.2.1, Nat.le_trans C.2.2.2.2.2.2.2.1 a1⟩⟩ rfl hn a5 hsa.symm (lv_room hcat) d (hm_roomy C hM.1 a1 a2 k1 k2)
theorem hm_callIN (C : hm_C E cc nL own fr lo n0 s0 nE sE p R s m args c) {y : MethodName} {b : ByteArray} {mL n fr' lo' idx a : Nat} {host : String} {vs sa sb : List Value} (hM : hm_M E l y b mL none fr' lo' (.ref a :: vs) h none h') (Y : hm_Y y b mL none n) (hy : y.name = "<init>") (hs : Cond.instanceMethod y ∈ hm_big) (hl : (own, idx, y, host) ∈ hm_nM) (hfr : fr' + 1 ≤ fr) (hlo : 8 + (mL + 11) + lo' ≤ lo) (hn : vs.length = n) (hcat : (st.map fun v => v.category).sum ≤ 8) (d : decode cc pc = .ok (.invokespecial idx, 3)) (hsa : vs.reverse ++ .ref a :: st = sa) (hsb : st = sb) (k : hm_G E nL n0 s0 nE sE p l e R s m args below meth c Q (pc + 3) lv sb h') : hm_G E nL n0 s0 nE sE p l e R s m args below meth c Q pc lv sa h := by
  refine hm_called C (rest := st) (a := (.ref a :: vs).toArray) (rv := none) hM.1 (fun H locs ls a1 a2 k1 k2 a3 a5 => ?_) hsb k
  have hts := C.2.2.2.2.1
  have hR := C.2.2.2.2.2.2.2.2.2.2
  exact va_runIN (Ts := hm_big) (own := own) ⟨C.1, C.2.1, C.2.2.1, C.2.2.2.1, hts⟩ hM.2 ⟨va_cnB n hts (hm_good Y.1) rfl rfl rfl (C.2.2.2.2.2.1.2.2.1 _ hl) (hts _ Y.2.1) Y.2.2 ⟨Nat.le_trans hfr hR.1, Nat.le_trans hlo hR.2⟩, hy, hts _ hs⟩ ⟨hm_Pc.blind, fun U hU hW => ⟨rfl, by rw [hU]; exact a3, hm_V.warm hW C.2.2.2.2.2.1, Nat.le_trans C.2.2.2.2.2.2.2.1 a1⟩⟩ rfl hn a5 hsa.symm (lv_room hcat) d (hm_roomy C hM.1 a1 a2 k1 k2)
theorem hm_objInit (C : hm_C E cc nL own fr lo n0 s0 nE sE p R s m args c) {idx a : Nat} (hl : Cond.methodLink own idx objectInit ∈ hm_big) (hs : Cond.instanceMethod objectInit ∈ hm_big) (hc : Cond.code objectInit ⟨#[0xb1]⟩ 1 none ∈ hm_big) (hfr : 1 ≤ fr) (hlo : 12 ≤ lo) (d : decode cc pc = .ok (.invokespecial idx, 3)) (k : hm_G E nL n0 s0 nE sE p l e R s m args below meth c Q (pc + 3) lv [] h) : hm_G E nL n0 s0 nE sE p l e R s m args below meth c Q pc lv [.ref a] h := by
  refine ⟨k.1, k.2.1, fun H locs ls a1 a2 a3 a4 a5 => ?_⟩
  have hts := C.2.2.2.2.1
  have hR := C.2.2.2.2.2.2.2.2.2.2
  refine W.objInit C.1 C.2.1 C.2.2.2.1 (hts _ hl) (hts _ hs) (hts _ hc) rfl (by rw [C.2.2.1]; exact a5.1) rfl d (Nat.le_trans hfr hR.1) (by show 2 * 0 + 0 + 12 ≤ R.locals; exact Nat.le_trans hlo hR.2) ?_
  exact W.eq (g2 := F0 m (pc + 3) ls []) rfl (k.2.2 H locs ls a1 a2 a3 a4 a5)
theorem hm_mmax (C : hm_C E cc nL own fr lo n0 s0 nE sE p R s m args c) {idx : Nat} {x y : Int32} (hl : Cond.methodLink own idx Lib.Math.max.name ∈ hm_big) (hs : Cond.static Lib.Math.max.name ∈ hm_big) (hi : Cond.initialized "java/lang/Math" ∈ hm_big) (hc : Cond.code Lib.Math.max.name Lib.Math.max.code 2 (some .int) ∈ hm_big) (hfr : 1 ≤ fr) (hlo : (st.map fun v => v.category).sum + 13 ≤ lo) (d : decode cc pc = .ok (.invokestatic idx, 3)) (k : hm_G E nL n0 s0 nE sE p l e R s m args below meth c Q (pc + 3) lv (.int (if x < y then y else x) :: st) h) : hm_G E nL n0 s0 nE sE p l e R s m args below meth c Q pc lv (.int y :: .int x :: st) h := by
  refine ⟨k.1, k.2.1, fun H locs ls a1 a2 a3 a4 a5 => ?_⟩
  have hts := C.2.2.2.2.1
  have hR := C.2.2.2.2.2.2.2.2.2.2
  have c1 := C.2.2.2.2.2.2.2.2.1
  have c2 := C.2.2.2.2.2.2.2.2.2.1
  have k1 := k.1
  have k2 := k.2.1
  exact va_mmax C.1 C.2.1 (by rw [C.2.2.1]; exact a5.1.symm) C.2.2.2.1 (hts _ hl) (hts _ hs) (hts _ hi) (hts _ hc) (Nat.le_trans hfr hR.1) (Nat.le_trans hlo hR.2) (by omega) (by omega) d (k.2.2 H locs ls a1 a2 a3 a4 a5)


theorem hm_ldc (C : hm_C E cc nL own fr lo n0 s0 nE sE p R s m args c) {idx : Nat} {v : Int32} (hl : Cond.constant own idx v ∈ hm_big) (d : decode cc pc = .ok (.ldc idx, 2)) (k : hm_G E nL n0 s0 nE sE p l e R s m args below meth c Q (pc + 2) lv (.int v :: st) h) : hm_G E nL n0 s0 nE sE p l e R s m args below meth c Q pc lv st h := ⟨k.1, k.2.1, fun H locs ls a1 a2 a3 a4 a5 => lv_ldc C.1 C.2.1 C.2.2.2.1 (C.2.2.2.2.1 _ hl) d (k.2.2 H locs ls a1 a2 a3 a4 a5)⟩
theorem hm_newAI (C : hm_C E cc nL own fr lo n0 s0 nE sE p R s m args c) {q : Nat} {j : Int32} (harr : Cond.arrayClass .int ∈ hm_big) (d : decode cc pc = .ok (.newarray .int, 2)) (hv : hm_newa 0 h j = some (q, h')) (k : hm_G E nL n0 s0 nE sE p l e R s m args below meth c Q (pc + 2) lv (.ref q :: st) h') : hm_G E nL n0 s0 nE sE p l e R s m args below meth c Q pc lv (.int j :: st) h := hm_newA (at0 := .int) (ty0 := .int) C 0 (fun _ => rfl) (by decide) rfl (fun _ z => z) rfl (by decide) harr d hv k
theorem hm_newAZ (C : hm_C E cc nL own fr lo n0 s0 nE sE p R s m args c) {q : Nat} {j : Int32} (harr : Cond.arrayClass .boolean ∈ hm_big) (d : decode cc pc = .ok (.newarray .boolean, 2)) (hv : hm_newa 2 h j = some (q, h')) (k : hm_G E nL n0 s0 nE sE p l e R s m args below meth c Q (pc + 2) lv (.ref q :: st) h') : hm_G E nL n0 s0 nE sE p l e R s m args below meth c Q pc lv (.int j :: st) h := hm_newA (at0 := .boolean) (ty0 := .boolean) C 2 (fun _ => rfl) (by decide) rfl (fun _ z => z) rfl (by decide) harr d hv k
theorem hm_newG (C : hm_C E cc nL own fr lo n0 s0 nE sE p R s m args c) {q idx : Nat} {i j : Int32} (harr : Cond.arrayClass .int ∈ hm_big) (hcl : Cond.classLink own idx "[[I" ∈ hm_big) (d : decode cc pc = .ok (.multianewarray idx 2, 4)) (hv : hm_newg h i j = some (q, h')) (k : hm_G E nL n0 s0 nE sE p l e R s m args below meth c Q (pc + 4) lv (.ref q :: st) h') : hm_G E nL n0 s0 nE sE p l e R s m args below meth c Q pc lv (.int j :: .int i :: st) h := by
  unfold hm_newg at hv
  by_cases hc : (¬ i < 0 ∧ ¬ j < 0) ∧ i.toNatClampNeg ≤ 1000 ∧ j.toNatClampNeg ≤ 1000
  · rw [if_pos hc] at hv
    cases hv
    obtain ⟨⟨hi, hj⟩, hi2, hj2⟩ := hc
    generalize hN : i.toNatClampNeg = N at hi2 k
    generalize hM : j.toNatClampNeg = M at hj2 k
    have k1 : hm_n h + 1 + N ≤ nE := k.1
    have k2 : hm_s h + N + N * M ≤ sE := k.2.1
    have c1 := C.2.2.2.2.2.2.2.2.1
    have c2 := C.2.2.2.2.2.2.2.2.2.1
    have c0 := C.2.2.2.2.2.2.2.1
    refine ⟨by omega, by omega, fun H locs ls a1 a2 a3 a4 a5 => ?_⟩
    have hts := C.2.2.2.2.1
    have hK := C.2.2.2.2.2.1.1
    intro T hT X
    obtain ⟨vm₁, cA, comp, -, fA, fC, hO, hI, X', step⟩ := X.multianewarray2F (ty := .int) C.1 C.2.2.2.1 (hts _ hcl) (over_moved (a := #[]) (a' := args) (Vm.Alike.refl _) C.2.2.2.2.2.1.2.2.2) (hts _ harr) (g := F0 m pc ls (.int j :: .int i :: st)) rfl (by rw [C.2.1]; exact d) rfl hi hj (by rw [hN]; omega) (by rw [hM]; show M * 4 ≤ _; omega) (by rw [hM]; omega) rfl rfl (by rw [hN]; omega) (by rw [hN, hM]; omega)
    rw [hN, hM] at X' step
    have ecA : cA = E.2.1 5 := Option.some.inj (fA.symm.trans (hK.2 3 _ rfl).2)
    have ecI : comp = E.2.1 0 := Option.some.inj (fC.symm.trans (hK.2 0 _ rfl).2)
    subst ecA
    subst ecI
    have hTh : (T.setVm vm₁).heap = H := hT
    obtain ⟨f1, f2, -, -⟩ := Jvm.Free.Multi.fill_facts (T.setVm vm₁) (E.2.1 5) (E.2.1 0) N M (defaultValue .int) N
    have f3 : ∀ x : Nat, x < H.size → (Jvm.Free.Multi.fill (T.setVm vm₁) (E.2.1 5) (E.2.1 0) N M (defaultValue .int) N).heap[x]? = H[x]? := fun x hx => by
      rw [Jvm.Free.Multi.fill_old (T.setVm vm₁) (E.2.1 5) (E.2.1 0) N M (defaultValue .int) (a := x) (by rw [hTh]; exact hx) N, hTh]
    have f4 : ∀ y : Nat, y < N → (Jvm.Free.Multi.fill (T.setVm vm₁) (E.2.1 5) (E.2.1 0) N M (defaultValue .int) N).heap[H.size + 1 + y]? = some (Jvm.Free.Multi.innerC (E.2.1 0) M (defaultValue .int)) := fun y hy => by
      rw [← hTh]
      exact Jvm.Free.Multi.fill_inner (T.setVm vm₁) (E.2.1 5) (E.2.1 0) N M (defaultValue .int) N y hy
    rw [hTh] at f1 f2
    generalize Jvm.Free.Multi.fill (T.setVm vm₁) (E.2.1 5) (E.2.1 0) N M (defaultValue .int) N = U at X' step f1 f2 f3 f4
    have hz : H.size = hm_n h := a3.1
    rw [hz] at f1 f2 f3 f4
    have hat : hm_at E (hm_mkg h N M) U.heap := by
      refine ⟨f1, fun b kk nn hb => ?_⟩
      by_cases hb0 : b = hm_n h
      · subst hb0
        have hb2 : some (.inl 5, N) = some (kk, nn) := by rw [← hb]; simp [hm_mkg, hm_i, hm_r, hm_k, hm_n, hm_s]
        cases hb2
        refine ⟨Or.inr (by omega), ?_⟩
        have hce : hm_ce E.2.1 (hm_mkg h N M) (hm_n h) (.inl 5) N = .inl (E.2.1 5, N, .inr (.inr (.inr (.inr (fun i => if i < N then some (hm_n h + 1 + i) else none))))) := by simp [hm_ce, hm_mkg, hm_i, hm_r, hm_k, hm_n, hm_s]
        rw [hce]
        show U.heap[hm_n h]? = some (vp_cell _ _)
        rw [f2, vp_cell_q]
        have hoc : ∀ n, Jvm.Free.Multi.outerC (E.2.1 5) N (hm_n h) n = arrV (E.2.1 5) N (fun y => va_rf (if y < n then some (hm_n h + 1 + y) else none)) := by
          intro n
          induction n with
          | zero =>
            show ({ cls := E.2.1 5, slots := Array.replicate N .null, vm := .none } : Cell) = _
            rw [arrV_new]
            refine congrArg (arrV (E.2.1 5) N) (funext fun y => ?_)
            simp [va_rf]
          | succ n ih =>
            show (Jvm.Free.Multi.outerC (E.2.1 5) N (hm_n h) n).setSlot n (.ref (hm_n h + 1 + n)) = _
            rw [ih, arrV_store]
            refine congrArg (arrV (E.2.1 5) N) (funext fun y => ?_)
            by_cases ey : y = n
            · subst ey
              simp [updV, va_rf]
            · by_cases hy : y < n
              · simp [updV, ey, hy, Nat.lt_succ_of_lt hy]
              · simp [updV, ey, hy, show ¬ y < n + 1 by omega]
        rw [hoc N]
      · by_cases hb1 : hm_n h < b ∧ b ≤ hm_n h + N
        · have hb2 : some (.inl 0, M) = some (kk, nn) := by rw [← hb, hm_mkg_k, if_neg hb0, if_pos hb1]
          cases hb2
          refine ⟨Or.inr (by omega), ?_⟩
          have hce : hm_ce E.2.1 (hm_mkg h N M) b (.inl 0) M = .inl (E.2.1 0, M, .inl (fun _ => 0)) := by
            have e9 : hm_ce E.2.1 (hm_mkg h N M) b (.inl 0) M = .inl (E.2.1 0, M, .inl (hm_i (hm_mkg h N M) b)) := rfl
            rw [e9, hm_mkg_i, if_pos ⟨by omega, hb1.2⟩]
          rw [hce]
          show U.heap[b]? = some (vp_cell _ _)
          have hbb : b = hm_n h + 1 + (b - hm_n h - 1) := by omega
          rw [hbb, f4 _ (by omega), vp_cell_i]
          show some ({ cls := E.2.1 0, slots := Array.replicate M (.int 0), vm := .none } : Cell) = _
          rw [arrV_new]
        · have hb2 : hm_k h b = some (kk, nn) := by rw [← hb, hm_mkg_k, if_neg hb0, if_neg hb1]
          obtain ⟨hx, hy⟩ := a3.2 b kk nn hb2
          refine ⟨hx, ?_⟩
          have hlt : b < hm_n h := by rw [← a3.1]; exact hy.lt
          rw [hm_ce_off (h := h) (by rw [hm_mkg_i, if_neg (by omega)]) (by rw [hm_mkg_r, if_neg hb0, if_neg hb1])]
          exact hy.kept (f3 b hlt)
    have hS : va_S (fun q => E.2.2 ≤ q) s.heap U.heap locs := ⟨Nat.le_trans a4.1 (by rw [f1, a3.1]; omega), fun x h1 h2 => (f3 x (by rw [← a3.1]; exact Nat.lt_of_lt_of_le h1 a4.1)).trans (a4.2.1 x h1 h2), a4.2.2⟩
    have kk := k.2.2 U.heap locs ls (by show n0 ≤ hm_n h + 1 + N; omega) (by show s0 ≤ hm_s h + N + N * M; omega) hat hS a5
    have e2 : hm_n (hm_mkg h N M) - n0 = hm_n h - n0 + 1 + N := by show hm_n h + 1 + N - n0 = _; omega
    have e3 : hm_s (hm_mkg h N M) - s0 = hm_s h - s0 + N + N * M := by show hm_s h + N + N * M - s0 = _; omega
    rw [e2, e3] at kk
    obtain ⟨t, b1, b2⟩ := kk U rfl X'
    refine ⟨t, step t ?_, b2⟩
    have e4 : T.heap.size = hm_n h := by rw [hT]; exact hz
    rw [e4]
    exact b1
  · rw [if_neg hc] at hv
    cases hv

theorem hm_iret (C : hm_C E cc nL own fr lo n0 s0 nE sE p R s m args c) {v r : Int32} (hr : meth.sig.returnType = some .int) (hlk : meth.locks = false) (d : decode cc pc = .ok (.ireturn, 1)) (hf : some (v, h) = some (r, h')) : hm_G E nL n0 s0 (hm_n h') (hm_s h') p l e R s m args below meth c (MQ below (hm_Qc E (some (.int r)) h') args s (hm_n h' - n0) (hm_s h' - s0) (fun q => E.2.2 ≤ q)) pc lv [.int v] h := by
  cases hf
  exact ⟨Nat.le_refl _, Nat.le_refl _, fun H locs ls a1 a2 a3 a4 a5 => W.iret C.1 C.2.1 hr (fun t ht hW => ⟨rfl, by rw [ht]; exact a3, a4.F ht⟩) a4.2.2 d hlk⟩
def hm_zr (v : Int32) : Option Int32 := if v = 0 ∨ v = 1 then some v else none
theorem hm_zr_of {v r : Int32} (hv : hm_zr v = some r) : (v = 0 ∨ v = 1) ∧ r = v := by
  by_cases hc : v = 0 ∨ v = 1
  · exact ⟨hc, (Option.some.inj (hm_ifp hv hc)).symm⟩
  · cases hm_ifn hv hc
theorem hm_zret (C : hm_C E cc nL own fr lo n0 s0 nE sE p R s m args c) {v v' r : Int32} (hr : meth.sig.returnType = some .boolean) (hlk : meth.locks = false) (d : decode cc pc = .ok (.ireturn, 1)) (hz : hm_zr v = some v') (hf : some (v', h) = some (r, h')) : hm_G E nL n0 s0 (hm_n h') (hm_s h') p l e R s m args below meth c (MQ below (hm_Qc E (some (.int r)) h') args s (hm_n h' - n0) (hm_s h' - s0) (fun q => E.2.2 ≤ q)) pc lv [.int v] h := by
  cases hf
  obtain ⟨h1, rfl⟩ := hm_zr_of hz
  exact ⟨Nat.le_refl _, Nat.le_refl _, fun H locs ls a1 a2 a3 a4 a5 => W.zret C.1 C.2.1 hr (by rcases h1 with rfl | rfl <;> rfl) (fun t ht hW => ⟨rfl, by rw [ht]; exact a3, a4.F ht⟩) a4.2.2 d hlk⟩
theorem hm_vret (C : hm_C E cc nL own fr lo n0 s0 nE sE p R s m args c) (hr : meth.sig.returnType = none) (hlk : meth.locks = false) (d : decode cc pc = .ok (.return_, 1)) (hf : some h = some h') : hm_G E nL n0 s0 (hm_n h') (hm_s h') p l e R s m args below meth c (MQ below (hm_Qc E none h') args s (hm_n h' - n0) (hm_s h' - s0) (fun q => E.2.2 ≤ q)) pc lv [] h := by
  cases hf
  exact ⟨Nat.le_refl _, Nat.le_refl _, fun H locs ls a1 a2 a3 a4 a5 => W.vret C.1 C.2.1 hr (fun t ht hW => ⟨rfl, by rw [ht]; exact a3, a4.F ht⟩) a4.2.2 d hlk⟩
theorem hm_aret (C : hm_C E cc nL own fr lo n0 s0 nE sE p R s m args c) {v r : Nat} {rt : FieldType} (hr : meth.sig.returnType = some rt) (hrt : (∃ n, rt = .object n) ∨ ∃ t, rt = .array t) (hlk : meth.locks = false) (d : decode cc pc = .ok (.areturn, 1)) (hf : some (v, h) = some (r, h')) : hm_G E nL n0 s0 (hm_n h') (hm_s h') p l e R s m args below meth c (MQ below (hm_Qc E (some (.ref r)) h') args s (hm_n h' - n0) (hm_s h' - s0) (fun q => E.2.2 ≤ q)) pc lv [.ref v] h := by
  cases hf
  exact ⟨Nat.le_refl _, Nat.le_refl _, fun H locs ls a1 a2 a3 a4 a5 => W.aret C.1 C.2.1 hr hrt (Or.inr ⟨_, rfl⟩) (fun t ht hW => ⟨rfl, by rw [ht]; exact a3, a4.F ht⟩) a4.2.2 d hlk⟩

/-- a contract out of a walk -/
theorem hm_enter {y : MethodName} {b : ByteArray} {mL : Nat} {ret : Option FieldType} {vs : List Value} {rv : Option Value} (hy : plainName y.cls = true) (hlen : (lg_sl vs).length ≤ mL) (hle : hm_le h h')
    (body : ∀ (p : Program) (e : Env) (R : Room) (s : State) (m : MethodId) (below : List Frame) (meth : Method) (c : Code), hm_C E b mL y.cls fr lo (hm_n h) (hm_s h) (hm_n h') (hm_s h') p R s m vs.toArray c → meth.sig.returnType = ret → meth.locks = false → meth.name = y.name → hm_G E mL (hm_n h) (hm_s h) (hm_n h') (hm_s h') p l e R s m vs.toArray below meth c (MQ below (hm_Qc E rv h') vs.toArray s (hm_n h' - hm_n h) (hm_s h' - hm_s h) (fun q => E.2.2 ≤ q)) 0 (lv_args 0 vs) [] h) : hm_M E l y b mL ret fr lo vs h rv h' := by
  refine ⟨hle, Met.ofW (cc := b) (maxL := mL) (ret := ret) hy rfl ?_⟩
  intro p e s m args below meth c s₁ B hml hv
  obtain ⟨rfl, hat, hV, hE⟩ := hv
  have hts0 := atoms_spec (ws := .code y b mL ret :: hm_big) B.pre
  have hts : ∀ w ∈ hm_big, w.before vs.toArray s = true := fun w hw => hts0 w (List.mem_cons_of_mem _ hw)
  have hown : s.vm.findClass y.cls = some m.cls := findClass_of_methodNamed B.named
  have hl := lv_entry vs (n := mL) hlen
  rw [lg_entry_eq]
  have h1 := hle.1
  have h2 := hle.2
  have g := body p e { frames := fr, cells := hm_n h' - hm_n h, slots := hm_s h' - hm_s h, locals := lo } s m below meth c ⟨B.exec, B.bytes, hml, hown, hts, hV, hat.1, hE, by show hm_n h' ≤ hm_n h + (hm_n h' - hm_n h); omega, by show hm_s h' ≤ hm_s h + (hm_s h' - hm_s h); omega, Nat.le_refl _, Nat.le_refl _⟩ B.returns B.notSynchronized (name_of_methodNamed B.named B.method).1
  have k := g.2.2 s.heap [] _ (Nat.le_refl _) (Nat.le_refl _) hat va_S.rf hl
  rw [Nat.sub_self, Nat.sub_self] at k
  exact k
theorem hm_le.rf {h : hm_T} : hm_le h h := ⟨Nat.le_refl _, Nat.le_refl _⟩
theorem hm_le.tr {a b c : hm_T} (x : hm_le a b) (y : hm_le b c) : hm_le a c := ⟨Nat.le_trans x.1 y.1, Nat.le_trans x.2 y.2⟩
theorem hm_le.ist {a : Nat} {j x : Int32} (hv : hm_ist h a j x = some h') : hm_le h h' := by obtain ⟨n, -, -, rfl⟩ := hm_ist_of hv; exact hm_le.rf
theorem hm_le.zst {a : Nat} {j x : Int32} (hv : hm_zst h a j x = some h') : hm_le h h' := by obtain ⟨n, -, -, rfl⟩ := hm_zst_of hv; exact hm_le.rf
theorem hm_le.pi {ci N k a : Nat} {x : Int32} (hv : hm_pi ci N k h a x = some h') : hm_le h h' := by obtain ⟨-, rfl⟩ := hm_pi_of hv; exact hm_le.rf
theorem hm_le.pz {ci N k a : Nat} {x : Int32} (hv : hm_pz ci N k h a x = some h') : hm_le h h' := by obtain ⟨-, -, rfl⟩ := hm_pz_of hv; exact hm_le.rf
theorem hm_le.pr {ci N k a b : Nat} (hv : hm_pr ci N k h a b = some h') : hm_le h h' := by obtain ⟨-, rfl⟩ := hm_pr_of hv; exact hm_le.rf
theorem hm_le.new {ci N q : Nat} (hv : hm_new ci N h = some (q, h')) : hm_le h h' := by cases hv; exact ⟨Nat.le_succ _, Nat.le_add_right _ _⟩
theorem hm_le.newa {t q : Nat} {j : Int32} (hv : hm_newa t h j = some (q, h')) : hm_le h h' := by
  unfold hm_newa at hv
  by_cases hc : ¬ j < 0 ∧ j.toNatClampNeg ≤ 1000000
  · rw [if_pos hc] at hv; cases hv; exact ⟨Nat.le_succ _, Nat.le_add_right _ _⟩
  · rw [if_neg hc] at hv; cases hv
theorem hm_le.newg {q : Nat} {i j : Int32} (hv : hm_newg h i j = some (q, h')) : hm_le h h' := by
  unfold hm_newg at hv
  by_cases hc : (¬ i < 0 ∧ ¬ j < 0) ∧ i.toNatClampNeg ≤ 1000 ∧ j.toNatClampNeg ≤ 1000
  · rw [if_pos hc] at hv; cases hv; exact ⟨by rw [hm_mkg_n]; omega, by rw [hm_mkg_s, Nat.add_assoc]; exact Nat.le_add_right _ _⟩
  · rw [if_neg hc] at hv; cases hv

end HM
