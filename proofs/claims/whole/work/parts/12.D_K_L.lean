def g_K_layAll_31 (F : Nat) (k31 : Nat → Nat → Int32 → hm_T → Option hm_T) (x0 : Nat) (x1 : Nat) (x2 : Int32) (h : hm_T) : Option hm_T :=
  (if x2 < 0 then some h else (hm_is 0 7 h x0).bind (fun u2 => (f_K_letGo F x0 x1 x2 h).bind (fun h3 => k31 x0 x1 (x2 + (-1 : Int32)) h3)))
def f_K_layAll_31 (F : Nat) : Nat → Nat → Nat → Int32 → hm_T → Option hm_T
  | 0 => fun _ _ _ _ => none
  | n + 1 => g_K_layAll_31 F (f_K_layAll_31 F n)
def f_K_layAll (F : Nat) (x0 : Nat) (x1 : Nat) (h : hm_T) : Option hm_T :=
  (hm_gr 2 5 3 h x1).bind (fun a1 => (hm_gi 2 5 0 h x1).bind (fun v2 => (hm_gr 2 5 2 h x1).bind (fun a3 => (hm_gr 0 7 0 h x0).bind (fun a4 => (f_D_copyAmong F a1 v2 a3 a4 h).bind (fun h5 => (hm_pi 0 7 4 h5 x0 (0 : Int32)).bind (fun h6 => (hm_gi 2 5 0 h6 x1).bind (fun v7 => f_K_layAll_31 F F x0 x1 (v7 - (1 : Int32)) h6)))))))
theorem m_g_K_layAll_31 {F : Nat} {h h' : hm_T} {x0 : Nat} {x1 : Nat} {x2 : Int32} {k31 : Nat → Nat → Int32 → hm_T → Option hm_T} (hk31 : ∀ (y0 : Nat) (y1 : Nat) (y2 : Int32) (g : hm_T), k31 y0 y1 y2 g = some h' → hm_le g h') (hf : g_K_layAll_31 F k31 x0 x1 x2 h = some h') : hm_le h h' := by
  unfold g_K_layAll_31 at hf
  by_cases z1 : x2 < 0
  · have hf := hm_ifp hf z1
    exact (hm_le.retv hf)
  · have hf := hm_ifn hf z1
    obtain ⟨u2, eu2, hf⟩ := hm_bind hf
    obtain ⟨h3, eh3, hf⟩ := hm_bind hf
    have mh3 := m_f_K_letGo eh3
    exact mh3.tr ((hk31 _ _ _ _ hf))
theorem m_K_layAll_31L {F : Nat} {h' : hm_T} : ∀ (N : Nat) (x0 : Nat) (x1 : Nat) (x2 : Int32) (h : hm_T), f_K_layAll_31 F N x0 x1 x2 h = some h' → hm_le h h' := by
  intro N
  induction N with
  | zero => intro _ _ _ _ hf; cases hf
  | succ n ih => intro x0 x1 x2 h hf; exact m_g_K_layAll_31 ih hf
theorem m_f_K_layAll {F : Nat} {h h' : hm_T} {x0 : Nat} {x1 : Nat} (hf : f_K_layAll F x0 x1 h = some h') : hm_le h h' := by
  unfold f_K_layAll at hf
  obtain ⟨a1, ea1, hf⟩ := hm_bind hf
  obtain ⟨v2, ev2, hf⟩ := hm_bind hf
  obtain ⟨a3, ea3, hf⟩ := hm_bind hf
  obtain ⟨a4, ea4, hf⟩ := hm_bind hf
  obtain ⟨h5, eh5, hf⟩ := hm_bind hf
  have mh5 := m_f_D_copyAmong eh5
  obtain ⟨h6, eh6, hf⟩ := hm_bind hf
  have mh6 := hm_le.pi eh6
  obtain ⟨v7, ev7, hf⟩ := hm_bind hf
  exact mh5.tr (mh6.tr ((m_K_layAll_31L _ _ _ _ _ hf)))
set_option maxRecDepth 20000 in
set_option maxHeartbeats 1000000 in
theorem w_g_K_layAll_31 {p : Program} {l : Launch} {e : Env} {R : Room} {s : State} {m : MethodId} {args : Array Value} {below : List Frame} {meth : Method} {c : Code} {E : hm_E} {n0 s0 F : Nat} {h h' : hm_T} {x0 : Nat} {x1 : Nat} {x2 : Int32} {k31 : Nat → Nat → Int32 → hm_T → Option hm_T} (C : hm_C E prog_2_method_2_code 3 "DistanceLabels$Contraction" 4 100 n0 s0 (hm_n h') (hm_s h') p R s m args c) (hr : meth.sig.returnType = none) (hlk : meth.locks = false) (hk31 : ∀ (y0 : Nat) (y1 : Nat) (y2 : Int32) (g : hm_T), k31 y0 y1 y2 g = some h' → hm_G E 3 n0 s0 (hm_n h') (hm_s h') p l e R s m args below meth c (MQ below (hm_Qc E none h') args s (hm_n h' - n0) (hm_s h' - s0) (fun q => E.2.2 ≤ q)) 31 [(0, .ref y0), (1, .ref y1), (2, .int y2)] [] g) (hf : g_K_layAll_31 F k31 x0 x1 x2 h = some h') : hm_G E 3 n0 s0 (hm_n h') (hm_s h') p l e R s m args below meth c (MQ below (hm_Qc E none h') args s (hm_n h' - n0) (hm_s h' - s0) (fun q => E.2.2 ≤ q)) 31 [(0, .ref x0), (1, .ref x1), (2, .int x2)] [] h := by
  unfold g_K_layAll_31 at hf
  refine hm_iload_n C d_K_layAll_31 rfl 2 rfl ?_
  refine hm_if_lt (tgt := 47) C d_K_layAll_32 (by decide) (fun z1 => ?_) (fun z1 => ?_)
  · have hf := hm_ifp hf z1
    exact hm_vret C hr hlk d_K_layAll_47 hf
  · have hf := hm_ifn hf z1
    refine hm_aload_n C d_K_layAll_35 rfl 0 rfl ?_
    refine hm_aload_n C d_K_layAll_36 rfl 1 rfl ?_
    refine hm_iload_n C d_K_layAll_37 rfl 2 rfl ?_
    obtain ⟨u2, eu2, hf⟩ := hm_bind hf
    obtain ⟨h3, eh3, hf⟩ := hm_bind hf
    refine hm_callV (vs := [.ref x1, .int x2]) (st := []) (sb := []) C (c_K_letGo eh3) Y_K_letGo F_0 eu2 k_79 k_80 k_78 (by decide) (by decide) rfl (Nat.le_of_ble_eq_true rfl) d_K_layAll_38 rfl rfl ?_
    refine hm_iinc (v := (x2 + (-1 : Int32))) (lv' := [(2, .int (x2 + (-1 : Int32))), (0, .ref x0), (1, .ref x1)]) C d_K_layAll_41 2 rfl rfl (by decide) rfl ?_
    refine hm_goto (tgt := 31) C d_K_layAll_44 (by decide) ?_
    refine hm_sub (lv' := [(0, .ref x0), (1, .ref x1), (2, .int (x2 + (-1 : Int32)))]) [1, 2, 0] rfl ?_
    exact hk31 _ _ _ _ hf
theorem w_K_layAll_31L {p : Program} {l : Launch} {e : Env} {R : Room} {s : State} {m : MethodId} {args : Array Value} {below : List Frame} {meth : Method} {c : Code} {E : hm_E} {n0 s0 F : Nat} {h' : hm_T} (C : hm_C E prog_2_method_2_code 3 "DistanceLabels$Contraction" 4 100 n0 s0 (hm_n h') (hm_s h') p R s m args c) (hr : meth.sig.returnType = none) (hlk : meth.locks = false) : ∀ (N : Nat) (x0 : Nat) (x1 : Nat) (x2 : Int32) (h : hm_T), f_K_layAll_31 F N x0 x1 x2 h = some h' → hm_G E 3 n0 s0 (hm_n h') (hm_s h') p l e R s m args below meth c (MQ below (hm_Qc E none h') args s (hm_n h' - n0) (hm_s h' - s0) (fun q => E.2.2 ≤ q)) 31 [(0, .ref x0), (1, .ref x1), (2, .int x2)] [] h := by
  intro N
  induction N with
  | zero => intro _ _ _ _ hf; cases hf
  | succ n ih => intro x0 x1 x2 h hf; exact w_g_K_layAll_31 C hr hlk ih hf
set_option maxRecDepth 20000 in
set_option maxHeartbeats 1000000 in
theorem w_f_K_layAll {p : Program} {l : Launch} {e : Env} {R : Room} {s : State} {m : MethodId} {args : Array Value} {below : List Frame} {meth : Method} {c : Code} {E : hm_E} {n0 s0 F : Nat} {h h' : hm_T} {x0 : Nat} {x1 : Nat} (C : hm_C E prog_2_method_2_code 3 "DistanceLabels$Contraction" 4 100 n0 s0 (hm_n h') (hm_s h') p R s m args c) (hr : meth.sig.returnType = none) (hlk : meth.locks = false) (hf : f_K_layAll F x0 x1 h = some h') : hm_G E 3 n0 s0 (hm_n h') (hm_s h') p l e R s m args below meth c (MQ below (hm_Qc E none h') args s (hm_n h' - n0) (hm_s h' - s0) (fun q => E.2.2 ≤ q)) 0 [(0, .ref x0), (1, .ref x1)] [] h := by
  unfold f_K_layAll at hf
  refine hm_aload_n C d_K_layAll_0 rfl 1 rfl ?_
  obtain ⟨a1, ea1, hf⟩ := hm_bind hf
  refine hm_getRN C F_2 3 (by decide) rfl kF_5 d_K_layAll_1 ea1 ?_
  refine hm_aload_n C d_K_layAll_4 rfl 1 rfl ?_
  obtain ⟨v2, ev2, hf⟩ := hm_bind hf
  refine hm_getIN C F_2 0 (by decide) rfl kF_3 d_K_layAll_5 ev2 ?_
  refine hm_aload_n C d_K_layAll_8 rfl 1 rfl ?_
  obtain ⟨a3, ea3, hf⟩ := hm_bind hf
  refine hm_getRN C F_2 2 (by decide) rfl kF_6 d_K_layAll_9 ea3 ?_
  refine hm_aload_n C d_K_layAll_12 rfl 0 rfl ?_
  obtain ⟨a4, ea4, hf⟩ := hm_bind hf
  refine hm_getR C F_0 0 (by decide) rfl k_14 d_K_layAll_13 ea4 ?_
  obtain ⟨h5, eh5, hf⟩ := hm_bind hf
  refine hm_callSN (vs := [.ref a1, .int v2, .ref a3, .ref a4]) (st := []) (sb := []) C (c_D_copyAmong eh5) Y_D_copyAmong k_67 kM_15 (by decide) (by decide) rfl (Nat.le_of_ble_eq_true rfl) d_K_layAll_16 rfl rfl ?_
  refine hm_aload_n C d_K_layAll_19 rfl 0 rfl ?_
  refine hm_iconst (v := (0 : Int32)) C d_K_layAll_20 (by decide) ?_
  obtain ⟨h6, eh6, hf⟩ := hm_bind hf
  refine hm_putI C F_0 4 (by decide) rfl k_18 (Or.inl rfl) rfl d_K_layAll_21 eh6 ?_
  refine hm_aload_n C d_K_layAll_24 rfl 1 rfl ?_
  obtain ⟨v7, ev7, hf⟩ := hm_bind hf
  refine hm_getIN C F_2 0 (by decide) rfl kF_3 d_K_layAll_25 ev7 ?_
  refine hm_iconst (v := (1 : Int32)) C d_K_layAll_28 (by decide) ?_
  refine hm_isub C d_K_layAll_29 ?_
  refine hm_istore_n (lv' := [(2, .int (v7 - (1 : Int32))), (0, .ref x0), (1, .ref x1)]) C d_K_layAll_30 rfl (by decide) rfl ?_
  refine hm_sub (lv' := [(0, .ref x0), (1, .ref x1), (2, .int (v7 - (1 : Int32)))]) [1, 2, 0] rfl ?_
  exact w_K_layAll_31L C hr hlk _ _ _ _ _ hf
set_option maxRecDepth 20000 in
theorem c_K_layAll {E : hm_E} {l : Launch} {F : Nat} {h h' : hm_T} {x0 : Nat} {x1 : Nat} (hf : f_K_layAll F x0 x1 h = some h') : hm_M E l y_K_layAll prog_2_method_2_code 3 none 4 100 [.ref x0, .ref x1] h none h' :=
  hm_enter (by decide +kernel) (Nat.le_of_ble_eq_true rfl) (m_f_K_layAll hf) (fun p e R s m below meth c C hr hlk hin => w_f_K_layAll C hr hlk hf)
def f_D_make_58 (F : Nat) (x0 : Nat) (x1 : Int32) (h : hm_T) : Option (Int32 × hm_T) :=
  (hm_gr 3 9 4 h x0).bind (fun a1 => (hm_gr 3 9 0 h x0).bind (fun a2 => (hm_is 0 7 h a1).bind (fun u3 => (f_K_layAll F a1 a2 h).bind (fun h4 => (hm_pz 3 9 7 h4 x0 (1 : Int32)).bind (fun h5 => some (x1, h5))))))
def f_D_make_52 (F : Nat) (k13 : Nat → Int32 → Int32 → hm_T → Option (Int32 × hm_T)) (x0 : Nat) (x1 : Int32) (x2 : Int32) (h : hm_T) : Option (Int32 × hm_T) :=
  k13 x0 x1 (x2 + (1 : Int32)) h
def g_D_make_26 (F : Nat) (k13 : Nat → Int32 → Int32 → hm_T → Option (Int32 × hm_T)) (k26 : Nat → Int32 → Int32 → Int32 → hm_T → Option (Int32 × hm_T)) (x0 : Nat) (x1 : Int32) (x2 : Int32) (x3 : Int32) (h : hm_T) : Option (Int32 × hm_T) :=
  (hm_gr 3 9 0 h x0).bind (fun a1 => (hm_gi 2 5 0 h a1).bind (fun v2 => (if v2 ≤ x3 then f_D_make_52 F k13 x0 x1 x2 h else (hm_is 3 9 h x0).bind (fun u4 => hm_and (f_D_layPair F x0 x2 x3 h) (fun v5 h5 => k26 x0 (x1 + v5) x2 (x3 + (1 : Int32)) h5)))))
def f_D_make_26 (F : Nat) (k13 : Nat → Int32 → Int32 → hm_T → Option (Int32 × hm_T)) : Nat → Nat → Int32 → Int32 → Int32 → hm_T → Option (Int32 × hm_T)
  | 0 => fun _ _ _ _ _ => none
  | n + 1 => g_D_make_26 F k13 (f_D_make_26 F k13 n)
def g_D_make_13 (F : Nat) (k13 : Nat → Int32 → Int32 → hm_T → Option (Int32 × hm_T)) (x0 : Nat) (x1 : Int32) (x2 : Int32) (h : hm_T) : Option (Int32 × hm_T) :=
  (hm_gr 3 9 0 h x0).bind (fun a1 => (hm_gi 2 5 0 h a1).bind (fun v2 => (if v2 ≤ x2 then f_D_make_58 F x0 x1 h else f_D_make_26 F k13 F x0 x1 x2 (0 : Int32) h)))
def f_D_make_13 (F : Nat) : Nat → Nat → Int32 → Int32 → hm_T → Option (Int32 × hm_T)
  | 0 => fun _ _ _ _ => none
  | n + 1 => g_D_make_13 F (f_D_make_13 F n)
def f_D_make (F : Nat) (x0 : Nat) (h : hm_T) : Option (Int32 × hm_T) :=
  (hm_is 3 9 h x0).bind (fun u1 => (f_D_layDistances F x0 h).bind (fun h2 => (hm_pi 3 9 8 h2 x0 (0 : Int32)).bind (fun h3 => f_D_make_13 F F x0 (0 : Int32) (0 : Int32) h3)))
theorem m_f_D_make_58 {F : Nat} {r : Int32} {h h' : hm_T} {x0 : Nat} {x1 : Int32} (hf : f_D_make_58 F x0 x1 h = some (r, h')) : hm_le h h' := by
  unfold f_D_make_58 at hf
  obtain ⟨a1, ea1, hf⟩ := hm_bind hf
  obtain ⟨a2, ea2, hf⟩ := hm_bind hf
  obtain ⟨u3, eu3, hf⟩ := hm_bind hf
  obtain ⟨h4, eh4, hf⟩ := hm_bind hf
  have mh4 := m_f_K_layAll eh4
  obtain ⟨h5, eh5, hf⟩ := hm_bind hf
  have mh5 := hm_le.pz eh5
  exact mh4.tr (mh5.tr ((hm_le.ret hf)))
theorem m_f_D_make_52 {F : Nat} {r : Int32} {h h' : hm_T} {x0 : Nat} {x1 : Int32} {x2 : Int32} {k13 : Nat → Int32 → Int32 → hm_T → Option (Int32 × hm_T)} (hk13 : ∀ (y0 : Nat) (y1 : Int32) (y2 : Int32) (g : hm_T), k13 y0 y1 y2 g = some (r, h') → hm_le g h') (hf : f_D_make_52 F k13 x0 x1 x2 h = some (r, h')) : hm_le h h' := by
  unfold f_D_make_52 at hf
  exact (hk13 _ _ _ _ hf)
theorem m_g_D_make_26 {F : Nat} {r : Int32} {h h' : hm_T} {x0 : Nat} {x1 : Int32} {x2 : Int32} {x3 : Int32} {k13 : Nat → Int32 → Int32 → hm_T → Option (Int32 × hm_T)} {k26 : Nat → Int32 → Int32 → Int32 → hm_T → Option (Int32 × hm_T)} (hk13 : ∀ (y0 : Nat) (y1 : Int32) (y2 : Int32) (g : hm_T), k13 y0 y1 y2 g = some (r, h') → hm_le g h') (hk26 : ∀ (y0 : Nat) (y1 : Int32) (y2 : Int32) (y3 : Int32) (g : hm_T), k26 y0 y1 y2 y3 g = some (r, h') → hm_le g h') (hf : g_D_make_26 F k13 k26 x0 x1 x2 x3 h = some (r, h')) : hm_le h h' := by
  unfold g_D_make_26 at hf
  obtain ⟨a1, ea1, hf⟩ := hm_bind hf
  obtain ⟨v2, ev2, hf⟩ := hm_bind hf
  by_cases z3 : v2 ≤ x3
  · have hf := hm_ifp hf z3
    exact (m_f_D_make_52 hk13 hf)
  · have hf := hm_ifn hf z3
    obtain ⟨u4, eu4, hf⟩ := hm_bind hf
    obtain ⟨v5, h5, eh5, hf⟩ := hm_and_of hf
    have mh5 := m_f_D_layPair eh5
    exact mh5.tr ((hk26 _ _ _ _ _ hf))
theorem m_D_make_26L {F : Nat} {r : Int32} {h' : hm_T} {k13 : Nat → Int32 → Int32 → hm_T → Option (Int32 × hm_T)} (hk13 : ∀ (y0 : Nat) (y1 : Int32) (y2 : Int32) (g : hm_T), k13 y0 y1 y2 g = some (r, h') → hm_le g h') : ∀ (N : Nat) (x0 : Nat) (x1 : Int32) (x2 : Int32) (x3 : Int32) (h : hm_T), f_D_make_26 F k13 N x0 x1 x2 x3 h = some (r, h') → hm_le h h' := by
  intro N
  induction N with
  | zero => intro _ _ _ _ _ hf; cases hf
  | succ n ih => intro x0 x1 x2 x3 h hf; exact m_g_D_make_26 hk13 ih hf
theorem m_g_D_make_13 {F : Nat} {r : Int32} {h h' : hm_T} {x0 : Nat} {x1 : Int32} {x2 : Int32} {k13 : Nat → Int32 → Int32 → hm_T → Option (Int32 × hm_T)} (hk13 : ∀ (y0 : Nat) (y1 : Int32) (y2 : Int32) (g : hm_T), k13 y0 y1 y2 g = some (r, h') → hm_le g h') (hf : g_D_make_13 F k13 x0 x1 x2 h = some (r, h')) : hm_le h h' := by
  unfold g_D_make_13 at hf
  obtain ⟨a1, ea1, hf⟩ := hm_bind hf
  obtain ⟨v2, ev2, hf⟩ := hm_bind hf
  by_cases z3 : v2 ≤ x2
  · have hf := hm_ifp hf z3
    exact (m_f_D_make_58 hf)
  · have hf := hm_ifn hf z3
    exact (m_D_make_26L hk13 _ _ _ _ _ _ hf)
theorem m_D_make_13L {F : Nat} {r : Int32} {h' : hm_T} : ∀ (N : Nat) (x0 : Nat) (x1 : Int32) (x2 : Int32) (h : hm_T), f_D_make_13 F N x0 x1 x2 h = some (r, h') → hm_le h h' := by
  intro N
  induction N with
  | zero => intro _ _ _ _ hf; cases hf
  | succ n ih => intro x0 x1 x2 h hf; exact m_g_D_make_13 ih hf
theorem m_f_D_make {F : Nat} {r : Int32} {h h' : hm_T} {x0 : Nat} (hf : f_D_make F x0 h = some (r, h')) : hm_le h h' := by
  unfold f_D_make at hf
  obtain ⟨u1, eu1, hf⟩ := hm_bind hf
  obtain ⟨h2, eh2, hf⟩ := hm_bind hf
  have mh2 := m_f_D_layDistances eh2
  obtain ⟨h3, eh3, hf⟩ := hm_bind hf
  have mh3 := hm_le.pi eh3
  exact mh2.tr (mh3.tr ((m_D_make_13L _ _ _ _ _ hf)))
set_option maxRecDepth 20000 in
set_option maxHeartbeats 1000000 in
theorem w_f_D_make_58 {p : Program} {l : Launch} {e : Env} {R : Room} {s : State} {m : MethodId} {args : Array Value} {below : List Frame} {meth : Method} {c : Code} {E : hm_E} {n0 s0 F : Nat} {r : Int32} {h h' : hm_T} {x0 : Nat} {x1 : Int32} (C : hm_C E prog_1_method_8_code 4 "DistanceLabels" 5 122 n0 s0 (hm_n h') (hm_s h') p R s m args c) (hr : meth.sig.returnType = (some .int)) (hlk : meth.locks = false) (hf : f_D_make_58 F x0 x1 h = some (r, h')) : hm_G E 4 n0 s0 (hm_n h') (hm_s h') p l e R s m args below meth c (MQ below (hm_Qc E (some (.int r)) h') args s (hm_n h' - n0) (hm_s h' - s0) (fun q => E.2.2 ≤ q)) 58 [(0, .ref x0), (1, .int x1)] [] h := by
  unfold f_D_make_58 at hf
  refine hm_aload_n C d_D_make_58 rfl 0 rfl ?_
  obtain ⟨a1, ea1, hf⟩ := hm_bind hf
  refine hm_getR C F_3 4 (by decide) rfl k_39 d_D_make_59 ea1 ?_
  refine hm_aload_n C d_D_make_62 rfl 0 rfl ?_
  obtain ⟨a2, ea2, hf⟩ := hm_bind hf
  refine hm_getR C F_3 0 (by decide) rfl k_26 d_D_make_63 ea2 ?_
  obtain ⟨u3, eu3, hf⟩ := hm_bind hf
  obtain ⟨h4, eh4, hf⟩ := hm_bind hf
  refine hm_callVN (vs := [.ref a2]) (st := []) (sb := []) C (c_K_layAll eh4) Y_K_layAll F_0 eu3 k_81 k_82 kM_17 (by decide) (by decide) rfl (Nat.le_of_ble_eq_true rfl) d_D_make_66 rfl rfl ?_
  refine hm_aload_n C d_D_make_69 rfl 0 rfl ?_
  refine hm_iconst (v := (1 : Int32)) C d_D_make_70 (by decide) ?_
  obtain ⟨h5, eh5, hf⟩ := hm_bind hf
  refine hm_putZ C F_3 7 (by decide) rfl k_42 (Or.inl rfl) rfl d_D_make_71 eh5 ?_
  refine hm_iload_n C d_D_make_74 rfl 1 rfl ?_
  exact hm_iret C hr hlk d_D_make_75 hf
set_option maxRecDepth 20000 in
set_option maxHeartbeats 1000000 in
theorem w_f_D_make_52 {p : Program} {l : Launch} {e : Env} {R : Room} {s : State} {m : MethodId} {args : Array Value} {below : List Frame} {meth : Method} {c : Code} {E : hm_E} {n0 s0 F : Nat} {r : Int32} {h h' : hm_T} {x0 : Nat} {x1 : Int32} {x2 : Int32} {k13 : Nat → Int32 → Int32 → hm_T → Option (Int32 × hm_T)} (C : hm_C E prog_1_method_8_code 4 "DistanceLabels" 5 122 n0 s0 (hm_n h') (hm_s h') p R s m args c) (hr : meth.sig.returnType = (some .int)) (hlk : meth.locks = false) (hk13 : ∀ (y0 : Nat) (y1 : Int32) (y2 : Int32) (g : hm_T), k13 y0 y1 y2 g = some (r, h') → hm_G E 4 n0 s0 (hm_n h') (hm_s h') p l e R s m args below meth c (MQ below (hm_Qc E (some (.int r)) h') args s (hm_n h' - n0) (hm_s h' - s0) (fun q => E.2.2 ≤ q)) 13 [(0, .ref y0), (1, .int y1), (2, .int y2)] [] g) (hf : f_D_make_52 F k13 x0 x1 x2 h = some (r, h')) : hm_G E 4 n0 s0 (hm_n h') (hm_s h') p l e R s m args below meth c (MQ below (hm_Qc E (some (.int r)) h') args s (hm_n h' - n0) (hm_s h' - s0) (fun q => E.2.2 ≤ q)) 52 [(0, .ref x0), (1, .int x1), (2, .int x2)] [] h := by
  unfold f_D_make_52 at hf
  refine hm_iinc (v := (x2 + (1 : Int32))) (lv' := [(2, .int (x2 + (1 : Int32))), (0, .ref x0), (1, .int x1)]) C d_D_make_52 2 rfl rfl (by decide) rfl ?_
  refine hm_goto (tgt := 13) C d_D_make_55 (by decide) ?_
  refine hm_sub (lv' := [(0, .ref x0), (1, .int x1), (2, .int (x2 + (1 : Int32)))]) [1, 2, 0] rfl ?_
  exact hk13 _ _ _ _ hf
set_option maxRecDepth 20000 in
set_option maxHeartbeats 1000000 in
theorem w_g_D_make_26 {p : Program} {l : Launch} {e : Env} {R : Room} {s : State} {m : MethodId} {args : Array Value} {below : List Frame} {meth : Method} {c : Code} {E : hm_E} {n0 s0 F : Nat} {r : Int32} {h h' : hm_T} {x0 : Nat} {x1 : Int32} {x2 : Int32} {x3 : Int32} {k13 : Nat → Int32 → Int32 → hm_T → Option (Int32 × hm_T)} {k26 : Nat → Int32 → Int32 → Int32 → hm_T → Option (Int32 × hm_T)} (C : hm_C E prog_1_method_8_code 4 "DistanceLabels" 5 122 n0 s0 (hm_n h') (hm_s h') p R s m args c) (hr : meth.sig.returnType = (some .int)) (hlk : meth.locks = false) (hk13 : ∀ (y0 : Nat) (y1 : Int32) (y2 : Int32) (g : hm_T), k13 y0 y1 y2 g = some (r, h') → hm_G E 4 n0 s0 (hm_n h') (hm_s h') p l e R s m args below meth c (MQ below (hm_Qc E (some (.int r)) h') args s (hm_n h' - n0) (hm_s h' - s0) (fun q => E.2.2 ≤ q)) 13 [(0, .ref y0), (1, .int y1), (2, .int y2)] [] g) (hk26 : ∀ (y0 : Nat) (y1 : Int32) (y2 : Int32) (y3 : Int32) (g : hm_T), k26 y0 y1 y2 y3 g = some (r, h') → hm_G E 4 n0 s0 (hm_n h') (hm_s h') p l e R s m args below meth c (MQ below (hm_Qc E (some (.int r)) h') args s (hm_n h' - n0) (hm_s h' - s0) (fun q => E.2.2 ≤ q)) 26 [(0, .ref y0), (1, .int y1), (2, .int y2), (3, .int y3)] [] g) (hf : g_D_make_26 F k13 k26 x0 x1 x2 x3 h = some (r, h')) : hm_G E 4 n0 s0 (hm_n h') (hm_s h') p l e R s m args below meth c (MQ below (hm_Qc E (some (.int r)) h') args s (hm_n h' - n0) (hm_s h' - s0) (fun q => E.2.2 ≤ q)) 26 [(0, .ref x0), (1, .int x1), (2, .int x2), (3, .int x3)] [] h := by
  unfold g_D_make_26 at hf
  refine hm_iload_n C d_D_make_26 rfl 3 rfl ?_
  refine hm_aload_n C d_D_make_27 rfl 0 rfl ?_
  obtain ⟨a1, ea1, hf⟩ := hm_bind hf
  refine hm_getR C F_3 0 (by decide) rfl k_26 d_D_make_28 ea1 ?_
  obtain ⟨v2, ev2, hf⟩ := hm_bind hf
  refine hm_getIN C F_2 0 (by decide) rfl kF_0 d_D_make_31 ev2 ?_
  refine hm_icmp_ge (tgt := 52) C d_D_make_34 (by decide) (fun z3 => ?_) (fun z3 => ?_)
  · have hf := hm_ifp hf z3
    refine hm_sub (lv' := [(0, .ref x0), (1, .int x1), (2, .int x2)]) [0, 1, 2] rfl ?_
    exact w_f_D_make_52 C hr hlk hk13 hf
  · have hf := hm_ifn hf z3
    refine hm_iload_n C d_D_make_37 rfl 1 rfl ?_
    refine hm_aload_n C d_D_make_38 rfl 0 rfl ?_
    refine hm_iload_n C d_D_make_39 rfl 2 rfl ?_
    refine hm_iload_n C d_D_make_40 rfl 3 rfl ?_
    obtain ⟨u4, eu4, hf⟩ := hm_bind hf
    obtain ⟨v5, h5, eh5, hf⟩ := hm_and_of hf
    refine hm_callV (vs := [.int x2, .int x3]) (st := [.int x1]) (sb := [.int v5, .int x1]) C (c_D_layPair eh5) Y_D_layPair F_3 eu4 k_84 k_85 k_83 (by decide) (by decide) rfl (Nat.le_of_ble_eq_true rfl) d_D_make_41 rfl rfl ?_
    refine hm_iadd C d_D_make_44 ?_
    refine hm_istore_n (lv' := [(1, .int (x1 + v5)), (0, .ref x0), (2, .int x2), (3, .int x3)]) C d_D_make_45 rfl (by decide) rfl ?_
    refine hm_iinc (v := (x3 + (1 : Int32))) (lv' := [(3, .int (x3 + (1 : Int32))), (1, .int (x1 + v5)), (0, .ref x0), (2, .int x2)]) C d_D_make_46 3 rfl rfl (by decide) rfl ?_
    refine hm_goto (tgt := 26) C d_D_make_49 (by decide) ?_
    refine hm_sub (lv' := [(0, .ref x0), (1, .int (x1 + v5)), (2, .int x2), (3, .int (x3 + (1 : Int32)))]) [2, 1, 3, 0] rfl ?_
    exact hk26 _ _ _ _ _ hf
theorem w_D_make_26L {p : Program} {l : Launch} {e : Env} {R : Room} {s : State} {m : MethodId} {args : Array Value} {below : List Frame} {meth : Method} {c : Code} {E : hm_E} {n0 s0 F : Nat} {r : Int32} {h' : hm_T} {k13 : Nat → Int32 → Int32 → hm_T → Option (Int32 × hm_T)} (C : hm_C E prog_1_method_8_code 4 "DistanceLabels" 5 122 n0 s0 (hm_n h') (hm_s h') p R s m args c) (hr : meth.sig.returnType = (some .int)) (hlk : meth.locks = false) (hk13 : ∀ (y0 : Nat) (y1 : Int32) (y2 : Int32) (g : hm_T), k13 y0 y1 y2 g = some (r, h') → hm_G E 4 n0 s0 (hm_n h') (hm_s h') p l e R s m args below meth c (MQ below (hm_Qc E (some (.int r)) h') args s (hm_n h' - n0) (hm_s h' - s0) (fun q => E.2.2 ≤ q)) 13 [(0, .ref y0), (1, .int y1), (2, .int y2)] [] g) : ∀ (N : Nat) (x0 : Nat) (x1 : Int32) (x2 : Int32) (x3 : Int32) (h : hm_T), f_D_make_26 F k13 N x0 x1 x2 x3 h = some (r, h') → hm_G E 4 n0 s0 (hm_n h') (hm_s h') p l e R s m args below meth c (MQ below (hm_Qc E (some (.int r)) h') args s (hm_n h' - n0) (hm_s h' - s0) (fun q => E.2.2 ≤ q)) 26 [(0, .ref x0), (1, .int x1), (2, .int x2), (3, .int x3)] [] h := by
  intro N
  induction N with
  | zero => intro _ _ _ _ _ hf; cases hf
  | succ n ih => intro x0 x1 x2 x3 h hf; exact w_g_D_make_26 C hr hlk hk13 ih hf
set_option maxRecDepth 20000 in
set_option maxHeartbeats 1000000 in
theorem w_g_D_make_13 {p : Program} {l : Launch} {e : Env} {R : Room} {s : State} {m : MethodId} {args : Array Value} {below : List Frame} {meth : Method} {c : Code} {E : hm_E} {n0 s0 F : Nat} {r : Int32} {h h' : hm_T} {x0 : Nat} {x1 : Int32} {x2 : Int32} {k13 : Nat → Int32 → Int32 → hm_T → Option (Int32 × hm_T)} (C : hm_C E prog_1_method_8_code 4 "DistanceLabels" 5 122 n0 s0 (hm_n h') (hm_s h') p R s m args c) (hr : meth.sig.returnType = (some .int)) (hlk : meth.locks = false) (hk13 : ∀ (y0 : Nat) (y1 : Int32) (y2 : Int32) (g : hm_T), k13 y0 y1 y2 g = some (r, h') → hm_G E 4 n0 s0 (hm_n h') (hm_s h') p l e R s m args below meth c (MQ below (hm_Qc E (some (.int r)) h') args s (hm_n h' - n0) (hm_s h' - s0) (fun q => E.2.2 ≤ q)) 13 [(0, .ref y0), (1, .int y1), (2, .int y2)] [] g) (hf : g_D_make_13 F k13 x0 x1 x2 h = some (r, h')) : hm_G E 4 n0 s0 (hm_n h') (hm_s h') p l e R s m args below meth c (MQ below (hm_Qc E (some (.int r)) h') args s (hm_n h' - n0) (hm_s h' - s0) (fun q => E.2.2 ≤ q)) 13 [(0, .ref x0), (1, .int x1), (2, .int x2)] [] h := by
  unfold g_D_make_13 at hf
  refine hm_iload_n C d_D_make_13 rfl 2 rfl ?_
  refine hm_aload_n C d_D_make_14 rfl 0 rfl ?_
  obtain ⟨a1, ea1, hf⟩ := hm_bind hf
  refine hm_getR C F_3 0 (by decide) rfl k_26 d_D_make_15 ea1 ?_
  obtain ⟨v2, ev2, hf⟩ := hm_bind hf
  refine hm_getIN C F_2 0 (by decide) rfl kF_0 d_D_make_18 ev2 ?_
  refine hm_icmp_ge (tgt := 58) C d_D_make_21 (by decide) (fun z3 => ?_) (fun z3 => ?_)
  · have hf := hm_ifp hf z3
    refine hm_sub (lv' := [(0, .ref x0), (1, .int x1)]) [0, 1] rfl ?_
    exact w_f_D_make_58 C hr hlk hf
  · have hf := hm_ifn hf z3
    refine hm_iconst (v := (0 : Int32)) C d_D_make_24 (by decide) ?_
    refine hm_istore_n (lv' := [(3, .int (0 : Int32)), (0, .ref x0), (1, .int x1), (2, .int x2)]) C d_D_make_25 rfl (by decide) rfl ?_
    refine hm_sub (lv' := [(0, .ref x0), (1, .int x1), (2, .int x2), (3, .int (0 : Int32))]) [1, 2, 3, 0] rfl ?_
    exact w_D_make_26L C hr hlk hk13 _ _ _ _ _ _ hf
theorem w_D_make_13L {p : Program} {l : Launch} {e : Env} {R : Room} {s : State} {m : MethodId} {args : Array Value} {below : List Frame} {meth : Method} {c : Code} {E : hm_E} {n0 s0 F : Nat} {r : Int32} {h' : hm_T} (C : hm_C E prog_1_method_8_code 4 "DistanceLabels" 5 122 n0 s0 (hm_n h') (hm_s h') p R s m args c) (hr : meth.sig.returnType = (some .int)) (hlk : meth.locks = false) : ∀ (N : Nat) (x0 : Nat) (x1 : Int32) (x2 : Int32) (h : hm_T), f_D_make_13 F N x0 x1 x2 h = some (r, h') → hm_G E 4 n0 s0 (hm_n h') (hm_s h') p l e R s m args below meth c (MQ below (hm_Qc E (some (.int r)) h') args s (hm_n h' - n0) (hm_s h' - s0) (fun q => E.2.2 ≤ q)) 13 [(0, .ref x0), (1, .int x1), (2, .int x2)] [] h := by
  intro N
  induction N with
  | zero => intro _ _ _ _ hf; cases hf
  | succ n ih => intro x0 x1 x2 h hf; exact w_g_D_make_13 C hr hlk ih hf
set_option maxRecDepth 20000 in
set_option maxHeartbeats 1000000 in
theorem w_f_D_make {p : Program} {l : Launch} {e : Env} {R : Room} {s : State} {m : MethodId} {args : Array Value} {below : List Frame} {meth : Method} {c : Code} {E : hm_E} {n0 s0 F : Nat} {r : Int32} {h h' : hm_T} {x0 : Nat} (C : hm_C E prog_1_method_8_code 4 "DistanceLabels" 5 122 n0 s0 (hm_n h') (hm_s h') p R s m args c) (hr : meth.sig.returnType = (some .int)) (hlk : meth.locks = false) (hf : f_D_make F x0 h = some (r, h')) : hm_G E 4 n0 s0 (hm_n h') (hm_s h') p l e R s m args below meth c (MQ below (hm_Qc E (some (.int r)) h') args s (hm_n h' - n0) (hm_s h' - s0) (fun q => E.2.2 ≤ q)) 0 [(0, .ref x0)] [] h := by
  unfold f_D_make at hf
  refine hm_aload_n C d_D_make_0 rfl 0 rfl ?_
  obtain ⟨u1, eu1, hf⟩ := hm_bind hf
  obtain ⟨h2, eh2, hf⟩ := hm_bind hf
  refine hm_callV (vs := []) (st := []) (sb := []) C (c_D_layDistances eh2) Y_D_layDistances F_3 eu1 k_87 k_88 k_86 (by decide) (by decide) rfl (Nat.le_of_ble_eq_true rfl) d_D_make_1 rfl rfl ?_
  refine hm_aload_n C d_D_make_4 rfl 0 rfl ?_
  refine hm_iconst (v := (0 : Int32)) C d_D_make_5 (by decide) ?_
  obtain ⟨h3, eh3, hf⟩ := hm_bind hf
  refine hm_putI C F_3 8 (by decide) rfl k_43 (Or.inl rfl) rfl d_D_make_6 eh3 ?_
  refine hm_iconst (v := (0 : Int32)) C d_D_make_9 (by decide) ?_
  refine hm_istore_n (lv' := [(1, .int (0 : Int32)), (0, .ref x0)]) C d_D_make_10 rfl (by decide) rfl ?_
  refine hm_iconst (v := (0 : Int32)) C d_D_make_11 (by decide) ?_
  refine hm_istore_n (lv' := [(2, .int (0 : Int32)), (1, .int (0 : Int32)), (0, .ref x0)]) C d_D_make_12 rfl (by decide) rfl ?_
  refine hm_sub (lv' := [(0, .ref x0), (1, .int (0 : Int32)), (2, .int (0 : Int32))]) [2, 1, 0] rfl ?_
  exact w_D_make_13L C hr hlk _ _ _ _ _ hf
set_option maxRecDepth 20000 in
theorem c_D_make {E : hm_E} {l : Launch} {F : Nat} {r : Int32} {h h' : hm_T} {x0 : Nat} (hf : f_D_make F x0 h = some (r, h')) : hm_M E l y_D_make prog_1_method_8_code 4 (some .int) 5 122 [.ref x0] h (some (.int r)) h' :=
  hm_enter (by decide +kernel) (Nat.le_of_ble_eq_true rfl) (m_f_D_make hf) (fun p e R s m below meth c C hr hlk hin => w_f_D_make C hr hlk hf)
def f_D_isSide_9 (F : Nat) (h : hm_T) : Option (Int32 × hm_T) :=
  (hm_zr (1 : Int32)).bind (fun v1 => some (v1, h))
def f_D_isSide (F : Nat) (x0 : Int32) (h : hm_T) : Option (Int32 × hm_T) :=
  (if x0 = 0 then f_D_isSide_9 F h else (if x0 = (1 : Int32) then f_D_isSide_9 F h else (hm_zr (0 : Int32)).bind (fun v3 => some (v3, h))))
theorem m_f_D_isSide_9 {F : Nat} {r : Int32} {h h' : hm_T} (hf : f_D_isSide_9 F h = some (r, h')) : hm_le h h' := by
  unfold f_D_isSide_9 at hf
  obtain ⟨v1, ev1, hf⟩ := hm_bind hf
  exact (hm_le.ret hf)
theorem m_f_D_isSide {F : Nat} {r : Int32} {h h' : hm_T} {x0 : Int32} (hf : f_D_isSide F x0 h = some (r, h')) : hm_le h h' := by
  unfold f_D_isSide at hf
  by_cases z1 : x0 = 0
  · have hf := hm_ifp hf z1
    exact (m_f_D_isSide_9 hf)
  · have hf := hm_ifn hf z1
    by_cases z2 : x0 = (1 : Int32)
    · have hf := hm_ifp hf z2
      exact (m_f_D_isSide_9 hf)
    · have hf := hm_ifn hf z2
      obtain ⟨v3, ev3, hf⟩ := hm_bind hf
      exact (hm_le.ret hf)
set_option maxRecDepth 20000 in
set_option maxHeartbeats 1000000 in
theorem w_f_D_isSide_9 {p : Program} {l : Launch} {e : Env} {R : Room} {s : State} {m : MethodId} {args : Array Value} {below : List Frame} {meth : Method} {c : Code} {E : hm_E} {n0 s0 F : Nat} {r : Int32} {h h' : hm_T} (C : hm_C E prog_1_method_22_code 1 "DistanceLabels" 0 0 n0 s0 (hm_n h') (hm_s h') p R s m args c) (hr : meth.sig.returnType = (some .boolean)) (hlk : meth.locks = false) (hf : f_D_isSide_9 F h = some (r, h')) : hm_G E 1 n0 s0 (hm_n h') (hm_s h') p l e R s m args below meth c (MQ below (hm_Qc E (some (.int r)) h') args s (hm_n h' - n0) (hm_s h' - s0) (fun q => E.2.2 ≤ q)) 9 [] [] h := by
  unfold f_D_isSide_9 at hf
  refine hm_iconst (v := (1 : Int32)) C d_D_isSide_9 (by decide) ?_
  refine hm_goto (tgt := 14) C d_D_isSide_10 (by decide) ?_
  obtain ⟨v1, ev1, hf⟩ := hm_bind hf
  exact hm_zret C hr hlk d_D_isSide_14 ev1 hf
set_option maxRecDepth 20000 in
set_option maxHeartbeats 1000000 in
theorem w_f_D_isSide {p : Program} {l : Launch} {e : Env} {R : Room} {s : State} {m : MethodId} {args : Array Value} {below : List Frame} {meth : Method} {c : Code} {E : hm_E} {n0 s0 F : Nat} {r : Int32} {h h' : hm_T} {x0 : Int32} (C : hm_C E prog_1_method_22_code 1 "DistanceLabels" 0 0 n0 s0 (hm_n h') (hm_s h') p R s m args c) (hr : meth.sig.returnType = (some .boolean)) (hlk : meth.locks = false) (hf : f_D_isSide F x0 h = some (r, h')) : hm_G E 1 n0 s0 (hm_n h') (hm_s h') p l e R s m args below meth c (MQ below (hm_Qc E (some (.int r)) h') args s (hm_n h' - n0) (hm_s h' - s0) (fun q => E.2.2 ≤ q)) 0 [(0, .int x0)] [] h := by
  unfold f_D_isSide at hf
  refine hm_iload_n C d_D_isSide_0 rfl 0 rfl ?_
  refine hm_if_eq (tgt := 9) C d_D_isSide_1 (by decide) (fun z1 => ?_) (fun z1 => ?_)
  · have hf := hm_ifp hf z1
    refine hm_sub (lv' := []) [] rfl ?_
    exact w_f_D_isSide_9 C hr hlk hf
  · have hf := hm_ifn hf z1
    refine hm_iload_n C d_D_isSide_4 rfl 0 rfl ?_
    refine hm_iconst (v := (1 : Int32)) C d_D_isSide_5 (by decide) ?_
    refine hm_icmp_ne (tgt := 13) C d_D_isSide_6 (by decide) (fun z2 => ?_) (fun z2 => ?_)
    · have hf := hm_ifn hf z2
      refine hm_iconst (v := (0 : Int32)) C d_D_isSide_13 (by decide) ?_
      obtain ⟨v3, ev3, hf⟩ := hm_bind hf
      exact hm_zret C hr hlk d_D_isSide_14 ev3 hf
    · have hf := hm_ifp hf z2
      refine hm_sub (lv' := []) [] rfl ?_
      exact w_f_D_isSide_9 C hr hlk hf
set_option maxRecDepth 20000 in
theorem c_D_isSide {E : hm_E} {l : Launch} {F : Nat} {r : Int32} {h h' : hm_T} {x0 : Int32} (hf : f_D_isSide F x0 h = some (r, h')) : hm_M E l y_D_isSide prog_1_method_22_code 1 (some .boolean) 0 0 [.int x0] h (some (.int r)) h' :=
  hm_enter (by decide +kernel) (Nat.le_of_ble_eq_true rfl) (m_f_D_isSide hf) (fun p e R s m below meth c C hr hlk hin => w_f_D_isSide C hr hlk hf)
def f_D_ofSide (F : Nat) (x0 : Nat) (x1 : Int32) (h : hm_T) : Option (Nat × hm_T) :=
  (if x1 = 0 then (hm_gr 3 9 2 h x0).bind (fun a3 => some (a3, h)) else (hm_gr 3 9 3 h x0).bind (fun a2 => some (a2, h)))
theorem m_f_D_ofSide {F : Nat} {r : Nat} {h h' : hm_T} {x0 : Nat} {x1 : Int32} (hf : f_D_ofSide F x0 x1 h = some (r, h')) : hm_le h h' := by
  unfold f_D_ofSide at hf
  by_cases z1 : x1 = 0
  · have hf := hm_ifp hf z1
    obtain ⟨a3, ea3, hf⟩ := hm_bind hf
    exact (hm_le.ret hf)
  · have hf := hm_ifn hf z1
    obtain ⟨a2, ea2, hf⟩ := hm_bind hf
    exact (hm_le.ret hf)
set_option maxRecDepth 20000 in
set_option maxHeartbeats 1000000 in
theorem w_f_D_ofSide {p : Program} {l : Launch} {e : Env} {R : Room} {s : State} {m : MethodId} {args : Array Value} {below : List Frame} {meth : Method} {c : Code} {E : hm_E} {n0 s0 F : Nat} {r : Nat} {h h' : hm_T} {x0 : Nat} {x1 : Int32} (C : hm_C E prog_1_method_23_code 2 "DistanceLabels" 0 0 n0 s0 (hm_n h') (hm_s h') p R s m args c) (hr : meth.sig.returnType = (some (.object "DistanceLabels$Labels"))) (hlk : meth.locks = false) (hf : f_D_ofSide F x0 x1 h = some (r, h')) : hm_G E 2 n0 s0 (hm_n h') (hm_s h') p l e R s m args below meth c (MQ below (hm_Qc E (some (.ref r)) h') args s (hm_n h' - n0) (hm_s h' - s0) (fun q => E.2.2 ≤ q)) 0 [(0, .ref x0), (1, .int x1)] [] h := by
  unfold f_D_ofSide at hf
  refine hm_iload_n C d_D_ofSide_0 rfl 1 rfl ?_
  refine hm_if_ne (tgt := 11) C d_D_ofSide_1 (by decide) (fun z1 => ?_) (fun z1 => ?_)
  · have hf := hm_ifn hf z1
    refine hm_aload_n C d_D_ofSide_11 rfl 0 rfl ?_
    obtain ⟨a2, ea2, hf⟩ := hm_bind hf
    refine hm_getR C F_3 3 (by decide) rfl k_34 d_D_ofSide_12 ea2 ?_
    exact hm_aret C hr (Or.inl ⟨_, rfl⟩) hlk d_D_ofSide_15 hf
  · have hf := hm_ifp hf z1
    refine hm_aload_n C d_D_ofSide_4 rfl 0 rfl ?_
    obtain ⟨a3, ea3, hf⟩ := hm_bind hf
    refine hm_getR C F_3 2 (by decide) rfl k_33 d_D_ofSide_5 ea3 ?_
    refine hm_goto (tgt := 15) C d_D_ofSide_8 (by decide) ?_
    exact hm_aret C hr (Or.inl ⟨_, rfl⟩) hlk d_D_ofSide_15 hf
set_option maxRecDepth 20000 in
theorem c_D_ofSide {E : hm_E} {l : Launch} {F : Nat} {r : Nat} {h h' : hm_T} {x0 : Nat} {x1 : Int32} (hf : f_D_ofSide F x0 x1 h = some (r, h')) : hm_M E l y_D_ofSide prog_1_method_23_code 2 (some (.object "DistanceLabels$Labels")) 0 0 [.ref x0, .int x1] h (some (.ref r)) h' :=
  hm_enter (by decide +kernel) (Nat.le_of_ble_eq_true rfl) (m_f_D_ofSide hf) (fun p e R s m below meth c C hr hlk hin => w_f_D_ofSide C hr hlk hf)
def f_L_sizeOf_30 (F : Nat) (k5 : Nat → Nat → Int32 → Int32 → Int32 → hm_T → Option (Int32 × hm_T)) (x0 : Nat) (x1 : Nat) (x2 : Int32) (x3 : Int32) (x4 : Int32) (h : hm_T) : Option (Int32 × hm_T) :=
  k5 x0 x1 x2 x3 (x4 + (1 : Int32)) h
def g_L_sizeOf_5 (F : Nat) (k5 : Nat → Nat → Int32 → Int32 → Int32 → hm_T → Option (Int32 × hm_T)) (x0 : Nat) (x1 : Nat) (x2 : Int32) (x3 : Int32) (x4 : Int32) (h : hm_T) : Option (Int32 × hm_T) :=
  (hm_gi 2 5 0 h x1).bind (fun v1 => (if v1 ≤ x4 then some (x3, h) else (hm_gr 1 2 1 h x0).bind (fun a3 => (hm_ald h a3 x2).bind (fun a4 => (hm_ild h a4 x4).bind (fun v5 => (if v5 = (-1 : Int32) then f_L_sizeOf_30 F k5 x0 x1 x2 x3 x4 h else f_L_sizeOf_30 F k5 x0 x1 x2 (x3 + (1 : Int32)) x4 h))))))
def f_L_sizeOf_5 (F : Nat) : Nat → Nat → Nat → Int32 → Int32 → Int32 → hm_T → Option (Int32 × hm_T)
  | 0 => fun _ _ _ _ _ _ => none
  | n + 1 => g_L_sizeOf_5 F (f_L_sizeOf_5 F n)
def f_L_sizeOf (F : Nat) (x0 : Nat) (x1 : Nat) (x2 : Int32) (h : hm_T) : Option (Int32 × hm_T) :=
  f_L_sizeOf_5 F F x0 x1 x2 (0 : Int32) (0 : Int32) h
theorem m_f_L_sizeOf_30 {F : Nat} {r : Int32} {h h' : hm_T} {x0 : Nat} {x1 : Nat} {x2 : Int32} {x3 : Int32} {x4 : Int32} {k5 : Nat → Nat → Int32 → Int32 → Int32 → hm_T → Option (Int32 × hm_T)} (hk5 : ∀ (y0 : Nat) (y1 : Nat) (y2 : Int32) (y3 : Int32) (y4 : Int32) (g : hm_T), k5 y0 y1 y2 y3 y4 g = some (r, h') → hm_le g h') (hf : f_L_sizeOf_30 F k5 x0 x1 x2 x3 x4 h = some (r, h')) : hm_le h h' := by
  unfold f_L_sizeOf_30 at hf
  exact (hk5 _ _ _ _ _ _ hf)
theorem m_g_L_sizeOf_5 {F : Nat} {r : Int32} {h h' : hm_T} {x0 : Nat} {x1 : Nat} {x2 : Int32} {x3 : Int32} {x4 : Int32} {k5 : Nat → Nat → Int32 → Int32 → Int32 → hm_T → Option (Int32 × hm_T)} (hk5 : ∀ (y0 : Nat) (y1 : Nat) (y2 : Int32) (y3 : Int32) (y4 : Int32) (g : hm_T), k5 y0 y1 y2 y3 y4 g = some (r, h') → hm_le g h') (hf : g_L_sizeOf_5 F k5 x0 x1 x2 x3 x4 h = some (r, h')) : hm_le h h' := by
  unfold g_L_sizeOf_5 at hf
  obtain ⟨v1, ev1, hf⟩ := hm_bind hf
  by_cases z2 : v1 ≤ x4
  · have hf := hm_ifp hf z2
    exact (hm_le.ret hf)
  · have hf := hm_ifn hf z2
    obtain ⟨a3, ea3, hf⟩ := hm_bind hf
    obtain ⟨a4, ea4, hf⟩ := hm_bind hf
    obtain ⟨v5, ev5, hf⟩ := hm_bind hf
    by_cases z6 : v5 = (-1 : Int32)
    · have hf := hm_ifp hf z6
      exact (m_f_L_sizeOf_30 hk5 hf)
    · have hf := hm_ifn hf z6
      exact (m_f_L_sizeOf_30 hk5 hf)
theorem m_L_sizeOf_5L {F : Nat} {r : Int32} {h' : hm_T} : ∀ (N : Nat) (x0 : Nat) (x1 : Nat) (x2 : Int32) (x3 : Int32) (x4 : Int32) (h : hm_T), f_L_sizeOf_5 F N x0 x1 x2 x3 x4 h = some (r, h') → hm_le h h' := by
  intro N
  induction N with
  | zero => intro _ _ _ _ _ _ hf; cases hf
  | succ n ih => intro x0 x1 x2 x3 x4 h hf; exact m_g_L_sizeOf_5 ih hf
theorem m_f_L_sizeOf {F : Nat} {r : Int32} {h h' : hm_T} {x0 : Nat} {x1 : Nat} {x2 : Int32} (hf : f_L_sizeOf F x0 x1 x2 h = some (r, h')) : hm_le h h' := by
  unfold f_L_sizeOf at hf
  exact (m_L_sizeOf_5L _ _ _ _ _ _ _ hf)
set_option maxRecDepth 20000 in
set_option maxHeartbeats 1000000 in
theorem w_f_L_sizeOf_30 {p : Program} {l : Launch} {e : Env} {R : Room} {s : State} {m : MethodId} {args : Array Value} {below : List Frame} {meth : Method} {c : Code} {E : hm_E} {n0 s0 F : Nat} {r : Int32} {h h' : hm_T} {x0 : Nat} {x1 : Nat} {x2 : Int32} {x3 : Int32} {x4 : Int32} {k5 : Nat → Nat → Int32 → Int32 → Int32 → hm_T → Option (Int32 × hm_T)} (C : hm_C E prog_3_method_3_code 5 "DistanceLabels$Labels" 0 0 n0 s0 (hm_n h') (hm_s h') p R s m args c) (hr : meth.sig.returnType = (some .int)) (hlk : meth.locks = false) (hk5 : ∀ (y0 : Nat) (y1 : Nat) (y2 : Int32) (y3 : Int32) (y4 : Int32) (g : hm_T), k5 y0 y1 y2 y3 y4 g = some (r, h') → hm_G E 5 n0 s0 (hm_n h') (hm_s h') p l e R s m args below meth c (MQ below (hm_Qc E (some (.int r)) h') args s (hm_n h' - n0) (hm_s h' - s0) (fun q => E.2.2 ≤ q)) 5 [(0, .ref y0), (1, .ref y1), (2, .int y2), (3, .int y3), (4, .int y4)] [] g) (hf : f_L_sizeOf_30 F k5 x0 x1 x2 x3 x4 h = some (r, h')) : hm_G E 5 n0 s0 (hm_n h') (hm_s h') p l e R s m args below meth c (MQ below (hm_Qc E (some (.int r)) h') args s (hm_n h' - n0) (hm_s h' - s0) (fun q => E.2.2 ≤ q)) 30 [(0, .ref x0), (1, .ref x1), (2, .int x2), (3, .int x3), (4, .int x4)] [] h := by
  unfold f_L_sizeOf_30 at hf
  refine hm_iinc (v := (x4 + (1 : Int32))) (lv' := [(4, .int (x4 + (1 : Int32))), (0, .ref x0), (1, .ref x1), (2, .int x2), (3, .int x3)]) C d_L_sizeOf_30 4 rfl rfl (by decide) rfl ?_
  refine hm_goto (tgt := 5) C d_L_sizeOf_33 (by decide) ?_
  refine hm_sub (lv' := [(0, .ref x0), (1, .ref x1), (2, .int x2), (3, .int x3), (4, .int (x4 + (1 : Int32)))]) [1, 2, 3, 4, 0] rfl ?_
  exact hk5 _ _ _ _ _ _ hf
set_option maxRecDepth 20000 in
set_option maxHeartbeats 1000000 in
theorem w_g_L_sizeOf_5 {p : Program} {l : Launch} {e : Env} {R : Room} {s : State} {m : MethodId} {args : Array Value} {below : List Frame} {meth : Method} {c : Code} {E : hm_E} {n0 s0 F : Nat} {r : Int32} {h h' : hm_T} {x0 : Nat} {x1 : Nat} {x2 : Int32} {x3 : Int32} {x4 : Int32} {k5 : Nat → Nat → Int32 → Int32 → Int32 → hm_T → Option (Int32 × hm_T)} (C : hm_C E prog_3_method_3_code 5 "DistanceLabels$Labels" 0 0 n0 s0 (hm_n h') (hm_s h') p R s m args c) (hr : meth.sig.returnType = (some .int)) (hlk : meth.locks = false) (hk5 : ∀ (y0 : Nat) (y1 : Nat) (y2 : Int32) (y3 : Int32) (y4 : Int32) (g : hm_T), k5 y0 y1 y2 y3 y4 g = some (r, h') → hm_G E 5 n0 s0 (hm_n h') (hm_s h') p l e R s m args below meth c (MQ below (hm_Qc E (some (.int r)) h') args s (hm_n h' - n0) (hm_s h' - s0) (fun q => E.2.2 ≤ q)) 5 [(0, .ref y0), (1, .ref y1), (2, .int y2), (3, .int y3), (4, .int y4)] [] g) (hf : g_L_sizeOf_5 F k5 x0 x1 x2 x3 x4 h = some (r, h')) : hm_G E 5 n0 s0 (hm_n h') (hm_s h') p l e R s m args below meth c (MQ below (hm_Qc E (some (.int r)) h') args s (hm_n h' - n0) (hm_s h' - s0) (fun q => E.2.2 ≤ q)) 5 [(0, .ref x0), (1, .ref x1), (2, .int x2), (3, .int x3), (4, .int x4)] [] h := by
  unfold g_L_sizeOf_5 at hf
  refine hm_iload C d_L_sizeOf_5 4 rfl ?_
  refine hm_aload_n C d_L_sizeOf_7 rfl 1 rfl ?_
  obtain ⟨v1, ev1, hf⟩ := hm_bind hf
  refine hm_getIN C F_2 0 (by decide) rfl kF_7 d_L_sizeOf_8 ev1 ?_
  refine hm_icmp_ge (tgt := 36) C d_L_sizeOf_11 (by decide) (fun z2 => ?_) (fun z2 => ?_)
  · have hf := hm_ifp hf z2
    refine hm_iload_n C d_L_sizeOf_36 rfl 3 rfl ?_
    exact hm_iret C hr hlk d_L_sizeOf_37 hf
  · have hf := hm_ifn hf z2
    refine hm_aload_n C d_L_sizeOf_14 rfl 0 rfl ?_
    obtain ⟨a3, ea3, hf⟩ := hm_bind hf
    refine hm_getR C F_1 1 (by decide) rfl k_12 d_L_sizeOf_15 ea3 ?_
    refine hm_iload_n C d_L_sizeOf_18 rfl 2 rfl ?_
    obtain ⟨a4, ea4, hf⟩ := hm_bind hf
    refine hm_aaload C d_L_sizeOf_19 ea4 ?_
    refine hm_iload C d_L_sizeOf_20 4 rfl ?_
    obtain ⟨v5, ev5, hf⟩ := hm_bind hf
    refine hm_iaload C d_L_sizeOf_22 ev5 ?_
    refine hm_iconst (v := (-1 : Int32)) C d_L_sizeOf_23 (by decide) ?_
    refine hm_icmp_eq (tgt := 30) C d_L_sizeOf_24 (by decide) (fun z6 => ?_) (fun z6 => ?_)
    · have hf := hm_ifp hf z6
      exact w_f_L_sizeOf_30 C hr hlk hk5 hf
    · have hf := hm_ifn hf z6
      refine hm_iinc (v := (x3 + (1 : Int32))) (lv' := [(3, .int (x3 + (1 : Int32))), (0, .ref x0), (1, .ref x1), (2, .int x2), (4, .int x4)]) C d_L_sizeOf_27 3 rfl rfl (by decide) rfl ?_
      refine hm_sub (lv' := [(0, .ref x0), (1, .ref x1), (2, .int x2), (3, .int (x3 + (1 : Int32))), (4, .int x4)]) [1, 2, 3, 0, 4] rfl ?_
      exact w_f_L_sizeOf_30 C hr hlk hk5 hf
theorem w_L_sizeOf_5L {p : Program} {l : Launch} {e : Env} {R : Room} {s : State} {m : MethodId} {args : Array Value} {below : List Frame} {meth : Method} {c : Code} {E : hm_E} {n0 s0 F : Nat} {r : Int32} {h' : hm_T} (C : hm_C E prog_3_method_3_code 5 "DistanceLabels$Labels" 0 0 n0 s0 (hm_n h') (hm_s h') p R s m args c) (hr : meth.sig.returnType = (some .int)) (hlk : meth.locks = false) : ∀ (N : Nat) (x0 : Nat) (x1 : Nat) (x2 : Int32) (x3 : Int32) (x4 : Int32) (h : hm_T), f_L_sizeOf_5 F N x0 x1 x2 x3 x4 h = some (r, h') → hm_G E 5 n0 s0 (hm_n h') (hm_s h') p l e R s m args below meth c (MQ below (hm_Qc E (some (.int r)) h') args s (hm_n h' - n0) (hm_s h' - s0) (fun q => E.2.2 ≤ q)) 5 [(0, .ref x0), (1, .ref x1), (2, .int x2), (3, .int x3), (4, .int x4)] [] h := by
  intro N
  induction N with
  | zero => intro _ _ _ _ _ _ hf; cases hf
  | succ n ih => intro x0 x1 x2 x3 x4 h hf; exact w_g_L_sizeOf_5 C hr hlk ih hf
set_option maxRecDepth 20000 in
set_option maxHeartbeats 1000000 in
theorem w_f_L_sizeOf {p : Program} {l : Launch} {e : Env} {R : Room} {s : State} {m : MethodId} {args : Array Value} {below : List Frame} {meth : Method} {c : Code} {E : hm_E} {n0 s0 F : Nat} {r : Int32} {h h' : hm_T} {x0 : Nat} {x1 : Nat} {x2 : Int32} (C : hm_C E prog_3_method_3_code 5 "DistanceLabels$Labels" 0 0 n0 s0 (hm_n h') (hm_s h') p R s m args c) (hr : meth.sig.returnType = (some .int)) (hlk : meth.locks = false) (hf : f_L_sizeOf F x0 x1 x2 h = some (r, h')) : hm_G E 5 n0 s0 (hm_n h') (hm_s h') p l e R s m args below meth c (MQ below (hm_Qc E (some (.int r)) h') args s (hm_n h' - n0) (hm_s h' - s0) (fun q => E.2.2 ≤ q)) 0 [(0, .ref x0), (1, .ref x1), (2, .int x2)] [] h := by
  unfold f_L_sizeOf at hf
  refine hm_iconst (v := (0 : Int32)) C d_L_sizeOf_0 (by decide) ?_
  refine hm_istore_n (lv' := [(3, .int (0 : Int32)), (0, .ref x0), (1, .ref x1), (2, .int x2)]) C d_L_sizeOf_1 rfl (by decide) rfl ?_
  refine hm_iconst (v := (0 : Int32)) C d_L_sizeOf_2 (by decide) ?_
  refine hm_istore (lv' := [(4, .int (0 : Int32)), (3, .int (0 : Int32)), (0, .ref x0), (1, .ref x1), (2, .int x2)]) C d_L_sizeOf_3 (by decide) rfl ?_
  refine hm_sub (lv' := [(0, .ref x0), (1, .ref x1), (2, .int x2), (3, .int (0 : Int32)), (4, .int (0 : Int32))]) [2, 3, 4, 1, 0] rfl ?_
  exact w_L_sizeOf_5L C hr hlk _ _ _ _ _ _ _ hf
set_option maxRecDepth 20000 in
theorem c_L_sizeOf {E : hm_E} {l : Launch} {F : Nat} {r : Int32} {h h' : hm_T} {x0 : Nat} {x1 : Nat} {x2 : Int32} (hf : f_L_sizeOf F x0 x1 x2 h = some (r, h')) : hm_M E l y_L_sizeOf prog_3_method_3_code 5 (some .int) 0 0 [.ref x0, .ref x1, .int x2] h (some (.int r)) h' :=
  hm_enter (by decide +kernel) (Nat.le_of_ble_eq_true rfl) (m_f_L_sizeOf hf) (fun p e R s m below meth c C hr hlk hin => w_f_L_sizeOf C hr hlk hf)
def f_L_stationAt_49 (F : Nat) (k6 : Nat → Nat → Int32 → Int32 → Int32 → Int32 → hm_T → Option (Int32 × hm_T)) (x0 : Nat) (x1 : Nat) (x2 : Int32) (x3 : Int32) (x4 : Int32) (x5 : Int32) (h : hm_T) : Option (Int32 × hm_T) :=
  k6 x0 x1 x2 x3 x4 (x5 + (1 : Int32)) h
def g_L_stationAt_6 (F : Nat) (k6 : Nat → Nat → Int32 → Int32 → Int32 → Int32 → hm_T → Option (Int32 × hm_T)) (x0 : Nat) (x1 : Nat) (x2 : Int32) (x3 : Int32) (x4 : Int32) (x5 : Int32) (h : hm_T) : Option (Int32 × hm_T) :=
  (hm_gi 2 5 0 h x1).bind (fun v1 => (if v1 ≤ x5 then some ((-1 : Int32), h) else (hm_gr 2 5 3 h x1).bind (fun a3 => (hm_ild h a3 x5).bind (fun v4 => (hm_gr 1 2 1 h x0).bind (fun a5 => (hm_ald h a5 x2).bind (fun a6 => (hm_ild h a6 v4).bind (fun v7 => (if v7 = (-1 : Int32) then f_L_stationAt_49 F k6 x0 x1 x2 x3 x4 x5 h else (if x4 = x3 then some (v4, h) else f_L_stationAt_49 F k6 x0 x1 x2 x3 (x4 + (1 : Int32)) x5 h)))))))))
def f_L_stationAt_6 (F : Nat) : Nat → Nat → Nat → Int32 → Int32 → Int32 → Int32 → hm_T → Option (Int32 × hm_T)
  | 0 => fun _ _ _ _ _ _ _ => none
  | n + 1 => g_L_stationAt_6 F (f_L_stationAt_6 F n)
def f_L_stationAt (F : Nat) (x0 : Nat) (x1 : Nat) (x2 : Int32) (x3 : Int32) (h : hm_T) : Option (Int32 × hm_T) :=
  f_L_stationAt_6 F F x0 x1 x2 x3 (0 : Int32) (0 : Int32) h
theorem m_f_L_stationAt_49 {F : Nat} {r : Int32} {h h' : hm_T} {x0 : Nat} {x1 : Nat} {x2 : Int32} {x3 : Int32} {x4 : Int32} {x5 : Int32} {k6 : Nat → Nat → Int32 → Int32 → Int32 → Int32 → hm_T → Option (Int32 × hm_T)} (hk6 : ∀ (y0 : Nat) (y1 : Nat) (y2 : Int32) (y3 : Int32) (y4 : Int32) (y5 : Int32) (g : hm_T), k6 y0 y1 y2 y3 y4 y5 g = some (r, h') → hm_le g h') (hf : f_L_stationAt_49 F k6 x0 x1 x2 x3 x4 x5 h = some (r, h')) : hm_le h h' := by
  unfold f_L_stationAt_49 at hf
  exact (hk6 _ _ _ _ _ _ _ hf)
theorem m_g_L_stationAt_6 {F : Nat} {r : Int32} {h h' : hm_T} {x0 : Nat} {x1 : Nat} {x2 : Int32} {x3 : Int32} {x4 : Int32} {x5 : Int32} {k6 : Nat → Nat → Int32 → Int32 → Int32 → Int32 → hm_T → Option (Int32 × hm_T)} (hk6 : ∀ (y0 : Nat) (y1 : Nat) (y2 : Int32) (y3 : Int32) (y4 : Int32) (y5 : Int32) (g : hm_T), k6 y0 y1 y2 y3 y4 y5 g = some (r, h') → hm_le g h') (hf : g_L_stationAt_6 F k6 x0 x1 x2 x3 x4 x5 h = some (r, h')) : hm_le h h' := by
  unfold g_L_stationAt_6 at hf
  obtain ⟨v1, ev1, hf⟩ := hm_bind hf
  by_cases z2 : v1 ≤ x5
  · have hf := hm_ifp hf z2
    exact (hm_le.ret hf)
  · have hf := hm_ifn hf z2
    obtain ⟨a3, ea3, hf⟩ := hm_bind hf
    obtain ⟨v4, ev4, hf⟩ := hm_bind hf
    obtain ⟨a5, ea5, hf⟩ := hm_bind hf
    obtain ⟨a6, ea6, hf⟩ := hm_bind hf
    obtain ⟨v7, ev7, hf⟩ := hm_bind hf
    by_cases z8 : v7 = (-1 : Int32)
    · have hf := hm_ifp hf z8
      exact (m_f_L_stationAt_49 hk6 hf)
    · have hf := hm_ifn hf z8
      by_cases z9 : x4 = x3
      · have hf := hm_ifp hf z9
        exact (hm_le.ret hf)
      · have hf := hm_ifn hf z9
        exact (m_f_L_stationAt_49 hk6 hf)
theorem m_L_stationAt_6L {F : Nat} {r : Int32} {h' : hm_T} : ∀ (N : Nat) (x0 : Nat) (x1 : Nat) (x2 : Int32) (x3 : Int32) (x4 : Int32) (x5 : Int32) (h : hm_T), f_L_stationAt_6 F N x0 x1 x2 x3 x4 x5 h = some (r, h') → hm_le h h' := by
  intro N
  induction N with
  | zero => intro _ _ _ _ _ _ _ hf; cases hf
  | succ n ih => intro x0 x1 x2 x3 x4 x5 h hf; exact m_g_L_stationAt_6 ih hf
theorem m_f_L_stationAt {F : Nat} {r : Int32} {h h' : hm_T} {x0 : Nat} {x1 : Nat} {x2 : Int32} {x3 : Int32} (hf : f_L_stationAt F x0 x1 x2 x3 h = some (r, h')) : hm_le h h' := by
  unfold f_L_stationAt at hf
  exact (m_L_stationAt_6L _ _ _ _ _ _ _ _ hf)
set_option maxRecDepth 20000 in
set_option maxHeartbeats 1000000 in
theorem w_f_L_stationAt_49 {p : Program} {l : Launch} {e : Env} {R : Room} {s : State} {m : MethodId} {args : Array Value} {below : List Frame} {meth : Method} {c : Code} {E : hm_E} {n0 s0 F : Nat} {r : Int32} {h h' : hm_T} {x0 : Nat} {x1 : Nat} {x2 : Int32} {x3 : Int32} {x4 : Int32} {x5 : Int32} {k6 : Nat → Nat → Int32 → Int32 → Int32 → Int32 → hm_T → Option (Int32 × hm_T)} (C : hm_C E prog_3_method_4_code 7 "DistanceLabels$Labels" 0 0 n0 s0 (hm_n h') (hm_s h') p R s m args c) (hr : meth.sig.returnType = (some .int)) (hlk : meth.locks = false) (hk6 : ∀ (y0 : Nat) (y1 : Nat) (y2 : Int32) (y3 : Int32) (y4 : Int32) (y5 : Int32) (g : hm_T), k6 y0 y1 y2 y3 y4 y5 g = some (r, h') → hm_G E 7 n0 s0 (hm_n h') (hm_s h') p l e R s m args below meth c (MQ below (hm_Qc E (some (.int r)) h') args s (hm_n h' - n0) (hm_s h' - s0) (fun q => E.2.2 ≤ q)) 6 [(0, .ref y0), (1, .ref y1), (2, .int y2), (3, .int y3), (4, .int y4), (5, .int y5)] [] g) (hf : f_L_stationAt_49 F k6 x0 x1 x2 x3 x4 x5 h = some (r, h')) : hm_G E 7 n0 s0 (hm_n h') (hm_s h') p l e R s m args below meth c (MQ below (hm_Qc E (some (.int r)) h') args s (hm_n h' - n0) (hm_s h' - s0) (fun q => E.2.2 ≤ q)) 49 [(0, .ref x0), (1, .ref x1), (2, .int x2), (3, .int x3), (4, .int x4), (5, .int x5)] [] h := by
  unfold f_L_stationAt_49 at hf
  refine hm_iinc (v := (x5 + (1 : Int32))) (lv' := [(5, .int (x5 + (1 : Int32))), (0, .ref x0), (1, .ref x1), (2, .int x2), (3, .int x3), (4, .int x4)]) C d_L_stationAt_49 5 rfl rfl (by decide) rfl ?_
  refine hm_goto (tgt := 6) C d_L_stationAt_52 (by decide) ?_
  refine hm_sub (lv' := [(0, .ref x0), (1, .ref x1), (2, .int x2), (3, .int x3), (4, .int x4), (5, .int (x5 + (1 : Int32)))]) [1, 2, 3, 4, 5, 0] rfl ?_
  exact hk6 _ _ _ _ _ _ _ hf
set_option maxRecDepth 20000 in
set_option maxHeartbeats 1000000 in
theorem w_g_L_stationAt_6 {p : Program} {l : Launch} {e : Env} {R : Room} {s : State} {m : MethodId} {args : Array Value} {below : List Frame} {meth : Method} {c : Code} {E : hm_E} {n0 s0 F : Nat} {r : Int32} {h h' : hm_T} {x0 : Nat} {x1 : Nat} {x2 : Int32} {x3 : Int32} {x4 : Int32} {x5 : Int32} {k6 : Nat → Nat → Int32 → Int32 → Int32 → Int32 → hm_T → Option (Int32 × hm_T)} (C : hm_C E prog_3_method_4_code 7 "DistanceLabels$Labels" 0 0 n0 s0 (hm_n h') (hm_s h') p R s m args c) (hr : meth.sig.returnType = (some .int)) (hlk : meth.locks = false) (hk6 : ∀ (y0 : Nat) (y1 : Nat) (y2 : Int32) (y3 : Int32) (y4 : Int32) (y5 : Int32) (g : hm_T), k6 y0 y1 y2 y3 y4 y5 g = some (r, h') → hm_G E 7 n0 s0 (hm_n h') (hm_s h') p l e R s m args below meth c (MQ below (hm_Qc E (some (.int r)) h') args s (hm_n h' - n0) (hm_s h' - s0) (fun q => E.2.2 ≤ q)) 6 [(0, .ref y0), (1, .ref y1), (2, .int y2), (3, .int y3), (4, .int y4), (5, .int y5)] [] g) (hf : g_L_stationAt_6 F k6 x0 x1 x2 x3 x4 x5 h = some (r, h')) : hm_G E 7 n0 s0 (hm_n h') (hm_s h') p l e R s m args below meth c (MQ below (hm_Qc E (some (.int r)) h') args s (hm_n h' - n0) (hm_s h' - s0) (fun q => E.2.2 ≤ q)) 6 [(0, .ref x0), (1, .ref x1), (2, .int x2), (3, .int x3), (4, .int x4), (5, .int x5)] [] h := by
  unfold g_L_stationAt_6 at hf
  refine hm_iload C d_L_stationAt_6 5 rfl ?_
  refine hm_aload_n C d_L_stationAt_8 rfl 1 rfl ?_
  obtain ⟨v1, ev1, hf⟩ := hm_bind hf
  refine hm_getIN C F_2 0 (by decide) rfl kF_7 d_L_stationAt_9 ev1 ?_
  refine hm_icmp_ge (tgt := 55) C d_L_stationAt_12 (by decide) (fun z2 => ?_) (fun z2 => ?_)
  · have hf := hm_ifp hf z2
    refine hm_iconst (v := (-1 : Int32)) C d_L_stationAt_55 (by decide) ?_
    exact hm_iret C hr hlk d_L_stationAt_56 hf
  · have hf := hm_ifn hf z2
    refine hm_aload_n C d_L_stationAt_15 rfl 1 rfl ?_
    obtain ⟨a3, ea3, hf⟩ := hm_bind hf
    refine hm_getRN C F_2 3 (by decide) rfl kF_8 d_L_stationAt_16 ea3 ?_
    refine hm_iload C d_L_stationAt_19 5 rfl ?_
    obtain ⟨v4, ev4, hf⟩ := hm_bind hf
    refine hm_iaload C d_L_stationAt_21 ev4 ?_
    refine hm_istore (lv' := [(6, .int v4), (0, .ref x0), (1, .ref x1), (2, .int x2), (3, .int x3), (4, .int x4), (5, .int x5)]) C d_L_stationAt_22 (by decide) rfl ?_
    refine hm_aload_n C d_L_stationAt_24 rfl 1 rfl ?_
    obtain ⟨a5, ea5, hf⟩ := hm_bind hf
    refine hm_getR C F_1 1 (by decide) rfl k_12 d_L_stationAt_25 ea5 ?_
    refine hm_iload_n C d_L_stationAt_28 rfl 3 rfl ?_
    obtain ⟨a6, ea6, hf⟩ := hm_bind hf
    refine hm_aaload C d_L_stationAt_29 ea6 ?_
    refine hm_iload C d_L_stationAt_30 0 rfl ?_
    obtain ⟨v7, ev7, hf⟩ := hm_bind hf
    refine hm_iaload C d_L_stationAt_32 ev7 ?_
    refine hm_iconst (v := (-1 : Int32)) C d_L_stationAt_33 (by decide) ?_
    refine hm_icmp_eq (tgt := 49) C d_L_stationAt_34 (by decide) (fun z8 => ?_) (fun z8 => ?_)
    · have hf := hm_ifp hf z8
      refine hm_sub (lv' := [(0, .ref x0), (1, .ref x1), (2, .int x2), (3, .int x3), (4, .int x4), (5, .int x5)]) [1, 2, 3, 4, 5, 6] rfl ?_
      exact w_f_L_stationAt_49 C hr hlk hk6 hf
    · have hf := hm_ifn hf z8
      refine hm_iload C d_L_stationAt_37 5 rfl ?_
      refine hm_iload_n C d_L_stationAt_39 rfl 4 rfl ?_
      refine hm_icmp_ne (tgt := 46) C d_L_stationAt_40 (by decide) (fun z9 => ?_) (fun z9 => ?_)
      · have hf := hm_ifn hf z9
        refine hm_iinc (v := (x4 + (1 : Int32))) (lv' := [(4, .int (x4 + (1 : Int32))), (6, .int v4), (0, .ref x0), (1, .ref x1), (2, .int x2), (3, .int x3), (5, .int x5)]) C d_L_stationAt_46 5 rfl rfl (by decide) rfl ?_
        refine hm_sub (lv' := [(0, .ref x0), (1, .ref x1), (2, .int x2), (3, .int x3), (4, .int (x4 + (1 : Int32))), (5, .int x5)]) [2, 3, 4, 5, 0, 6] rfl ?_
        exact w_f_L_stationAt_49 C hr hlk hk6 hf
      · have hf := hm_ifp hf z9
        refine hm_iload C d_L_stationAt_43 0 rfl ?_
        exact hm_iret C hr hlk d_L_stationAt_45 hf
theorem w_L_stationAt_6L {p : Program} {l : Launch} {e : Env} {R : Room} {s : State} {m : MethodId} {args : Array Value} {below : List Frame} {meth : Method} {c : Code} {E : hm_E} {n0 s0 F : Nat} {r : Int32} {h' : hm_T} (C : hm_C E prog_3_method_4_code 7 "DistanceLabels$Labels" 0 0 n0 s0 (hm_n h') (hm_s h') p R s m args c) (hr : meth.sig.returnType = (some .int)) (hlk : meth.locks = false) : ∀ (N : Nat) (x0 : Nat) (x1 : Nat) (x2 : Int32) (x3 : Int32) (x4 : Int32) (x5 : Int32) (h : hm_T), f_L_stationAt_6 F N x0 x1 x2 x3 x4 x5 h = some (r, h') → hm_G E 7 n0 s0 (hm_n h') (hm_s h') p l e R s m args below meth c (MQ below (hm_Qc E (some (.int r)) h') args s (hm_n h' - n0) (hm_s h' - s0) (fun q => E.2.2 ≤ q)) 6 [(0, .ref x0), (1, .ref x1), (2, .int x2), (3, .int x3), (4, .int x4), (5, .int x5)] [] h := by
  intro N
  induction N with
  | zero => intro _ _ _ _ _ _ _ hf; cases hf
  | succ n ih => intro x0 x1 x2 x3 x4 x5 h hf; exact w_g_L_stationAt_6 C hr hlk ih hf
set_option maxRecDepth 20000 in
set_option maxHeartbeats 1000000 in
theorem w_f_L_stationAt {p : Program} {l : Launch} {e : Env} {R : Room} {s : State} {m : MethodId} {args : Array Value} {below : List Frame} {meth : Method} {c : Code} {E : hm_E} {n0 s0 F : Nat} {r : Int32} {h h' : hm_T} {x0 : Nat} {x1 : Nat} {x2 : Int32} {x3 : Int32} (C : hm_C E prog_3_method_4_code 7 "DistanceLabels$Labels" 0 0 n0 s0 (hm_n h') (hm_s h') p R s m args c) (hr : meth.sig.returnType = (some .int)) (hlk : meth.locks = false) (hf : f_L_stationAt F x0 x1 x2 x3 h = some (r, h')) : hm_G E 7 n0 s0 (hm_n h') (hm_s h') p l e R s m args below meth c (MQ below (hm_Qc E (some (.int r)) h') args s (hm_n h' - n0) (hm_s h' - s0) (fun q => E.2.2 ≤ q)) 0 [(0, .ref x0), (1, .ref x1), (2, .int x2), (3, .int x3)] [] h := by
  unfold f_L_stationAt at hf
  refine hm_iconst (v := (0 : Int32)) C d_L_stationAt_0 (by decide) ?_
  refine hm_istore (lv' := [(4, .int (0 : Int32)), (0, .ref x0), (1, .ref x1), (2, .int x2), (3, .int x3)]) C d_L_stationAt_1 (by decide) rfl ?_
  refine hm_iconst (v := (0 : Int32)) C d_L_stationAt_3 (by decide) ?_
  refine hm_istore (lv' := [(5, .int (0 : Int32)), (4, .int (0 : Int32)), (0, .ref x0), (1, .ref x1), (2, .int x2), (3, .int x3)]) C d_L_stationAt_4 (by decide) rfl ?_
  refine hm_sub (lv' := [(0, .ref x0), (1, .ref x1), (2, .int x2), (3, .int x3), (4, .int (0 : Int32)), (5, .int (0 : Int32))]) [2, 3, 4, 5, 1, 0] rfl ?_
  exact w_L_stationAt_6L C hr hlk _ _ _ _ _ _ _ _ hf
set_option maxRecDepth 20000 in
theorem c_L_stationAt {E : hm_E} {l : Launch} {F : Nat} {r : Int32} {h h' : hm_T} {x0 : Nat} {x1 : Nat} {x2 : Int32} {x3 : Int32} (hf : f_L_stationAt F x0 x1 x2 x3 h = some (r, h')) : hm_M E l y_L_stationAt prog_3_method_4_code 7 (some .int) 0 0 [.ref x0, .ref x1, .int x2, .int x3] h (some (.int r)) h' :=
  hm_enter (by decide +kernel) (Nat.le_of_ble_eq_true rfl) (m_f_L_stationAt hf) (fun p e R s m below meth c C hr hlk hin => w_f_L_stationAt C hr hlk hf)
def f_D_label (F : Nat) (x0 : Nat) (x1 : Int32) (x2 : Int32) (x3 : Int32) (x4 : Int32) (h : hm_T) : Option (Int32 × hm_T) :=
  (hm_gi 3 9 7 h x0).bind (fun v1 => (if v1 = 0 then some ((-4 : Int32), h) else hm_and (f_D_isSide F x1 h) (fun v3 h3 => (if v3 = 0 then some ((-2 : Int32), h3) else (hm_gr 3 9 0 h3 x0).bind (fun a5 => (hm_is 2 5 h3 a5).bind (fun u6 => hm_and (f_N_has F a5 x2 h3) (fun v7 h7 => (if v7 = 0 then some ((-2 : Int32), h7) else (hm_is 3 9 h7 x0).bind (fun u9 => hm_and (f_D_ofSide F x0 x1 h7) (fun a10 h10 => (if x3 = (-1 : Int32) then (hm_gr 3 9 0 h10 x0).bind (fun a22 => (hm_is 1 2 h10 a10).bind (fun u23 => hm_and (f_L_sizeOf F a10 a22 x2 h10) (fun v24 h24 => some (v24, h24)))) else (hm_gr 3 9 0 h10 x0).bind (fun a12 => (hm_is 1 2 h10 a10).bind (fun u13 => hm_and (f_L_stationAt F a10 a12 x2 x3 h10) (fun v14 h14 => (if v14 = (-1 : Int32) then some ((-2 : Int32), h14) else (if x4 < 0 then some ((-2 : Int32), h14) else (if x4 ≤ (1 : Int32) then (if x4 = 0 then some (v14, h14) else (hm_gr 1 2 1 h14 a10).bind (fun a19 => (hm_ald h14 a19 x2).bind (fun a20 => (hm_ild h14 a20 v14).bind (fun v21 => some (v21, h14))))) else some ((-2 : Int32), h14))))))))))))))))))
theorem m_f_D_label {F : Nat} {r : Int32} {h h' : hm_T} {x0 : Nat} {x1 : Int32} {x2 : Int32} {x3 : Int32} {x4 : Int32} (hf : f_D_label F x0 x1 x2 x3 x4 h = some (r, h')) : hm_le h h' := by
  unfold f_D_label at hf
  obtain ⟨v1, ev1, hf⟩ := hm_bind hf
  by_cases z2 : v1 = 0
  · have hf := hm_ifp hf z2
    exact (hm_le.ret hf)
  · have hf := hm_ifn hf z2
    obtain ⟨v3, h3, eh3, hf⟩ := hm_and_of hf
    have mh3 := m_f_D_isSide eh3
    by_cases z4 : v3 = 0
    · have hf := hm_ifp hf z4
      exact mh3.tr ((hm_le.ret hf))
    · have hf := hm_ifn hf z4
      obtain ⟨a5, ea5, hf⟩ := hm_bind hf
      obtain ⟨u6, eu6, hf⟩ := hm_bind hf
      obtain ⟨v7, h7, eh7, hf⟩ := hm_and_of hf
      have mh7 := m_f_N_has eh7
      by_cases z8 : v7 = 0
      · have hf := hm_ifp hf z8
        exact mh3.tr (mh7.tr ((hm_le.ret hf)))
      · have hf := hm_ifn hf z8
        obtain ⟨u9, eu9, hf⟩ := hm_bind hf
        obtain ⟨a10, h10, eh10, hf⟩ := hm_and_of hf
        have mh10 := m_f_D_ofSide eh10
        by_cases z11 : x3 = (-1 : Int32)
        · have hf := hm_ifp hf z11
          obtain ⟨a22, ea22, hf⟩ := hm_bind hf
          obtain ⟨u23, eu23, hf⟩ := hm_bind hf
          obtain ⟨v24, h24, eh24, hf⟩ := hm_and_of hf
          have mh24 := m_f_L_sizeOf eh24
          exact mh3.tr (mh7.tr (mh10.tr (mh24.tr ((hm_le.ret hf)))))
        · have hf := hm_ifn hf z11
          obtain ⟨a12, ea12, hf⟩ := hm_bind hf
          obtain ⟨u13, eu13, hf⟩ := hm_bind hf
          obtain ⟨v14, h14, eh14, hf⟩ := hm_and_of hf
          have mh14 := m_f_L_stationAt eh14
          by_cases z15 : v14 = (-1 : Int32)
          · have hf := hm_ifp hf z15
            exact mh3.tr (mh7.tr (mh10.tr (mh14.tr ((hm_le.ret hf)))))
          · have hf := hm_ifn hf z15
            by_cases z16 : x4 < 0
            · have hf := hm_ifp hf z16
              exact mh3.tr (mh7.tr (mh10.tr (mh14.tr ((hm_le.ret hf)))))
            · have hf := hm_ifn hf z16
              by_cases z17 : x4 ≤ (1 : Int32)
              · have hf := hm_ifp hf z17
                by_cases z18 : x4 = 0
                · have hf := hm_ifp hf z18
                  exact mh3.tr (mh7.tr (mh10.tr (mh14.tr ((hm_le.ret hf)))))
                · have hf := hm_ifn hf z18
                  obtain ⟨a19, ea19, hf⟩ := hm_bind hf
                  obtain ⟨a20, ea20, hf⟩ := hm_bind hf
                  obtain ⟨v21, ev21, hf⟩ := hm_bind hf
                  exact mh3.tr (mh7.tr (mh10.tr (mh14.tr ((hm_le.ret hf)))))
              · have hf := hm_ifn hf z17
                exact mh3.tr (mh7.tr (mh10.tr (mh14.tr ((hm_le.ret hf)))))
set_option maxRecDepth 20000 in
set_option maxHeartbeats 1000000 in
theorem w_f_D_label {p : Program} {l : Launch} {e : Env} {R : Room} {s : State} {m : MethodId} {args : Array Value} {below : List Frame} {meth : Method} {c : Code} {E : hm_E} {n0 s0 F : Nat} {r : Int32} {h h' : hm_T} {x0 : Nat} {x1 : Int32} {x2 : Int32} {x3 : Int32} {x4 : Int32} (C : hm_C E prog_1_method_9_code 7 "DistanceLabels" 1 26 n0 s0 (hm_n h') (hm_s h') p R s m args c) (hr : meth.sig.returnType = (some .int)) (hlk : meth.locks = false) (hf : f_D_label F x0 x1 x2 x3 x4 h = some (r, h')) : hm_G E 7 n0 s0 (hm_n h') (hm_s h') p l e R s m args below meth c (MQ below (hm_Qc E (some (.int r)) h') args s (hm_n h' - n0) (hm_s h' - s0) (fun q => E.2.2 ≤ q)) 0 [(0, .ref x0), (1, .int x1), (2, .int x2), (3, .int x3), (4, .int x4)] [] h := by
  unfold f_D_label at hf
  refine hm_aload_n C d_D_label_0 rfl 0 rfl ?_
  obtain ⟨v1, ev1, hf⟩ := hm_bind hf
  refine hm_getI C F_3 7 (by decide) rfl k_42 d_D_label_1 ev1 ?_
  refine hm_if_ne (tgt := 10) C d_D_label_4 (by decide) (fun z2 => ?_) (fun z2 => ?_)
  · have hf := hm_ifn hf z2
    refine hm_iload_n C d_D_label_10 rfl 1 rfl ?_
    obtain ⟨v3, h3, eh3, hf⟩ := hm_and_of hf
    refine hm_callS (vs := [.int x1]) (st := []) (sb := [.int v3]) C (c_D_isSide eh3) Y_D_isSide k_90 k_89 (by decide) (by decide) rfl (Nat.le_of_ble_eq_true rfl) d_D_label_11 rfl rfl ?_
    refine hm_if_eq (tgt := 28) C d_D_label_14 (by decide) (fun z4 => ?_) (fun z4 => ?_)
    · have hf := hm_ifp hf z4
      refine hm_bipush (v := (-2 : Int32)) C d_D_label_28 (by decide) ?_
      exact hm_iret C hr hlk d_D_label_30 hf
    · have hf := hm_ifn hf z4
      refine hm_aload_n C d_D_label_17 rfl 0 rfl ?_
      obtain ⟨a5, ea5, hf⟩ := hm_bind hf
      refine hm_getR C F_3 0 (by decide) rfl k_26 d_D_label_18 ea5 ?_
      refine hm_iload_n C d_D_label_21 rfl 2 rfl ?_
      obtain ⟨u6, eu6, hf⟩ := hm_bind hf
      obtain ⟨v7, h7, eh7, hf⟩ := hm_and_of hf
      refine hm_callVN (vs := [.int x2]) (st := []) (sb := [.int v7]) C (c_N_has eh7) Y_N_has F_2 eu6 k_50 k_51 kM_10 (by decide) (by decide) rfl (Nat.le_of_ble_eq_true rfl) d_D_label_22 rfl rfl ?_
      refine hm_if_ne (tgt := 31) C d_D_label_25 (by decide) (fun z8 => ?_) (fun z8 => ?_)
      · have hf := hm_ifn hf z8
        refine hm_aload_n C d_D_label_31 rfl 0 rfl ?_
        refine hm_iload_n C d_D_label_32 rfl 1 rfl ?_
        obtain ⟨u9, eu9, hf⟩ := hm_bind hf
        obtain ⟨a10, h10, eh10, hf⟩ := hm_and_of hf
        refine hm_callV (vs := [.int x1]) (st := []) (sb := [.ref a10]) C (c_D_ofSide eh10) Y_D_ofSide F_3 eu9 k_92 k_93 k_91 (by decide) (by decide) rfl (Nat.le_of_ble_eq_true rfl) d_D_label_33 rfl rfl ?_
        refine hm_astore (lv' := [(5, .ref a10), (0, .ref x0), (1, .int x1), (2, .int x2), (3, .int x3), (4, .int x4)]) C d_D_label_36 (by decide) rfl ?_
        refine hm_iload_n C d_D_label_38 rfl 4 rfl ?_
        refine hm_iconst (v := (-1 : Int32)) C d_D_label_39 (by decide) ?_
        refine hm_icmp_ne (tgt := 54) C d_D_label_40 (by decide) (fun z11 => ?_) (fun z11 => ?_)
        · have hf := hm_ifn hf z11
          refine hm_aload C d_D_label_54 0 rfl ?_
          refine hm_aload_n C d_D_label_56 rfl 1 rfl ?_
          obtain ⟨a12, ea12, hf⟩ := hm_bind hf
          refine hm_getR C F_3 0 (by decide) rfl k_26 d_D_label_57 ea12 ?_
          refine hm_iload_n C d_D_label_60 rfl 3 rfl ?_
          refine hm_iload_n C d_D_label_61 rfl 4 rfl ?_
          obtain ⟨u13, eu13, hf⟩ := hm_bind hf
          obtain ⟨v14, h14, eh14, hf⟩ := hm_and_of hf
          refine hm_callVN (vs := [.ref a12, .int x2, .int x3]) (st := []) (sb := [.int v14]) C (c_L_stationAt eh14) Y_L_stationAt F_1 eu13 k_94 k_95 kM_18 (by decide) (by decide) rfl (Nat.le_of_ble_eq_true rfl) d_D_label_62 rfl rfl ?_
          refine hm_istore (lv' := [(6, .int v14), (5, .ref a10), (0, .ref x0), (1, .int x1), (2, .int x2), (3, .int x3), (4, .int x4)]) C d_D_label_65 (by decide) rfl ?_
          refine hm_iload C d_D_label_67 0 rfl ?_
          refine hm_iconst (v := (-1 : Int32)) C d_D_label_69 (by decide) ?_
          refine hm_icmp_eq (tgt := 84) C d_D_label_70 (by decide) (fun z15 => ?_) (fun z15 => ?_)
          · have hf := hm_ifp hf z15
            refine hm_bipush (v := (-2 : Int32)) C d_D_label_84 (by decide) ?_
            exact hm_iret C hr hlk d_D_label_86 hf
          · have hf := hm_ifn hf z15
            refine hm_iload C d_D_label_73 6 rfl ?_
            refine hm_if_lt (tgt := 84) C d_D_label_75 (by decide) (fun z16 => ?_) (fun z16 => ?_)
            · have hf := hm_ifp hf z16
              refine hm_bipush (v := (-2 : Int32)) C d_D_label_84 (by decide) ?_
              exact hm_iret C hr hlk d_D_label_86 hf
            · have hf := hm_ifn hf z16
              refine hm_iload C d_D_label_78 6 rfl ?_
              refine hm_iconst (v := (1 : Int32)) C d_D_label_80 (by decide) ?_
              refine hm_icmp_le (tgt := 87) C d_D_label_81 (by decide) (fun z17 => ?_) (fun z17 => ?_)
              · have hf := hm_ifp hf z17
                refine hm_iload C d_D_label_87 6 rfl ?_
                refine hm_if_ne (tgt := 97) C d_D_label_89 (by decide) (fun z18 => ?_) (fun z18 => ?_)
                · have hf := hm_ifn hf z18
                  refine hm_aload C d_D_label_97 1 rfl ?_
                  obtain ⟨a19, ea19, hf⟩ := hm_bind hf
                  refine hm_getRN C F_1 1 (by decide) rfl kF_9 d_D_label_99 ea19 ?_
                  refine hm_iload_n C d_D_label_102 rfl 4 rfl ?_
                  obtain ⟨a20, ea20, hf⟩ := hm_bind hf
                  refine hm_aaload C d_D_label_103 ea20 ?_
                  refine hm_iload C d_D_label_104 0 rfl ?_
                  obtain ⟨v21, ev21, hf⟩ := hm_bind hf
                  refine hm_iaload C d_D_label_106 ev21 ?_
                  exact hm_iret C hr hlk d_D_label_107 hf
                · have hf := hm_ifp hf z18
                  refine hm_iload C d_D_label_92 0 rfl ?_
                  refine hm_goto (tgt := 107) C d_D_label_94 (by decide) ?_
                  exact hm_iret C hr hlk d_D_label_107 hf
              · have hf := hm_ifn hf z17
                refine hm_bipush (v := (-2 : Int32)) C d_D_label_84 (by decide) ?_
                exact hm_iret C hr hlk d_D_label_86 hf
        · have hf := hm_ifp hf z11
          refine hm_aload C d_D_label_43 0 rfl ?_
          refine hm_aload_n C d_D_label_45 rfl 1 rfl ?_
          obtain ⟨a22, ea22, hf⟩ := hm_bind hf
          refine hm_getR C F_3 0 (by decide) rfl k_26 d_D_label_46 ea22 ?_
          refine hm_iload_n C d_D_label_49 rfl 3 rfl ?_
          obtain ⟨u23, eu23, hf⟩ := hm_bind hf
          obtain ⟨v24, h24, eh24, hf⟩ := hm_and_of hf
          refine hm_callVN (vs := [.ref a22, .int x2]) (st := []) (sb := [.int v24]) C (c_L_sizeOf eh24) Y_L_sizeOf F_1 eu23 k_96 k_97 kM_19 (by decide) (by decide) rfl (Nat.le_of_ble_eq_true rfl) d_D_label_50 rfl rfl ?_
          exact hm_iret C hr hlk d_D_label_53 hf
      · have hf := hm_ifp hf z8
        refine hm_bipush (v := (-2 : Int32)) C d_D_label_28 (by decide) ?_
        exact hm_iret C hr hlk d_D_label_30 hf
  · have hf := hm_ifp hf z2
    refine hm_bipush (v := (-4 : Int32)) C d_D_label_7 (by decide) ?_
    exact hm_iret C hr hlk d_D_label_9 hf
set_option maxRecDepth 20000 in
theorem c_D_label {E : hm_E} {l : Launch} {F : Nat} {r : Int32} {h h' : hm_T} {x0 : Nat} {x1 : Int32} {x2 : Int32} {x3 : Int32} {x4 : Int32} (hf : f_D_label F x0 x1 x2 x3 x4 h = some (r, h')) : hm_M E l y_D_label prog_1_method_9_code 7 (some .int) 1 26 [.ref x0, .int x1, .int x2, .int x3, .int x4] h (some (.int r)) h' :=
  hm_enter (by decide +kernel) (Nat.le_of_ble_eq_true rfl) (m_f_D_label hf) (fun p e R s m below meth c C hr hlk hin => w_f_D_label C hr hlk hf)
def f_D_refusalOf (F : Nat) (x0 : Nat) (x1 : Int32) (x2 : Int32) (h : hm_T) : Option (Int32 × hm_T) :=
  (hm_gi 3 9 7 h x0).bind (fun v1 => (if v1 = 0 then some ((-4 : Int32), h) else (hm_gr 3 9 0 h x0).bind (fun a3 => (hm_is 2 5 h a3).bind (fun u4 => hm_and (f_N_has F a3 x1 h) (fun v5 h5 => (if v5 = 0 then some ((-2 : Int32), h5) else (hm_gr 3 9 0 h5 x0).bind (fun a7 => (hm_is 2 5 h5 a7).bind (fun u8 => hm_and (f_N_has F a7 x2 h5) (fun v9 h9 => (if v9 = 0 then some ((-2 : Int32), h9) else some ((0 : Int32), h9)))))))))))
theorem m_f_D_refusalOf {F : Nat} {r : Int32} {h h' : hm_T} {x0 : Nat} {x1 : Int32} {x2 : Int32} (hf : f_D_refusalOf F x0 x1 x2 h = some (r, h')) : hm_le h h' := by
  unfold f_D_refusalOf at hf
  obtain ⟨v1, ev1, hf⟩ := hm_bind hf
  by_cases z2 : v1 = 0
  · have hf := hm_ifp hf z2
    exact (hm_le.ret hf)
  · have hf := hm_ifn hf z2
    obtain ⟨a3, ea3, hf⟩ := hm_bind hf
    obtain ⟨u4, eu4, hf⟩ := hm_bind hf
    obtain ⟨v5, h5, eh5, hf⟩ := hm_and_of hf
    have mh5 := m_f_N_has eh5
    by_cases z6 : v5 = 0
    · have hf := hm_ifp hf z6
      exact mh5.tr ((hm_le.ret hf))
    · have hf := hm_ifn hf z6
      obtain ⟨a7, ea7, hf⟩ := hm_bind hf
      obtain ⟨u8, eu8, hf⟩ := hm_bind hf
      obtain ⟨v9, h9, eh9, hf⟩ := hm_and_of hf
      have mh9 := m_f_N_has eh9
      by_cases z10 : v9 = 0
      · have hf := hm_ifp hf z10
        exact mh5.tr (mh9.tr ((hm_le.ret hf)))
      · have hf := hm_ifn hf z10
        exact mh5.tr (mh9.tr ((hm_le.ret hf)))
set_option maxRecDepth 20000 in
set_option maxHeartbeats 1000000 in
theorem w_f_D_refusalOf {p : Program} {l : Launch} {e : Env} {R : Room} {s : State} {m : MethodId} {args : Array Value} {below : List Frame} {meth : Method} {c : Code} {E : hm_E} {n0 s0 F : Nat} {r : Int32} {h h' : hm_T} {x0 : Nat} {x1 : Int32} {x2 : Int32} (C : hm_C E prog_1_method_21_code 3 "DistanceLabels" 1 21 n0 s0 (hm_n h') (hm_s h') p R s m args c) (hr : meth.sig.returnType = (some .int)) (hlk : meth.locks = false) (hf : f_D_refusalOf F x0 x1 x2 h = some (r, h')) : hm_G E 3 n0 s0 (hm_n h') (hm_s h') p l e R s m args below meth c (MQ below (hm_Qc E (some (.int r)) h') args s (hm_n h' - n0) (hm_s h' - s0) (fun q => E.2.2 ≤ q)) 0 [(0, .ref x0), (1, .int x1), (2, .int x2)] [] h := by
  unfold f_D_refusalOf at hf
  refine hm_aload_n C d_D_refusalOf_0 rfl 0 rfl ?_
  obtain ⟨v1, ev1, hf⟩ := hm_bind hf
  refine hm_getI C F_3 7 (by decide) rfl k_42 d_D_refusalOf_1 ev1 ?_
  refine hm_if_ne (tgt := 10) C d_D_refusalOf_4 (by decide) (fun z2 => ?_) (fun z2 => ?_)
  · have hf := hm_ifn hf z2
    refine hm_aload_n C d_D_refusalOf_10 rfl 0 rfl ?_
    obtain ⟨a3, ea3, hf⟩ := hm_bind hf
    refine hm_getR C F_3 0 (by decide) rfl k_26 d_D_refusalOf_11 ea3 ?_
    refine hm_iload_n C d_D_refusalOf_14 rfl 1 rfl ?_
    obtain ⟨u4, eu4, hf⟩ := hm_bind hf
    obtain ⟨v5, h5, eh5, hf⟩ := hm_and_of hf
    refine hm_callVN (vs := [.int x1]) (st := []) (sb := [.int v5]) C (c_N_has eh5) Y_N_has F_2 eu4 k_50 k_51 kM_10 (by decide) (by decide) rfl (Nat.le_of_ble_eq_true rfl) d_D_refusalOf_15 rfl rfl ?_
    refine hm_if_eq (tgt := 36) C d_D_refusalOf_18 (by decide) (fun z6 => ?_) (fun z6 => ?_)
    · have hf := hm_ifp hf z6
      refine hm_bipush (v := (-2 : Int32)) C d_D_refusalOf_36 (by decide) ?_
      exact hm_iret C hr hlk d_D_refusalOf_38 hf
    · have hf := hm_ifn hf z6
      refine hm_aload_n C d_D_refusalOf_21 rfl 0 rfl ?_
      obtain ⟨a7, ea7, hf⟩ := hm_bind hf
      refine hm_getR C F_3 0 (by decide) rfl k_26 d_D_refusalOf_22 ea7 ?_
      refine hm_iload_n C d_D_refusalOf_25 rfl 2 rfl ?_
      obtain ⟨u8, eu8, hf⟩ := hm_bind hf
      obtain ⟨v9, h9, eh9, hf⟩ := hm_and_of hf
      refine hm_callVN (vs := [.int x2]) (st := []) (sb := [.int v9]) C (c_N_has eh9) Y_N_has F_2 eu8 k_50 k_51 kM_10 (by decide) (by decide) rfl (Nat.le_of_ble_eq_true rfl) d_D_refusalOf_26 rfl rfl ?_
      refine hm_if_eq (tgt := 36) C d_D_refusalOf_29 (by decide) (fun z10 => ?_) (fun z10 => ?_)
      · have hf := hm_ifp hf z10
        refine hm_bipush (v := (-2 : Int32)) C d_D_refusalOf_36 (by decide) ?_
        exact hm_iret C hr hlk d_D_refusalOf_38 hf
      · have hf := hm_ifn hf z10
        refine hm_iconst (v := (0 : Int32)) C d_D_refusalOf_32 (by decide) ?_
        refine hm_goto (tgt := 38) C d_D_refusalOf_33 (by decide) ?_
        exact hm_iret C hr hlk d_D_refusalOf_38 hf
  · have hf := hm_ifp hf z2
    refine hm_bipush (v := (-4 : Int32)) C d_D_refusalOf_7 (by decide) ?_
    exact hm_iret C hr hlk d_D_refusalOf_9 hf
set_option maxRecDepth 20000 in
theorem c_D_refusalOf {E : hm_E} {l : Launch} {F : Nat} {r : Int32} {h h' : hm_T} {x0 : Nat} {x1 : Int32} {x2 : Int32} (hf : f_D_refusalOf F x0 x1 x2 h = some (r, h')) : hm_M E l y_D_refusalOf prog_1_method_21_code 3 (some .int) 1 21 [.ref x0, .int x1, .int x2] h (some (.int r)) h' :=
  hm_enter (by decide +kernel) (Nat.le_of_ble_eq_true rfl) (m_f_D_refusalOf hf) (fun p e R s m below meth c C hr hlk hin => w_f_D_refusalOf C hr hlk hf)
def f_D_meetingOf_77 (F : Nat) (k8 : Nat → Int32 → Int32 → Int32 → Int32 → Int32 → hm_T → Option (Int32 × hm_T)) (x0 : Nat) (x1 : Int32) (x2 : Int32) (x3 : Int32) (x4 : Int32) (x5 : Int32) (h : hm_T) : Option (Int32 × hm_T) :=
  k8 x0 x1 x2 x3 x4 (x5 + (1 : Int32)) h
def g_D_meetingOf_8 (F : Nat) (k8 : Nat → Int32 → Int32 → Int32 → Int32 → Int32 → hm_T → Option (Int32 × hm_T)) (x0 : Nat) (x1 : Int32) (x2 : Int32) (x3 : Int32) (x4 : Int32) (x5 : Int32) (h : hm_T) : Option (Int32 × hm_T) :=
  (hm_gr 3 9 0 h x0).bind (fun a1 => (hm_gi 2 5 0 h a1).bind (fun v2 => (if v2 ≤ x5 then some (x4, h) else (hm_gr 3 9 0 h x0).bind (fun a4 => (hm_gr 2 5 3 h a4).bind (fun a5 => (hm_ild h a5 x5).bind (fun v6 => (hm_gr 3 9 2 h x0).bind (fun a7 => (hm_gr 1 2 1 h a7).bind (fun a8 => (hm_ald h a8 x1).bind (fun a9 => (hm_ild h a9 v6).bind (fun v10 => (hm_gr 3 9 3 h x0).bind (fun a11 => (hm_gr 1 2 1 h a11).bind (fun a12 => (hm_ald h a12 x2).bind (fun a13 => (hm_ild h a13 v6).bind (fun v14 => hm_and (f_D_sum F v10 v14 h) (fun v15 h15 => hm_and (f_D_isLess F v15 x3 h15) (fun v16 h16 => (if v16 = 0 then f_D_meetingOf_77 F k8 x0 x1 x2 x3 x4 x5 h16 else f_D_meetingOf_77 F k8 x0 x1 x2 v15 v6 x5 h16)))))))))))))))))
def f_D_meetingOf_8 (F : Nat) : Nat → Nat → Int32 → Int32 → Int32 → Int32 → Int32 → hm_T → Option (Int32 × hm_T)
  | 0 => fun _ _ _ _ _ _ _ => none
  | n + 1 => g_D_meetingOf_8 F (f_D_meetingOf_8 F n)
def f_D_meetingOf (F : Nat) (x0 : Nat) (x1 : Int32) (x2 : Int32) (h : hm_T) : Option (Int32 × hm_T) :=
  f_D_meetingOf_8 F F x0 x1 x2 (-1 : Int32) (-1 : Int32) (0 : Int32) h
theorem m_f_D_meetingOf_77 {F : Nat} {r : Int32} {h h' : hm_T} {x0 : Nat} {x1 : Int32} {x2 : Int32} {x3 : Int32} {x4 : Int32} {x5 : Int32} {k8 : Nat → Int32 → Int32 → Int32 → Int32 → Int32 → hm_T → Option (Int32 × hm_T)} (hk8 : ∀ (y0 : Nat) (y1 : Int32) (y2 : Int32) (y3 : Int32) (y4 : Int32) (y5 : Int32) (g : hm_T), k8 y0 y1 y2 y3 y4 y5 g = some (r, h') → hm_le g h') (hf : f_D_meetingOf_77 F k8 x0 x1 x2 x3 x4 x5 h = some (r, h')) : hm_le h h' := by
  unfold f_D_meetingOf_77 at hf
  exact (hk8 _ _ _ _ _ _ _ hf)
theorem m_g_D_meetingOf_8 {F : Nat} {r : Int32} {h h' : hm_T} {x0 : Nat} {x1 : Int32} {x2 : Int32} {x3 : Int32} {x4 : Int32} {x5 : Int32} {k8 : Nat → Int32 → Int32 → Int32 → Int32 → Int32 → hm_T → Option (Int32 × hm_T)} (hk8 : ∀ (y0 : Nat) (y1 : Int32) (y2 : Int32) (y3 : Int32) (y4 : Int32) (y5 : Int32) (g : hm_T), k8 y0 y1 y2 y3 y4 y5 g = some (r, h') → hm_le g h') (hf : g_D_meetingOf_8 F k8 x0 x1 x2 x3 x4 x5 h = some (r, h')) : hm_le h h' := by
  unfold g_D_meetingOf_8 at hf
  obtain ⟨a1, ea1, hf⟩ := hm_bind hf
  obtain ⟨v2, ev2, hf⟩ := hm_bind hf
  by_cases z3 : v2 ≤ x5
  · have hf := hm_ifp hf z3
    exact (hm_le.ret hf)
  · have hf := hm_ifn hf z3
    obtain ⟨a4, ea4, hf⟩ := hm_bind hf
    obtain ⟨a5, ea5, hf⟩ := hm_bind hf
    obtain ⟨v6, ev6, hf⟩ := hm_bind hf
    obtain ⟨a7, ea7, hf⟩ := hm_bind hf
    obtain ⟨a8, ea8, hf⟩ := hm_bind hf
    obtain ⟨a9, ea9, hf⟩ := hm_bind hf
    obtain ⟨v10, ev10, hf⟩ := hm_bind hf
    obtain ⟨a11, ea11, hf⟩ := hm_bind hf
    obtain ⟨a12, ea12, hf⟩ := hm_bind hf
    obtain ⟨a13, ea13, hf⟩ := hm_bind hf
    obtain ⟨v14, ev14, hf⟩ := hm_bind hf
    obtain ⟨v15, h15, eh15, hf⟩ := hm_and_of hf
    have mh15 := m_f_D_sum eh15
    obtain ⟨v16, h16, eh16, hf⟩ := hm_and_of hf
    have mh16 := m_f_D_isLess eh16
    by_cases z17 : v16 = 0
    · have hf := hm_ifp hf z17
      exact mh15.tr (mh16.tr ((m_f_D_meetingOf_77 hk8 hf)))
    · have hf := hm_ifn hf z17
      exact mh15.tr (mh16.tr ((m_f_D_meetingOf_77 hk8 hf)))
theorem m_D_meetingOf_8L {F : Nat} {r : Int32} {h' : hm_T} : ∀ (N : Nat) (x0 : Nat) (x1 : Int32) (x2 : Int32) (x3 : Int32) (x4 : Int32) (x5 : Int32) (h : hm_T), f_D_meetingOf_8 F N x0 x1 x2 x3 x4 x5 h = some (r, h') → hm_le h h' := by
  intro N
  induction N with
  | zero => intro _ _ _ _ _ _ _ hf; cases hf
  | succ n ih => intro x0 x1 x2 x3 x4 x5 h hf; exact m_g_D_meetingOf_8 ih hf
theorem m_f_D_meetingOf {F : Nat} {r : Int32} {h h' : hm_T} {x0 : Nat} {x1 : Int32} {x2 : Int32} (hf : f_D_meetingOf F x0 x1 x2 h = some (r, h')) : hm_le h h' := by
  unfold f_D_meetingOf at hf
  exact (m_D_meetingOf_8L _ _ _ _ _ _ _ _ hf)
set_option maxRecDepth 20000 in
set_option maxHeartbeats 1000000 in
theorem w_f_D_meetingOf_77 {p : Program} {l : Launch} {e : Env} {R : Room} {s : State} {m : MethodId} {args : Array Value} {below : List Frame} {meth : Method} {c : Code} {E : hm_E} {n0 s0 F : Nat} {r : Int32} {h h' : hm_T} {x0 : Nat} {x1 : Int32} {x2 : Int32} {x3 : Int32} {x4 : Int32} {x5 : Int32} {k8 : Nat → Int32 → Int32 → Int32 → Int32 → Int32 → hm_T → Option (Int32 × hm_T)} (C : hm_C E prog_1_method_27_code 8 "DistanceLabels" 1 21 n0 s0 (hm_n h') (hm_s h') p R s m args c) (hr : meth.sig.returnType = (some .int)) (hlk : meth.locks = false) (hk8 : ∀ (y0 : Nat) (y1 : Int32) (y2 : Int32) (y3 : Int32) (y4 : Int32) (y5 : Int32) (g : hm_T), k8 y0 y1 y2 y3 y4 y5 g = some (r, h') → hm_G E 8 n0 s0 (hm_n h') (hm_s h') p l e R s m args below meth c (MQ below (hm_Qc E (some (.int r)) h') args s (hm_n h' - n0) (hm_s h' - s0) (fun q => E.2.2 ≤ q)) 8 [(0, .ref y0), (1, .int y1), (2, .int y2), (3, .int y3), (4, .int y4), (5, .int y5)] [] g) (hf : f_D_meetingOf_77 F k8 x0 x1 x2 x3 x4 x5 h = some (r, h')) : hm_G E 8 n0 s0 (hm_n h') (hm_s h') p l e R s m args below meth c (MQ below (hm_Qc E (some (.int r)) h') args s (hm_n h' - n0) (hm_s h' - s0) (fun q => E.2.2 ≤ q)) 77 [(0, .ref x0), (1, .int x1), (2, .int x2), (3, .int x3), (4, .int x4), (5, .int x5)] [] h := by
  unfold f_D_meetingOf_77 at hf
  refine hm_iinc (v := (x5 + (1 : Int32))) (lv' := [(5, .int (x5 + (1 : Int32))), (0, .ref x0), (1, .int x1), (2, .int x2), (3, .int x3), (4, .int x4)]) C d_D_meetingOf_77 5 rfl rfl (by decide) rfl ?_
  refine hm_goto (tgt := 8) C d_D_meetingOf_80 (by decide) ?_
  refine hm_sub (lv' := [(0, .ref x0), (1, .int x1), (2, .int x2), (3, .int x3), (4, .int x4), (5, .int (x5 + (1 : Int32)))]) [1, 2, 3, 4, 5, 0] rfl ?_
  exact hk8 _ _ _ _ _ _ _ hf
set_option maxRecDepth 20000 in
set_option maxHeartbeats 1000000 in
theorem w_g_D_meetingOf_8 {p : Program} {l : Launch} {e : Env} {R : Room} {s : State} {m : MethodId} {args : Array Value} {below : List Frame} {meth : Method} {c : Code} {E : hm_E} {n0 s0 F : Nat} {r : Int32} {h h' : hm_T} {x0 : Nat} {x1 : Int32} {x2 : Int32} {x3 : Int32} {x4 : Int32} {x5 : Int32} {k8 : Nat → Int32 → Int32 → Int32 → Int32 → Int32 → hm_T → Option (Int32 × hm_T)} (C : hm_C E prog_1_method_27_code 8 "DistanceLabels" 1 21 n0 s0 (hm_n h') (hm_s h') p R s m args c) (hr : meth.sig.returnType = (some .int)) (hlk : meth.locks = false) (hk8 : ∀ (y0 : Nat) (y1 : Int32) (y2 : Int32) (y3 : Int32) (y4 : Int32) (y5 : Int32) (g : hm_T), k8 y0 y1 y2 y3 y4 y5 g = some (r, h') → hm_G E 8 n0 s0 (hm_n h') (hm_s h') p l e R s m args below meth c (MQ below (hm_Qc E (some (.int r)) h') args s (hm_n h' - n0) (hm_s h' - s0) (fun q => E.2.2 ≤ q)) 8 [(0, .ref y0), (1, .int y1), (2, .int y2), (3, .int y3), (4, .int y4), (5, .int y5)] [] g) (hf : g_D_meetingOf_8 F k8 x0 x1 x2 x3 x4 x5 h = some (r, h')) : hm_G E 8 n0 s0 (hm_n h') (hm_s h') p l e R s m args below meth c (MQ below (hm_Qc E (some (.int r)) h') args s (hm_n h' - n0) (hm_s h' - s0) (fun q => E.2.2 ≤ q)) 8 [(0, .ref x0), (1, .int x1), (2, .int x2), (3, .int x3), (4, .int x4), (5, .int x5)] [] h := by
  unfold g_D_meetingOf_8 at hf
  refine hm_iload C d_D_meetingOf_8 5 rfl ?_
  refine hm_aload_n C d_D_meetingOf_10 rfl 0 rfl ?_
  obtain ⟨a1, ea1, hf⟩ := hm_bind hf
  refine hm_getR C F_3 0 (by decide) rfl k_26 d_D_meetingOf_11 ea1 ?_
  obtain ⟨v2, ev2, hf⟩ := hm_bind hf
  refine hm_getIN C F_2 0 (by decide) rfl kF_0 d_D_meetingOf_14 ev2 ?_
  refine hm_icmp_ge (tgt := 83) C d_D_meetingOf_17 (by decide) (fun z3 => ?_) (fun z3 => ?_)
  · have hf := hm_ifp hf z3
    refine hm_iload C d_D_meetingOf_83 4 rfl ?_
    exact hm_iret C hr hlk d_D_meetingOf_85 hf
  · have hf := hm_ifn hf z3
    refine hm_aload_n C d_D_meetingOf_20 rfl 0 rfl ?_
    obtain ⟨a4, ea4, hf⟩ := hm_bind hf
    refine hm_getR C F_3 0 (by decide) rfl k_26 d_D_meetingOf_21 ea4 ?_
    obtain ⟨a5, ea5, hf⟩ := hm_bind hf
    refine hm_getRN C F_2 3 (by decide) rfl kF_1 d_D_meetingOf_24 ea5 ?_
    refine hm_iload C d_D_meetingOf_27 5 rfl ?_
    obtain ⟨v6, ev6, hf⟩ := hm_bind hf
    refine hm_iaload C d_D_meetingOf_29 ev6 ?_
    refine hm_istore (lv' := [(6, .int v6), (0, .ref x0), (1, .int x1), (2, .int x2), (3, .int x3), (4, .int x4), (5, .int x5)]) C d_D_meetingOf_30 (by decide) rfl ?_
    refine hm_aload_n C d_D_meetingOf_32 rfl 1 rfl ?_
    obtain ⟨a7, ea7, hf⟩ := hm_bind hf
    refine hm_getR C F_3 2 (by decide) rfl k_33 d_D_meetingOf_33 ea7 ?_
    obtain ⟨a8, ea8, hf⟩ := hm_bind hf
    refine hm_getRN C F_1 1 (by decide) rfl kF_9 d_D_meetingOf_36 ea8 ?_
    refine hm_iload_n C d_D_meetingOf_39 rfl 2 rfl ?_
    obtain ⟨a9, ea9, hf⟩ := hm_bind hf
    refine hm_aaload C d_D_meetingOf_40 ea9 ?_
    refine hm_iload C d_D_meetingOf_41 0 rfl ?_
    obtain ⟨v10, ev10, hf⟩ := hm_bind hf
    refine hm_iaload C d_D_meetingOf_43 ev10 ?_
    refine hm_aload_n C d_D_meetingOf_44 rfl 1 rfl ?_
    obtain ⟨a11, ea11, hf⟩ := hm_bind hf
    refine hm_getR C F_3 3 (by decide) rfl k_34 d_D_meetingOf_45 ea11 ?_
    obtain ⟨a12, ea12, hf⟩ := hm_bind hf
    refine hm_getRN C F_1 1 (by decide) rfl kF_9 d_D_meetingOf_48 ea12 ?_
    refine hm_iload_n C d_D_meetingOf_51 rfl 3 rfl ?_
    obtain ⟨a13, ea13, hf⟩ := hm_bind hf
    refine hm_aaload C d_D_meetingOf_52 ea13 ?_
    refine hm_iload C d_D_meetingOf_53 0 rfl ?_
    obtain ⟨v14, ev14, hf⟩ := hm_bind hf
    refine hm_iaload C d_D_meetingOf_55 ev14 ?_
    obtain ⟨v15, h15, eh15, hf⟩ := hm_and_of hf
    refine hm_callS (vs := [.int v10, .int v14]) (st := []) (sb := [.int v15]) C (c_D_sum eh15) Y_D_sum k_69 k_68 (by decide) (by decide) rfl (Nat.le_of_ble_eq_true rfl) d_D_meetingOf_56 rfl rfl ?_
    refine hm_istore (lv' := [(7, .int v15), (6, .int v6), (0, .ref x0), (1, .int x1), (2, .int x2), (3, .int x3), (4, .int x4), (5, .int x5)]) C d_D_meetingOf_59 (by decide) rfl ?_
    refine hm_iload C d_D_meetingOf_61 0 rfl ?_
    refine hm_iload_n C d_D_meetingOf_63 rfl 5 rfl ?_
    obtain ⟨v16, h16, eh16, hf⟩ := hm_and_of hf
    refine hm_callS (vs := [.int v15, .int x3]) (st := []) (sb := [.int v16]) C (c_D_isLess eh16) Y_D_isLess k_61 k_60 (by decide) (by decide) rfl (Nat.le_of_ble_eq_true rfl) d_D_meetingOf_64 rfl rfl ?_
    refine hm_if_eq (tgt := 77) C d_D_meetingOf_67 (by decide) (fun z17 => ?_) (fun z17 => ?_)
    · have hf := hm_ifp hf z17
      refine hm_sub (lv' := [(0, .ref x0), (1, .int x1), (2, .int x2), (3, .int x3), (4, .int x4), (5, .int x5)]) [2, 3, 4, 5, 6, 7] rfl ?_
      exact w_f_D_meetingOf_77 C hr hlk hk8 hf
    · have hf := hm_ifn hf z17
      refine hm_iload C d_D_meetingOf_70 0 rfl ?_
      refine hm_istore_n (lv' := [(3, .int v15), (7, .int v15), (6, .int v6), (0, .ref x0), (1, .int x1), (2, .int x2), (4, .int x4), (5, .int x5)]) C d_D_meetingOf_72 rfl (by decide) rfl ?_
      refine hm_iload C d_D_meetingOf_73 2 rfl ?_
      refine hm_istore (lv' := [(4, .int v6), (3, .int v15), (7, .int v15), (6, .int v6), (0, .ref x0), (1, .int x1), (2, .int x2), (5, .int x5)]) C d_D_meetingOf_75 (by decide) rfl ?_
      refine hm_sub (lv' := [(0, .ref x0), (1, .int x1), (2, .int x2), (3, .int v15), (4, .int v6), (5, .int x5)]) [4, 5, 6, 1, 0, 7] rfl ?_
      exact w_f_D_meetingOf_77 C hr hlk hk8 hf
theorem w_D_meetingOf_8L {p : Program} {l : Launch} {e : Env} {R : Room} {s : State} {m : MethodId} {args : Array Value} {below : List Frame} {meth : Method} {c : Code} {E : hm_E} {n0 s0 F : Nat} {r : Int32} {h' : hm_T} (C : hm_C E prog_1_method_27_code 8 "DistanceLabels" 1 21 n0 s0 (hm_n h') (hm_s h') p R s m args c) (hr : meth.sig.returnType = (some .int)) (hlk : meth.locks = false) : ∀ (N : Nat) (x0 : Nat) (x1 : Int32) (x2 : Int32) (x3 : Int32) (x4 : Int32) (x5 : Int32) (h : hm_T), f_D_meetingOf_8 F N x0 x1 x2 x3 x4 x5 h = some (r, h') → hm_G E 8 n0 s0 (hm_n h') (hm_s h') p l e R s m args below meth c (MQ below (hm_Qc E (some (.int r)) h') args s (hm_n h' - n0) (hm_s h' - s0) (fun q => E.2.2 ≤ q)) 8 [(0, .ref x0), (1, .int x1), (2, .int x2), (3, .int x3), (4, .int x4), (5, .int x5)] [] h := by
  intro N
  induction N with
  | zero => intro _ _ _ _ _ _ _ hf; cases hf
  | succ n ih => intro x0 x1 x2 x3 x4 x5 h hf; exact w_g_D_meetingOf_8 C hr hlk ih hf
set_option maxRecDepth 20000 in
set_option maxHeartbeats 1000000 in
theorem w_f_D_meetingOf {p : Program} {l : Launch} {e : Env} {R : Room} {s : State} {m : MethodId} {args : Array Value} {below : List Frame} {meth : Method} {c : Code} {E : hm_E} {n0 s0 F : Nat} {r : Int32} {h h' : hm_T} {x0 : Nat} {x1 : Int32} {x2 : Int32} (C : hm_C E prog_1_method_27_code 8 "DistanceLabels" 1 21 n0 s0 (hm_n h') (hm_s h') p R s m args c) (hr : meth.sig.returnType = (some .int)) (hlk : meth.locks = false) (hf : f_D_meetingOf F x0 x1 x2 h = some (r, h')) : hm_G E 8 n0 s0 (hm_n h') (hm_s h') p l e R s m args below meth c (MQ below (hm_Qc E (some (.int r)) h') args s (hm_n h' - n0) (hm_s h' - s0) (fun q => E.2.2 ≤ q)) 0 [(0, .ref x0), (1, .int x1), (2, .int x2)] [] h := by
  unfold f_D_meetingOf at hf
  refine hm_iconst (v := (-1 : Int32)) C d_D_meetingOf_0 (by decide) ?_
  refine hm_istore_n (lv' := [(3, .int (-1 : Int32)), (0, .ref x0), (1, .int x1), (2, .int x2)]) C d_D_meetingOf_1 rfl (by decide) rfl ?_
  refine hm_iconst (v := (-1 : Int32)) C d_D_meetingOf_2 (by decide) ?_
  refine hm_istore (lv' := [(4, .int (-1 : Int32)), (3, .int (-1 : Int32)), (0, .ref x0), (1, .int x1), (2, .int x2)]) C d_D_meetingOf_3 (by decide) rfl ?_
  refine hm_iconst (v := (0 : Int32)) C d_D_meetingOf_5 (by decide) ?_
  refine hm_istore (lv' := [(5, .int (0 : Int32)), (4, .int (-1 : Int32)), (3, .int (-1 : Int32)), (0, .ref x0), (1, .int x1), (2, .int x2)]) C d_D_meetingOf_6 (by decide) rfl ?_
  refine hm_sub (lv' := [(0, .ref x0), (1, .int x1), (2, .int x2), (3, .int (-1 : Int32)), (4, .int (-1 : Int32)), (5, .int (0 : Int32))]) [3, 4, 5, 2, 1, 0] rfl ?_
  exact w_D_meetingOf_8L C hr hlk _ _ _ _ _ _ _ _ hf
set_option maxRecDepth 20000 in
theorem c_D_meetingOf {E : hm_E} {l : Launch} {F : Nat} {r : Int32} {h h' : hm_T} {x0 : Nat} {x1 : Int32} {x2 : Int32} (hf : f_D_meetingOf F x0 x1 x2 h = some (r, h')) : hm_M E l y_D_meetingOf prog_1_method_27_code 8 (some .int) 1 21 [.ref x0, .int x1, .int x2] h (some (.int r)) h' :=
  hm_enter (by decide +kernel) (Nat.le_of_ble_eq_true rfl) (m_f_D_meetingOf hf) (fun p e R s m below meth c C hr hlk hin => w_f_D_meetingOf C hr hlk hf)
def f_D_askedOf (F : Nat) (x0 : Nat) (x1 : Int32) (x2 : Int32) (h : hm_T) : Option (Int32 × hm_T) :=
  (hm_is 3 9 h x0).bind (fun u1 => hm_and (f_D_meetingOf F x0 x1 x2 h) (fun v2 h2 => (if v2 = (-1 : Int32) then some ((-1 : Int32), h2) else (hm_gr 3 9 2 h2 x0).bind (fun a4 => (hm_gr 1 2 1 h2 a4).bind (fun a5 => (hm_ald h2 a5 x1).bind (fun a6 => (hm_ild h2 a6 v2).bind (fun v7 => (hm_gr 3 9 3 h2 x0).bind (fun a8 => (hm_gr 1 2 1 h2 a8).bind (fun a9 => (hm_ald h2 a9 x2).bind (fun a10 => (hm_ild h2 a10 v2).bind (fun v11 => hm_and (f_D_sum F v7 v11 h2) (fun v12 h12 => some (v12, h12)))))))))))))
theorem m_f_D_askedOf {F : Nat} {r : Int32} {h h' : hm_T} {x0 : Nat} {x1 : Int32} {x2 : Int32} (hf : f_D_askedOf F x0 x1 x2 h = some (r, h')) : hm_le h h' := by
  unfold f_D_askedOf at hf
  obtain ⟨u1, eu1, hf⟩ := hm_bind hf
  obtain ⟨v2, h2, eh2, hf⟩ := hm_and_of hf
  have mh2 := m_f_D_meetingOf eh2
  by_cases z3 : v2 = (-1 : Int32)
  · have hf := hm_ifp hf z3
    exact mh2.tr ((hm_le.ret hf))
  · have hf := hm_ifn hf z3
    obtain ⟨a4, ea4, hf⟩ := hm_bind hf
    obtain ⟨a5, ea5, hf⟩ := hm_bind hf
    obtain ⟨a6, ea6, hf⟩ := hm_bind hf
    obtain ⟨v7, ev7, hf⟩ := hm_bind hf
    obtain ⟨a8, ea8, hf⟩ := hm_bind hf
    obtain ⟨a9, ea9, hf⟩ := hm_bind hf
    obtain ⟨a10, ea10, hf⟩ := hm_bind hf
    obtain ⟨v11, ev11, hf⟩ := hm_bind hf
    obtain ⟨v12, h12, eh12, hf⟩ := hm_and_of hf
    have mh12 := m_f_D_sum eh12
    exact mh2.tr (mh12.tr ((hm_le.ret hf)))
set_option maxRecDepth 20000 in
set_option maxHeartbeats 1000000 in
theorem w_f_D_askedOf {p : Program} {l : Launch} {e : Env} {R : Room} {s : State} {m : MethodId} {args : Array Value} {below : List Frame} {meth : Method} {c : Code} {E : hm_E} {n0 s0 F : Nat} {r : Int32} {h h' : hm_T} {x0 : Nat} {x1 : Int32} {x2 : Int32} (C : hm_C E prog_1_method_28_code 4 "DistanceLabels" 2 48 n0 s0 (hm_n h') (hm_s h') p R s m args c) (hr : meth.sig.returnType = (some .int)) (hlk : meth.locks = false) (hf : f_D_askedOf F x0 x1 x2 h = some (r, h')) : hm_G E 4 n0 s0 (hm_n h') (hm_s h') p l e R s m args below meth c (MQ below (hm_Qc E (some (.int r)) h') args s (hm_n h' - n0) (hm_s h' - s0) (fun q => E.2.2 ≤ q)) 0 [(0, .ref x0), (1, .int x1), (2, .int x2)] [] h := by
  unfold f_D_askedOf at hf
  refine hm_aload_n C d_D_askedOf_0 rfl 0 rfl ?_
  refine hm_iload_n C d_D_askedOf_1 rfl 1 rfl ?_
  refine hm_iload_n C d_D_askedOf_2 rfl 2 rfl ?_
  obtain ⟨u1, eu1, hf⟩ := hm_bind hf
  obtain ⟨v2, h2, eh2, hf⟩ := hm_and_of hf
  refine hm_callV (vs := [.int x1, .int x2]) (st := []) (sb := [.int v2]) C (c_D_meetingOf eh2) Y_D_meetingOf F_3 eu1 k_99 k_100 k_98 (by decide) (by decide) rfl (Nat.le_of_ble_eq_true rfl) d_D_askedOf_3 rfl rfl ?_
  refine hm_istore_n (lv' := [(3, .int v2), (0, .ref x0), (1, .int x1), (2, .int x2)]) C d_D_askedOf_6 rfl (by decide) rfl ?_
  refine hm_iload_n C d_D_askedOf_7 rfl 0 rfl ?_
  refine hm_iconst (v := (-1 : Int32)) C d_D_askedOf_8 (by decide) ?_
  refine hm_icmp_ne (tgt := 16) C d_D_askedOf_9 (by decide) (fun z3 => ?_) (fun z3 => ?_)
  · have hf := hm_ifn hf z3
    refine hm_aload_n C d_D_askedOf_16 rfl 1 rfl ?_
    obtain ⟨a4, ea4, hf⟩ := hm_bind hf
    refine hm_getR C F_3 2 (by decide) rfl k_33 d_D_askedOf_17 ea4 ?_
    obtain ⟨a5, ea5, hf⟩ := hm_bind hf
    refine hm_getRN C F_1 1 (by decide) rfl kF_9 d_D_askedOf_20 ea5 ?_
    refine hm_iload_n C d_D_askedOf_23 rfl 2 rfl ?_
    obtain ⟨a6, ea6, hf⟩ := hm_bind hf
    refine hm_aaload C d_D_askedOf_24 ea6 ?_
    refine hm_iload_n C d_D_askedOf_25 rfl 0 rfl ?_
    obtain ⟨v7, ev7, hf⟩ := hm_bind hf
    refine hm_iaload C d_D_askedOf_26 ev7 ?_
    refine hm_aload_n C d_D_askedOf_27 rfl 1 rfl ?_
    obtain ⟨a8, ea8, hf⟩ := hm_bind hf
    refine hm_getR C F_3 3 (by decide) rfl k_34 d_D_askedOf_28 ea8 ?_
    obtain ⟨a9, ea9, hf⟩ := hm_bind hf
    refine hm_getRN C F_1 1 (by decide) rfl kF_9 d_D_askedOf_31 ea9 ?_
    refine hm_iload_n C d_D_askedOf_34 rfl 3 rfl ?_
    obtain ⟨a10, ea10, hf⟩ := hm_bind hf
    refine hm_aaload C d_D_askedOf_35 ea10 ?_
    refine hm_iload_n C d_D_askedOf_36 rfl 0 rfl ?_
    obtain ⟨v11, ev11, hf⟩ := hm_bind hf
    refine hm_iaload C d_D_askedOf_37 ev11 ?_
    obtain ⟨v12, h12, eh12, hf⟩ := hm_and_of hf
    refine hm_callS (vs := [.int v7, .int v11]) (st := []) (sb := [.int v12]) C (c_D_sum eh12) Y_D_sum k_69 k_68 (by decide) (by decide) rfl (Nat.le_of_ble_eq_true rfl) d_D_askedOf_38 rfl rfl ?_
    exact hm_iret C hr hlk d_D_askedOf_41 hf
  · have hf := hm_ifp hf z3
    refine hm_iconst (v := (-1 : Int32)) C d_D_askedOf_12 (by decide) ?_
    refine hm_goto (tgt := 41) C d_D_askedOf_13 (by decide) ?_
    exact hm_iret C hr hlk d_D_askedOf_41 hf
set_option maxRecDepth 20000 in
theorem c_D_askedOf {E : hm_E} {l : Launch} {F : Nat} {r : Int32} {h h' : hm_T} {x0 : Nat} {x1 : Int32} {x2 : Int32} (hf : f_D_askedOf F x0 x1 x2 h = some (r, h')) : hm_M E l y_D_askedOf prog_1_method_28_code 4 (some .int) 2 48 [.ref x0, .int x1, .int x2] h (some (.int r)) h' :=
  hm_enter (by decide +kernel) (Nat.le_of_ble_eq_true rfl) (m_f_D_askedOf hf) (fun p e R s m below meth c C hr hlk hin => w_f_D_askedOf C hr hlk hf)
def f_D_ask (F : Nat) (x0 : Nat) (x1 : Int32) (x2 : Int32) (h : hm_T) : Option (Int32 × hm_T) :=
  (hm_is 3 9 h x0).bind (fun u1 => hm_and (f_D_refusalOf F x0 x1 x2 h) (fun v2 h2 => (if v2 = 0 then (hm_is 3 9 h2 x0).bind (fun u4 => hm_and (f_D_askedOf F x0 x1 x2 h2) (fun v5 h5 => some (v5, h5))) else some (v2, h2))))
theorem m_f_D_ask {F : Nat} {r : Int32} {h h' : hm_T} {x0 : Nat} {x1 : Int32} {x2 : Int32} (hf : f_D_ask F x0 x1 x2 h = some (r, h')) : hm_le h h' := by
  unfold f_D_ask at hf
  obtain ⟨u1, eu1, hf⟩ := hm_bind hf
  obtain ⟨v2, h2, eh2, hf⟩ := hm_and_of hf
  have mh2 := m_f_D_refusalOf eh2
  by_cases z3 : v2 = 0
  · have hf := hm_ifp hf z3
    obtain ⟨u4, eu4, hf⟩ := hm_bind hf
    obtain ⟨v5, h5, eh5, hf⟩ := hm_and_of hf
    have mh5 := m_f_D_askedOf eh5
    exact mh2.tr (mh5.tr ((hm_le.ret hf)))
  · have hf := hm_ifn hf z3
    exact mh2.tr ((hm_le.ret hf))
set_option maxRecDepth 20000 in
set_option maxHeartbeats 1000000 in
theorem w_f_D_ask {p : Program} {l : Launch} {e : Env} {R : Room} {s : State} {m : MethodId} {args : Array Value} {below : List Frame} {meth : Method} {c : Code} {E : hm_E} {n0 s0 F : Nat} {r : Int32} {h h' : hm_T} {x0 : Nat} {x1 : Int32} {x2 : Int32} (C : hm_C E prog_1_method_10_code 4 "DistanceLabels" 3 71 n0 s0 (hm_n h') (hm_s h') p R s m args c) (hr : meth.sig.returnType = (some .int)) (hlk : meth.locks = false) (hf : f_D_ask F x0 x1 x2 h = some (r, h')) : hm_G E 4 n0 s0 (hm_n h') (hm_s h') p l e R s m args below meth c (MQ below (hm_Qc E (some (.int r)) h') args s (hm_n h' - n0) (hm_s h' - s0) (fun q => E.2.2 ≤ q)) 0 [(0, .ref x0), (1, .int x1), (2, .int x2)] [] h := by
  unfold f_D_ask at hf
  refine hm_aload_n C d_D_ask_0 rfl 0 rfl ?_
  refine hm_iload_n C d_D_ask_1 rfl 1 rfl ?_
  refine hm_iload_n C d_D_ask_2 rfl 2 rfl ?_
  obtain ⟨u1, eu1, hf⟩ := hm_bind hf
  obtain ⟨v2, h2, eh2, hf⟩ := hm_and_of hf
  refine hm_callV (vs := [.int x1, .int x2]) (st := []) (sb := [.int v2]) C (c_D_refusalOf eh2) Y_D_refusalOf F_3 eu1 k_102 k_103 k_101 (by decide) (by decide) rfl (Nat.le_of_ble_eq_true rfl) d_D_ask_3 rfl rfl ?_
  refine hm_istore_n (lv' := [(3, .int v2), (0, .ref x0), (1, .int x1), (2, .int x2)]) C d_D_ask_6 rfl (by decide) rfl ?_
  refine hm_iload_n C d_D_ask_7 rfl 0 rfl ?_
  refine hm_if_eq (tgt := 15) C d_D_ask_8 (by decide) (fun z3 => ?_) (fun z3 => ?_)
  · have hf := hm_ifp hf z3
    refine hm_aload_n C d_D_ask_15 rfl 1 rfl ?_
    refine hm_iload_n C d_D_ask_16 rfl 2 rfl ?_
    refine hm_iload_n C d_D_ask_17 rfl 3 rfl ?_
    obtain ⟨u4, eu4, hf⟩ := hm_bind hf
    obtain ⟨v5, h5, eh5, hf⟩ := hm_and_of hf
    refine hm_callV (vs := [.int x1, .int x2]) (st := []) (sb := [.int v5]) C (c_D_askedOf eh5) Y_D_askedOf F_3 eu4 k_105 k_106 k_104 (by decide) (by decide) rfl (Nat.le_of_ble_eq_true rfl) d_D_ask_18 rfl rfl ?_
    exact hm_iret C hr hlk d_D_ask_21 hf
  · have hf := hm_ifn hf z3
    refine hm_iload_n C d_D_ask_11 rfl 0 rfl ?_
    refine hm_goto (tgt := 21) C d_D_ask_12 (by decide) ?_
    exact hm_iret C hr hlk d_D_ask_21 hf
set_option maxRecDepth 20000 in
theorem c_D_ask {E : hm_E} {l : Launch} {F : Nat} {r : Int32} {h h' : hm_T} {x0 : Nat} {x1 : Int32} {x2 : Int32} (hf : f_D_ask F x0 x1 x2 h = some (r, h')) : hm_M E l y_D_ask prog_1_method_10_code 4 (some .int) 3 71 [.ref x0, .int x1, .int x2] h (some (.int r)) h' :=
  hm_enter (by decide +kernel) (Nat.le_of_ble_eq_true rfl) (m_f_D_ask hf) (fun p e R s m below meth c C hr hlk hin => w_f_D_ask C hr hlk hf)
def f_D_meeting (F : Nat) (x0 : Nat) (x1 : Int32) (x2 : Int32) (h : hm_T) : Option (Int32 × hm_T) :=
  (hm_is 3 9 h x0).bind (fun u1 => hm_and (f_D_refusalOf F x0 x1 x2 h) (fun v2 h2 => (if v2 = 0 then (hm_is 3 9 h2 x0).bind (fun u4 => hm_and (f_D_meetingOf F x0 x1 x2 h2) (fun v5 h5 => some (v5, h5))) else some (v2, h2))))
theorem m_f_D_meeting {F : Nat} {r : Int32} {h h' : hm_T} {x0 : Nat} {x1 : Int32} {x2 : Int32} (hf : f_D_meeting F x0 x1 x2 h = some (r, h')) : hm_le h h' := by
  unfold f_D_meeting at hf
  obtain ⟨u1, eu1, hf⟩ := hm_bind hf
  obtain ⟨v2, h2, eh2, hf⟩ := hm_and_of hf
  have mh2 := m_f_D_refusalOf eh2
  by_cases z3 : v2 = 0
  · have hf := hm_ifp hf z3
    obtain ⟨u4, eu4, hf⟩ := hm_bind hf
    obtain ⟨v5, h5, eh5, hf⟩ := hm_and_of hf
    have mh5 := m_f_D_meetingOf eh5
    exact mh2.tr (mh5.tr ((hm_le.ret hf)))
  · have hf := hm_ifn hf z3
    exact mh2.tr ((hm_le.ret hf))
set_option maxRecDepth 20000 in
set_option maxHeartbeats 1000000 in
theorem w_f_D_meeting {p : Program} {l : Launch} {e : Env} {R : Room} {s : State} {m : MethodId} {args : Array Value} {below : List Frame} {meth : Method} {c : Code} {E : hm_E} {n0 s0 F : Nat} {r : Int32} {h h' : hm_T} {x0 : Nat} {x1 : Int32} {x2 : Int32} (C : hm_C E prog_1_method_11_code 4 "DistanceLabels" 2 48 n0 s0 (hm_n h') (hm_s h') p R s m args c) (hr : meth.sig.returnType = (some .int)) (hlk : meth.locks = false) (hf : f_D_meeting F x0 x1 x2 h = some (r, h')) : hm_G E 4 n0 s0 (hm_n h') (hm_s h') p l e R s m args below meth c (MQ below (hm_Qc E (some (.int r)) h') args s (hm_n h' - n0) (hm_s h' - s0) (fun q => E.2.2 ≤ q)) 0 [(0, .ref x0), (1, .int x1), (2, .int x2)] [] h := by
  unfold f_D_meeting at hf
  refine hm_aload_n C d_D_meeting_0 rfl 0 rfl ?_
  refine hm_iload_n C d_D_meeting_1 rfl 1 rfl ?_
  refine hm_iload_n C d_D_meeting_2 rfl 2 rfl ?_
  obtain ⟨u1, eu1, hf⟩ := hm_bind hf
  obtain ⟨v2, h2, eh2, hf⟩ := hm_and_of hf
  refine hm_callV (vs := [.int x1, .int x2]) (st := []) (sb := [.int v2]) C (c_D_refusalOf eh2) Y_D_refusalOf F_3 eu1 k_102 k_103 k_101 (by decide) (by decide) rfl (Nat.le_of_ble_eq_true rfl) d_D_meeting_3 rfl rfl ?_
  refine hm_istore_n (lv' := [(3, .int v2), (0, .ref x0), (1, .int x1), (2, .int x2)]) C d_D_meeting_6 rfl (by decide) rfl ?_
  refine hm_iload_n C d_D_meeting_7 rfl 0 rfl ?_
  refine hm_if_eq (tgt := 15) C d_D_meeting_8 (by decide) (fun z3 => ?_) (fun z3 => ?_)
  · have hf := hm_ifp hf z3
    refine hm_aload_n C d_D_meeting_15 rfl 1 rfl ?_
    refine hm_iload_n C d_D_meeting_16 rfl 2 rfl ?_
    refine hm_iload_n C d_D_meeting_17 rfl 3 rfl ?_
    obtain ⟨u4, eu4, hf⟩ := hm_bind hf
    obtain ⟨v5, h5, eh5, hf⟩ := hm_and_of hf
    refine hm_callV (vs := [.int x1, .int x2]) (st := []) (sb := [.int v5]) C (c_D_meetingOf eh5) Y_D_meetingOf F_3 eu4 k_99 k_100 k_98 (by decide) (by decide) rfl (Nat.le_of_ble_eq_true rfl) d_D_meeting_18 rfl rfl ?_
    exact hm_iret C hr hlk d_D_meeting_21 hf
  · have hf := hm_ifn hf z3
    refine hm_iload_n C d_D_meeting_11 rfl 0 rfl ?_
    refine hm_goto (tgt := 21) C d_D_meeting_12 (by decide) ?_
    exact hm_iret C hr hlk d_D_meeting_21 hf
set_option maxRecDepth 20000 in
theorem c_D_meeting {E : hm_E} {l : Launch} {F : Nat} {r : Int32} {h h' : hm_T} {x0 : Nat} {x1 : Int32} {x2 : Int32} (hf : f_D_meeting F x0 x1 x2 h = some (r, h')) : hm_M E l y_D_meeting prog_1_method_11_code 4 (some .int) 2 48 [.ref x0, .int x1, .int x2] h (some (.int r)) h' :=
  hm_enter (by decide +kernel) (Nat.le_of_ble_eq_true rfl) (m_f_D_meeting hf) (fun p e R s m below meth c C hr hlk hin => w_f_D_meeting C hr hlk hf)
def f_D_redone (F : Nat) (x0 : Nat) (h : hm_T) : Option (Int32 × hm_T) :=
  (hm_gi 3 9 7 h x0).bind (fun v1 => (if v1 = 0 then some ((-4 : Int32), h) else (hm_gi 3 9 8 h x0).bind (fun v3 => some (v3, h))))
theorem m_f_D_redone {F : Nat} {r : Int32} {h h' : hm_T} {x0 : Nat} (hf : f_D_redone F x0 h = some (r, h')) : hm_le h h' := by
  unfold f_D_redone at hf
  obtain ⟨v1, ev1, hf⟩ := hm_bind hf
  by_cases z2 : v1 = 0
  · have hf := hm_ifp hf z2
    exact (hm_le.ret hf)
  · have hf := hm_ifn hf z2
    obtain ⟨v3, ev3, hf⟩ := hm_bind hf
    exact (hm_le.ret hf)
set_option maxRecDepth 20000 in
set_option maxHeartbeats 1000000 in
theorem w_f_D_redone {p : Program} {l : Launch} {e : Env} {R : Room} {s : State} {m : MethodId} {args : Array Value} {below : List Frame} {meth : Method} {c : Code} {E : hm_E} {n0 s0 F : Nat} {r : Int32} {h h' : hm_T} {x0 : Nat} (C : hm_C E prog_1_method_12_code 1 "DistanceLabels" 0 0 n0 s0 (hm_n h') (hm_s h') p R s m args c) (hr : meth.sig.returnType = (some .int)) (hlk : meth.locks = false) (hf : f_D_redone F x0 h = some (r, h')) : hm_G E 1 n0 s0 (hm_n h') (hm_s h') p l e R s m args below meth c (MQ below (hm_Qc E (some (.int r)) h') args s (hm_n h' - n0) (hm_s h' - s0) (fun q => E.2.2 ≤ q)) 0 [(0, .ref x0)] [] h := by
  unfold f_D_redone at hf
  refine hm_aload_n C d_D_redone_0 rfl 0 rfl ?_
  obtain ⟨v1, ev1, hf⟩ := hm_bind hf
  refine hm_getI C F_3 7 (by decide) rfl k_42 d_D_redone_1 ev1 ?_
  refine hm_if_eq (tgt := 14) C d_D_redone_4 (by decide) (fun z2 => ?_) (fun z2 => ?_)
  · have hf := hm_ifp hf z2
    refine hm_bipush (v := (-4 : Int32)) C d_D_redone_14 (by decide) ?_
    exact hm_iret C hr hlk d_D_redone_16 hf
  · have hf := hm_ifn hf z2
    refine hm_aload_n C d_D_redone_7 rfl 0 rfl ?_
    obtain ⟨v3, ev3, hf⟩ := hm_bind hf
    refine hm_getI C F_3 8 (by decide) rfl k_43 d_D_redone_8 ev3 ?_
    refine hm_goto (tgt := 16) C d_D_redone_11 (by decide) ?_
    exact hm_iret C hr hlk d_D_redone_16 hf
set_option maxRecDepth 20000 in
theorem c_D_redone {E : hm_E} {l : Launch} {F : Nat} {r : Int32} {h h' : hm_T} {x0 : Nat} (hf : f_D_redone F x0 h = some (r, h')) : hm_M E l y_D_redone prog_1_method_12_code 1 (some .int) 0 0 [.ref x0] h (some (.int r)) h' :=
  hm_enter (by decide +kernel) (Nat.le_of_ble_eq_true rfl) (m_f_D_redone hf) (fun p e R s m below meth c C hr hlk hin => w_f_D_redone C hr hlk hf)
def f_D_damage (F : Nat) (x0 : Nat) (x1 : Int32) (x2 : Int32) (x3 : Int32) (x4 : Int32) (h : hm_T) : Option (Int32 × hm_T) :=
  (hm_gi 3 9 7 h x0).bind (fun v1 => (if v1 = 0 then some ((-4 : Int32), h) else hm_and (f_D_isSide F x1 h) (fun v3 h3 => (if v3 = 0 then some ((-2 : Int32), h3) else (hm_gr 3 9 0 h3 x0).bind (fun a5 => (hm_is 2 5 h3 a5).bind (fun u6 => hm_and (f_N_has F a5 x2 h3) (fun v7 h7 => (if v7 = 0 then some ((-2 : Int32), h7) else (if x4 < (-1000 : Int32) then some ((-2 : Int32), h7) else (if x4 ≤ (1000 : Int32) then (hm_is 3 9 h7 x0).bind (fun u11 => hm_and (f_D_ofSide F x0 x1 h7) (fun a12 h12 => (hm_gr 3 9 0 h12 x0).bind (fun a13 => (hm_is 1 2 h12 a12).bind (fun u14 => hm_and (f_L_stationAt F a12 a13 x2 x3 h12) (fun v15 h15 => (if v15 = (-1 : Int32) then some ((-2 : Int32), h15) else (hm_gr 1 2 1 h15 a12).bind (fun a17 => (hm_ald h15 a17 x2).bind (fun a18 => (hm_ild h15 a18 v15).bind (fun v19 => (if (v19 + x4) < 0 then some ((-2 : Int32), h15) else (if (v19 + x4) ≤ (90000 : Int32) then (hm_gr 1 2 1 h15 a12).bind (fun a22 => (hm_ald h15 a22 x2).bind (fun a23 => (hm_ist h15 a23 v15 (v19 + x4)).bind (fun h24 => some ((v19 + x4), h24)))) else some ((-2 : Int32), h15)))))))))))) else some ((-2 : Int32), h7)))))))))))
theorem m_f_D_damage {F : Nat} {r : Int32} {h h' : hm_T} {x0 : Nat} {x1 : Int32} {x2 : Int32} {x3 : Int32} {x4 : Int32} (hf : f_D_damage F x0 x1 x2 x3 x4 h = some (r, h')) : hm_le h h' := by
  unfold f_D_damage at hf
  obtain ⟨v1, ev1, hf⟩ := hm_bind hf
  by_cases z2 : v1 = 0
  · have hf := hm_ifp hf z2
    exact (hm_le.ret hf)
  · have hf := hm_ifn hf z2
    obtain ⟨v3, h3, eh3, hf⟩ := hm_and_of hf
    have mh3 := m_f_D_isSide eh3
    by_cases z4 : v3 = 0
    · have hf := hm_ifp hf z4
      exact mh3.tr ((hm_le.ret hf))
    · have hf := hm_ifn hf z4
      obtain ⟨a5, ea5, hf⟩ := hm_bind hf
      obtain ⟨u6, eu6, hf⟩ := hm_bind hf
      obtain ⟨v7, h7, eh7, hf⟩ := hm_and_of hf
      have mh7 := m_f_N_has eh7
      by_cases z8 : v7 = 0
      · have hf := hm_ifp hf z8
        exact mh3.tr (mh7.tr ((hm_le.ret hf)))
      · have hf := hm_ifn hf z8
        by_cases z9 : x4 < (-1000 : Int32)
        · have hf := hm_ifp hf z9
          exact mh3.tr (mh7.tr ((hm_le.ret hf)))
        · have hf := hm_ifn hf z9
          by_cases z10 : x4 ≤ (1000 : Int32)
          · have hf := hm_ifp hf z10
            obtain ⟨u11, eu11, hf⟩ := hm_bind hf
            obtain ⟨a12, h12, eh12, hf⟩ := hm_and_of hf
            have mh12 := m_f_D_ofSide eh12
            obtain ⟨a13, ea13, hf⟩ := hm_bind hf
            obtain ⟨u14, eu14, hf⟩ := hm_bind hf
            obtain ⟨v15, h15, eh15, hf⟩ := hm_and_of hf
            have mh15 := m_f_L_stationAt eh15
            by_cases z16 : v15 = (-1 : Int32)
            · have hf := hm_ifp hf z16
              exact mh3.tr (mh7.tr (mh12.tr (mh15.tr ((hm_le.ret hf)))))
            · have hf := hm_ifn hf z16
              obtain ⟨a17, ea17, hf⟩ := hm_bind hf
              obtain ⟨a18, ea18, hf⟩ := hm_bind hf
              obtain ⟨v19, ev19, hf⟩ := hm_bind hf
              by_cases z20 : (v19 + x4) < 0
              · have hf := hm_ifp hf z20
                exact mh3.tr (mh7.tr (mh12.tr (mh15.tr ((hm_le.ret hf)))))
              · have hf := hm_ifn hf z20
                by_cases z21 : (v19 + x4) ≤ (90000 : Int32)
                · have hf := hm_ifp hf z21
                  obtain ⟨a22, ea22, hf⟩ := hm_bind hf
                  obtain ⟨a23, ea23, hf⟩ := hm_bind hf
                  obtain ⟨h24, eh24, hf⟩ := hm_bind hf
                  have mh24 := hm_le.ist eh24
                  exact mh3.tr (mh7.tr (mh12.tr (mh15.tr (mh24.tr ((hm_le.ret hf))))))
                · have hf := hm_ifn hf z21
                  exact mh3.tr (mh7.tr (mh12.tr (mh15.tr ((hm_le.ret hf)))))
          · have hf := hm_ifn hf z10
            exact mh3.tr (mh7.tr ((hm_le.ret hf)))
set_option maxRecDepth 20000 in
set_option maxHeartbeats 1000000 in
theorem w_f_D_damage {p : Program} {l : Launch} {e : Env} {R : Room} {s : State} {m : MethodId} {args : Array Value} {below : List Frame} {meth : Method} {c : Code} {E : hm_E} {n0 s0 F : Nat} {r : Int32} {h h' : hm_T} {x0 : Nat} {x1 : Int32} {x2 : Int32} {x3 : Int32} {x4 : Int32} (C : hm_C E prog_1_method_13_code 8 "DistanceLabels" 1 26 n0 s0 (hm_n h') (hm_s h') p R s m args c) (hr : meth.sig.returnType = (some .int)) (hlk : meth.locks = false) (hf : f_D_damage F x0 x1 x2 x3 x4 h = some (r, h')) : hm_G E 8 n0 s0 (hm_n h') (hm_s h') p l e R s m args below meth c (MQ below (hm_Qc E (some (.int r)) h') args s (hm_n h' - n0) (hm_s h' - s0) (fun q => E.2.2 ≤ q)) 0 [(0, .ref x0), (1, .int x1), (2, .int x2), (3, .int x3), (4, .int x4)] [] h := by
  unfold f_D_damage at hf
  refine hm_aload_n C d_D_damage_0 rfl 0 rfl ?_
  obtain ⟨v1, ev1, hf⟩ := hm_bind hf
  refine hm_getI C F_3 7 (by decide) rfl k_42 d_D_damage_1 ev1 ?_
  refine hm_if_ne (tgt := 10) C d_D_damage_4 (by decide) (fun z2 => ?_) (fun z2 => ?_)
  · have hf := hm_ifn hf z2
    refine hm_iload_n C d_D_damage_10 rfl 1 rfl ?_
    obtain ⟨v3, h3, eh3, hf⟩ := hm_and_of hf
    refine hm_callS (vs := [.int x1]) (st := []) (sb := [.int v3]) C (c_D_isSide eh3) Y_D_isSide k_90 k_89 (by decide) (by decide) rfl (Nat.le_of_ble_eq_true rfl) d_D_damage_11 rfl rfl ?_
    refine hm_if_eq (tgt := 44) C d_D_damage_14 (by decide) (fun z4 => ?_) (fun z4 => ?_)
    · have hf := hm_ifp hf z4
      refine hm_bipush (v := (-2 : Int32)) C d_D_damage_44 (by decide) ?_
      exact hm_iret C hr hlk d_D_damage_46 hf
    · have hf := hm_ifn hf z4
      refine hm_aload_n C d_D_damage_17 rfl 0 rfl ?_
      obtain ⟨a5, ea5, hf⟩ := hm_bind hf
      refine hm_getR C F_3 0 (by decide) rfl k_26 d_D_damage_18 ea5 ?_
      refine hm_iload_n C d_D_damage_21 rfl 2 rfl ?_
      obtain ⟨u6, eu6, hf⟩ := hm_bind hf
      obtain ⟨v7, h7, eh7, hf⟩ := hm_and_of hf
      refine hm_callVN (vs := [.int x2]) (st := []) (sb := [.int v7]) C (c_N_has eh7) Y_N_has F_2 eu6 k_50 k_51 kM_10 (by decide) (by decide) rfl (Nat.le_of_ble_eq_true rfl) d_D_damage_22 rfl rfl ?_
      refine hm_if_eq (tgt := 44) C d_D_damage_25 (by decide) (fun z8 => ?_) (fun z8 => ?_)
      · have hf := hm_ifp hf z8
        refine hm_bipush (v := (-2 : Int32)) C d_D_damage_44 (by decide) ?_
        exact hm_iret C hr hlk d_D_damage_46 hf
      · have hf := hm_ifn hf z8
        refine hm_iload C d_D_damage_28 4 rfl ?_
        refine hm_sipush (v := (-1000 : Int32)) C d_D_damage_30 (by decide) ?_
        refine hm_icmp_lt (tgt := 44) C d_D_damage_33 (by decide) (fun z9 => ?_) (fun z9 => ?_)
        · have hf := hm_ifp hf z9
          refine hm_bipush (v := (-2 : Int32)) C d_D_damage_44 (by decide) ?_
          exact hm_iret C hr hlk d_D_damage_46 hf
        · have hf := hm_ifn hf z9
          refine hm_iload C d_D_damage_36 4 rfl ?_
          refine hm_sipush (v := (1000 : Int32)) C d_D_damage_38 (by decide) ?_
          refine hm_icmp_le (tgt := 47) C d_D_damage_41 (by decide) (fun z10 => ?_) (fun z10 => ?_)
          · have hf := hm_ifp hf z10
            refine hm_aload_n C d_D_damage_47 rfl 0 rfl ?_
            refine hm_iload_n C d_D_damage_48 rfl 1 rfl ?_
            obtain ⟨u11, eu11, hf⟩ := hm_bind hf
            obtain ⟨a12, h12, eh12, hf⟩ := hm_and_of hf
            refine hm_callV (vs := [.int x1]) (st := []) (sb := [.ref a12]) C (c_D_ofSide eh12) Y_D_ofSide F_3 eu11 k_92 k_93 k_91 (by decide) (by decide) rfl (Nat.le_of_ble_eq_true rfl) d_D_damage_49 rfl rfl ?_
            refine hm_astore (lv' := [(5, .ref a12), (0, .ref x0), (1, .int x1), (2, .int x2), (3, .int x3), (4, .int x4)]) C d_D_damage_52 (by decide) rfl ?_
            refine hm_aload C d_D_damage_54 0 rfl ?_
            refine hm_aload_n C d_D_damage_56 rfl 1 rfl ?_
            obtain ⟨a13, ea13, hf⟩ := hm_bind hf
            refine hm_getR C F_3 0 (by decide) rfl k_26 d_D_damage_57 ea13 ?_
            refine hm_iload_n C d_D_damage_60 rfl 3 rfl ?_
            refine hm_iload_n C d_D_damage_61 rfl 4 rfl ?_
            obtain ⟨u14, eu14, hf⟩ := hm_bind hf
            obtain ⟨v15, h15, eh15, hf⟩ := hm_and_of hf
            refine hm_callVN (vs := [.ref a13, .int x2, .int x3]) (st := []) (sb := [.int v15]) C (c_L_stationAt eh15) Y_L_stationAt F_1 eu14 k_94 k_95 kM_18 (by decide) (by decide) rfl (Nat.le_of_ble_eq_true rfl) d_D_damage_62 rfl rfl ?_
            refine hm_istore (lv' := [(6, .int v15), (5, .ref a12), (0, .ref x0), (1, .int x1), (2, .int x2), (3, .int x3), (4, .int x4)]) C d_D_damage_65 (by decide) rfl ?_
            refine hm_iload C d_D_damage_67 0 rfl ?_
            refine hm_iconst (v := (-1 : Int32)) C d_D_damage_69 (by decide) ?_
            refine hm_icmp_ne (tgt := 76) C d_D_damage_70 (by decide) (fun z16 => ?_) (fun z16 => ?_)
            · have hf := hm_ifn hf z16
              refine hm_aload C d_D_damage_76 1 rfl ?_
              obtain ⟨a17, ea17, hf⟩ := hm_bind hf
              refine hm_getRN C F_1 1 (by decide) rfl kF_9 d_D_damage_78 ea17 ?_
              refine hm_iload_n C d_D_damage_81 rfl 4 rfl ?_
              obtain ⟨a18, ea18, hf⟩ := hm_bind hf
              refine hm_aaload C d_D_damage_82 ea18 ?_
              refine hm_iload C d_D_damage_83 0 rfl ?_
              obtain ⟨v19, ev19, hf⟩ := hm_bind hf
              refine hm_iaload C d_D_damage_85 ev19 ?_
              refine hm_iload C d_D_damage_86 6 rfl ?_
              refine hm_iadd C d_D_damage_88 ?_
              refine hm_istore (lv' := [(7, .int (v19 + x4)), (6, .int v15), (5, .ref a12), (0, .ref x0), (1, .int x1), (2, .int x2), (3, .int x3), (4, .int x4)]) C d_D_damage_89 (by decide) rfl ?_
              refine hm_iload C d_D_damage_91 0 rfl ?_
              refine hm_if_lt (tgt := 103) C d_D_damage_93 (by decide) (fun z20 => ?_) (fun z20 => ?_)
              · have hf := hm_ifp hf z20
                refine hm_bipush (v := (-2 : Int32)) C d_D_damage_103 (by decide) ?_
                exact hm_iret C hr hlk d_D_damage_105 hf
              · have hf := hm_ifn hf z20
                refine hm_iload C d_D_damage_96 0 rfl ?_
                refine hm_ldc (v := (90000 : Int32)) C k_107 d_D_damage_98 ?_
                refine hm_icmp_le (tgt := 106) C d_D_damage_100 (by decide) (fun z21 => ?_) (fun z21 => ?_)
                · have hf := hm_ifp hf z21
                  refine hm_aload C d_D_damage_106 2 rfl ?_
                  obtain ⟨a22, ea22, hf⟩ := hm_bind hf
                  refine hm_getRN C F_1 1 (by decide) rfl kF_9 d_D_damage_108 ea22 ?_
                  refine hm_iload_n C d_D_damage_111 rfl 5 rfl ?_
                  obtain ⟨a23, ea23, hf⟩ := hm_bind hf
                  refine hm_aaload C d_D_damage_112 ea23 ?_
                  refine hm_iload C d_D_damage_113 1 rfl ?_
                  refine hm_iload C d_D_damage_115 0 rfl ?_
                  obtain ⟨h24, eh24, hf⟩ := hm_bind hf
                  refine hm_iastore C d_D_damage_117 eh24 ?_
                  refine hm_iload C d_D_damage_118 0 rfl ?_
                  exact hm_iret C hr hlk d_D_damage_120 hf
                · have hf := hm_ifn hf z21
                  refine hm_bipush (v := (-2 : Int32)) C d_D_damage_103 (by decide) ?_
                  exact hm_iret C hr hlk d_D_damage_105 hf
            · have hf := hm_ifp hf z16
              refine hm_bipush (v := (-2 : Int32)) C d_D_damage_73 (by decide) ?_
              exact hm_iret C hr hlk d_D_damage_75 hf
          · have hf := hm_ifn hf z10
            refine hm_bipush (v := (-2 : Int32)) C d_D_damage_44 (by decide) ?_
            exact hm_iret C hr hlk d_D_damage_46 hf
  · have hf := hm_ifp hf z2
    refine hm_bipush (v := (-4 : Int32)) C d_D_damage_7 (by decide) ?_
    exact hm_iret C hr hlk d_D_damage_9 hf
set_option maxRecDepth 20000 in
theorem c_D_damage {E : hm_E} {l : Launch} {F : Nat} {r : Int32} {h h' : hm_T} {x0 : Nat} {x1 : Int32} {x2 : Int32} {x3 : Int32} {x4 : Int32} (hf : f_D_damage F x0 x1 x2 x3 x4 h = some (r, h')) : hm_M E l y_D_damage prog_1_method_13_code 8 (some .int) 1 26 [.ref x0, .int x1, .int x2, .int x3, .int x4] h (some (.int r)) h' :=
  hm_enter (by decide +kernel) (Nat.le_of_ble_eq_true rfl) (m_f_D_damage hf) (fun p e R s m below meth c C hr hlk hin => w_f_D_damage C hr hlk hf)
def f_D_check_66 (F : Nat) (k12 : Nat → Int32 → hm_T → Option (Int32 × hm_T)) (x0 : Nat) (x1 : Int32) (h : hm_T) : Option (Int32 × hm_T) :=
  k12 x0 (x1 + (1 : Int32)) h
def f_D_check_53 (F : Nat) (x1 : Int32) (x2 : Int32) (h : hm_T) : Option (Int32 × hm_T) :=
  some ((((16 : Int32) * x1) + x2), h)
def g_D_check_25 (F : Nat) (k12 : Nat → Int32 → hm_T → Option (Int32 × hm_T)) (k25 : Nat → Int32 → Int32 → hm_T → Option (Int32 × hm_T)) (x0 : Nat) (x1 : Int32) (x2 : Int32) (h : hm_T) : Option (Int32 × hm_T) :=
  (hm_gr 3 9 0 h x0).bind (fun a1 => (hm_gi 2 5 0 h a1).bind (fun v2 => (if v2 ≤ x2 then f_D_check_66 F k12 x0 x1 h else (hm_is 3 9 h x0).bind (fun u4 => hm_and (f_D_askedOf F x0 x1 x2 h) (fun v5 h5 => (hm_gr 3 9 1 h5 x0).bind (fun a6 => (hm_ald h5 a6 x1).bind (fun a7 => (hm_ild h5 a7 x2).bind (fun v8 => (if v5 = v8 then k25 x0 x1 (x2 + (1 : Int32)) h5 else f_D_check_53 F x1 x2 h5)))))))))
def f_D_check_25 (F : Nat) (k12 : Nat → Int32 → hm_T → Option (Int32 × hm_T)) : Nat → Nat → Int32 → Int32 → hm_T → Option (Int32 × hm_T)
  | 0 => fun _ _ _ _ => none
  | n + 1 => g_D_check_25 F k12 (f_D_check_25 F k12 n)
def g_D_check_12 (F : Nat) (k12 : Nat → Int32 → hm_T → Option (Int32 × hm_T)) (x0 : Nat) (x1 : Int32) (h : hm_T) : Option (Int32 × hm_T) :=
  (hm_gr 3 9 0 h x0).bind (fun a1 => (hm_gi 2 5 0 h a1).bind (fun v2 => (if v2 ≤ x1 then some ((-1 : Int32), h) else f_D_check_25 F k12 F x0 x1 (0 : Int32) h)))
def f_D_check_12 (F : Nat) : Nat → Nat → Int32 → hm_T → Option (Int32 × hm_T)
  | 0 => fun _ _ _ => none
  | n + 1 => g_D_check_12 F (f_D_check_12 F n)
def f_D_check (F : Nat) (x0 : Nat) (h : hm_T) : Option (Int32 × hm_T) :=
  (hm_gi 3 9 7 h x0).bind (fun v1 => (if v1 = 0 then some ((-4 : Int32), h) else f_D_check_12 F F x0 (0 : Int32) h))
theorem m_f_D_check_66 {F : Nat} {r : Int32} {h h' : hm_T} {x0 : Nat} {x1 : Int32} {k12 : Nat → Int32 → hm_T → Option (Int32 × hm_T)} (hk12 : ∀ (y0 : Nat) (y1 : Int32) (g : hm_T), k12 y0 y1 g = some (r, h') → hm_le g h') (hf : f_D_check_66 F k12 x0 x1 h = some (r, h')) : hm_le h h' := by
  unfold f_D_check_66 at hf
  exact (hk12 _ _ _ hf)
theorem m_f_D_check_53 {F : Nat} {r : Int32} {h h' : hm_T} {x1 : Int32} {x2 : Int32} (hf : f_D_check_53 F x1 x2 h = some (r, h')) : hm_le h h' := by
  unfold f_D_check_53 at hf
  exact (hm_le.ret hf)
theorem m_g_D_check_25 {F : Nat} {r : Int32} {h h' : hm_T} {x0 : Nat} {x1 : Int32} {x2 : Int32} {k12 : Nat → Int32 → hm_T → Option (Int32 × hm_T)} {k25 : Nat → Int32 → Int32 → hm_T → Option (Int32 × hm_T)} (hk12 : ∀ (y0 : Nat) (y1 : Int32) (g : hm_T), k12 y0 y1 g = some (r, h') → hm_le g h') (hk25 : ∀ (y0 : Nat) (y1 : Int32) (y2 : Int32) (g : hm_T), k25 y0 y1 y2 g = some (r, h') → hm_le g h') (hf : g_D_check_25 F k12 k25 x0 x1 x2 h = some (r, h')) : hm_le h h' := by
  unfold g_D_check_25 at hf
  obtain ⟨a1, ea1, hf⟩ := hm_bind hf
  obtain ⟨v2, ev2, hf⟩ := hm_bind hf
  by_cases z3 : v2 ≤ x2
  · have hf := hm_ifp hf z3
    exact (m_f_D_check_66 hk12 hf)
  · have hf := hm_ifn hf z3
    obtain ⟨u4, eu4, hf⟩ := hm_bind hf
    obtain ⟨v5, h5, eh5, hf⟩ := hm_and_of hf
    have mh5 := m_f_D_askedOf eh5
    obtain ⟨a6, ea6, hf⟩ := hm_bind hf
    obtain ⟨a7, ea7, hf⟩ := hm_bind hf
    obtain ⟨v8, ev8, hf⟩ := hm_bind hf
    by_cases z9 : v5 = v8
    · have hf := hm_ifp hf z9
      exact mh5.tr ((hk25 _ _ _ _ hf))
    · have hf := hm_ifn hf z9
      exact mh5.tr ((m_f_D_check_53 hf))
theorem m_D_check_25L {F : Nat} {r : Int32} {h' : hm_T} {k12 : Nat → Int32 → hm_T → Option (Int32 × hm_T)} (hk12 : ∀ (y0 : Nat) (y1 : Int32) (g : hm_T), k12 y0 y1 g = some (r, h') → hm_le g h') : ∀ (N : Nat) (x0 : Nat) (x1 : Int32) (x2 : Int32) (h : hm_T), f_D_check_25 F k12 N x0 x1 x2 h = some (r, h') → hm_le h h' := by
  intro N
  induction N with
  | zero => intro _ _ _ _ hf; cases hf
  | succ n ih => intro x0 x1 x2 h hf; exact m_g_D_check_25 hk12 ih hf
theorem m_g_D_check_12 {F : Nat} {r : Int32} {h h' : hm_T} {x0 : Nat} {x1 : Int32} {k12 : Nat → Int32 → hm_T → Option (Int32 × hm_T)} (hk12 : ∀ (y0 : Nat) (y1 : Int32) (g : hm_T), k12 y0 y1 g = some (r, h') → hm_le g h') (hf : g_D_check_12 F k12 x0 x1 h = some (r, h')) : hm_le h h' := by
  unfold g_D_check_12 at hf
  obtain ⟨a1, ea1, hf⟩ := hm_bind hf
  obtain ⟨v2, ev2, hf⟩ := hm_bind hf
  by_cases z3 : v2 ≤ x1
  · have hf := hm_ifp hf z3
    exact (hm_le.ret hf)
  · have hf := hm_ifn hf z3
    exact (m_D_check_25L hk12 _ _ _ _ _ hf)
theorem m_D_check_12L {F : Nat} {r : Int32} {h' : hm_T} : ∀ (N : Nat) (x0 : Nat) (x1 : Int32) (h : hm_T), f_D_check_12 F N x0 x1 h = some (r, h') → hm_le h h' := by
  intro N
  induction N with
  | zero => intro _ _ _ hf; cases hf
  | succ n ih => intro x0 x1 h hf; exact m_g_D_check_12 ih hf
theorem m_f_D_check {F : Nat} {r : Int32} {h h' : hm_T} {x0 : Nat} (hf : f_D_check F x0 h = some (r, h')) : hm_le h h' := by
  unfold f_D_check at hf
  obtain ⟨v1, ev1, hf⟩ := hm_bind hf
  by_cases z2 : v1 = 0
  · have hf := hm_ifp hf z2
    exact (hm_le.ret hf)
  · have hf := hm_ifn hf z2
    exact (m_D_check_12L _ _ _ _ hf)
set_option maxRecDepth 20000 in
set_option maxHeartbeats 1000000 in
theorem w_f_D_check_66 {p : Program} {l : Launch} {e : Env} {R : Room} {s : State} {m : MethodId} {args : Array Value} {below : List Frame} {meth : Method} {c : Code} {E : hm_E} {n0 s0 F : Nat} {r : Int32} {h h' : hm_T} {x0 : Nat} {x1 : Int32} {k12 : Nat → Int32 → hm_T → Option (Int32 × hm_T)} (C : hm_C E prog_1_method_14_code 3 "DistanceLabels" 3 71 n0 s0 (hm_n h') (hm_s h') p R s m args c) (hr : meth.sig.returnType = (some .int)) (hlk : meth.locks = false) (hk12 : ∀ (y0 : Nat) (y1 : Int32) (g : hm_T), k12 y0 y1 g = some (r, h') → hm_G E 3 n0 s0 (hm_n h') (hm_s h') p l e R s m args below meth c (MQ below (hm_Qc E (some (.int r)) h') args s (hm_n h' - n0) (hm_s h' - s0) (fun q => E.2.2 ≤ q)) 12 [(0, .ref y0), (1, .int y1)] [] g) (hf : f_D_check_66 F k12 x0 x1 h = some (r, h')) : hm_G E 3 n0 s0 (hm_n h') (hm_s h') p l e R s m args below meth c (MQ below (hm_Qc E (some (.int r)) h') args s (hm_n h' - n0) (hm_s h' - s0) (fun q => E.2.2 ≤ q)) 66 [(0, .ref x0), (1, .int x1)] [] h := by
  unfold f_D_check_66 at hf
  refine hm_iinc (v := (x1 + (1 : Int32))) (lv' := [(1, .int (x1 + (1 : Int32))), (0, .ref x0)]) C d_D_check_66 1 rfl rfl (by decide) rfl ?_
  refine hm_goto (tgt := 12) C d_D_check_69 (by decide) ?_
  refine hm_sub (lv' := [(0, .ref x0), (1, .int (x1 + (1 : Int32)))]) [1, 0] rfl ?_
  exact hk12 _ _ _ hf
set_option maxRecDepth 20000 in
set_option maxHeartbeats 1000000 in
theorem w_f_D_check_53 {p : Program} {l : Launch} {e : Env} {R : Room} {s : State} {m : MethodId} {args : Array Value} {below : List Frame} {meth : Method} {c : Code} {E : hm_E} {n0 s0 F : Nat} {r : Int32} {h h' : hm_T} {x1 : Int32} {x2 : Int32} (C : hm_C E prog_1_method_14_code 3 "DistanceLabels" 3 71 n0 s0 (hm_n h') (hm_s h') p R s m args c) (hr : meth.sig.returnType = (some .int)) (hlk : meth.locks = false) (hf : f_D_check_53 F x1 x2 h = some (r, h')) : hm_G E 3 n0 s0 (hm_n h') (hm_s h') p l e R s m args below meth c (MQ below (hm_Qc E (some (.int r)) h') args s (hm_n h' - n0) (hm_s h' - s0) (fun q => E.2.2 ≤ q)) 53 [(1, .int x1), (2, .int x2)] [] h := by
  unfold f_D_check_53 at hf
  refine hm_bipush (v := (16 : Int32)) C d_D_check_53 (by decide) ?_
  refine hm_iload_n C d_D_check_55 rfl 0 rfl ?_
  refine hm_imul C d_D_check_56 ?_
  refine hm_iload_n C d_D_check_57 rfl 1 rfl ?_
  refine hm_iadd C d_D_check_58 ?_
  exact hm_iret C hr hlk d_D_check_59 hf
set_option maxRecDepth 20000 in
set_option maxHeartbeats 1000000 in
theorem w_g_D_check_25 {p : Program} {l : Launch} {e : Env} {R : Room} {s : State} {m : MethodId} {args : Array Value} {below : List Frame} {meth : Method} {c : Code} {E : hm_E} {n0 s0 F : Nat} {r : Int32} {h h' : hm_T} {x0 : Nat} {x1 : Int32} {x2 : Int32} {k12 : Nat → Int32 → hm_T → Option (Int32 × hm_T)} {k25 : Nat → Int32 → Int32 → hm_T → Option (Int32 × hm_T)} (C : hm_C E prog_1_method_14_code 3 "DistanceLabels" 3 71 n0 s0 (hm_n h') (hm_s h') p R s m args c) (hr : meth.sig.returnType = (some .int)) (hlk : meth.locks = false) (hk12 : ∀ (y0 : Nat) (y1 : Int32) (g : hm_T), k12 y0 y1 g = some (r, h') → hm_G E 3 n0 s0 (hm_n h') (hm_s h') p l e R s m args below meth c (MQ below (hm_Qc E (some (.int r)) h') args s (hm_n h' - n0) (hm_s h' - s0) (fun q => E.2.2 ≤ q)) 12 [(0, .ref y0), (1, .int y1)] [] g) (hk25 : ∀ (y0 : Nat) (y1 : Int32) (y2 : Int32) (g : hm_T), k25 y0 y1 y2 g = some (r, h') → hm_G E 3 n0 s0 (hm_n h') (hm_s h') p l e R s m args below meth c (MQ below (hm_Qc E (some (.int r)) h') args s (hm_n h' - n0) (hm_s h' - s0) (fun q => E.2.2 ≤ q)) 25 [(0, .ref y0), (1, .int y1), (2, .int y2)] [] g) (hf : g_D_check_25 F k12 k25 x0 x1 x2 h = some (r, h')) : hm_G E 3 n0 s0 (hm_n h') (hm_s h') p l e R s m args below meth c (MQ below (hm_Qc E (some (.int r)) h') args s (hm_n h' - n0) (hm_s h' - s0) (fun q => E.2.2 ≤ q)) 25 [(0, .ref x0), (1, .int x1), (2, .int x2)] [] h := by
  unfold g_D_check_25 at hf
  refine hm_iload_n C d_D_check_25 rfl 2 rfl ?_
  refine hm_aload_n C d_D_check_26 rfl 0 rfl ?_
  obtain ⟨a1, ea1, hf⟩ := hm_bind hf
  refine hm_getR C F_3 0 (by decide) rfl k_26 d_D_check_27 ea1 ?_
  obtain ⟨v2, ev2, hf⟩ := hm_bind hf
  refine hm_getIN C F_2 0 (by decide) rfl kF_0 d_D_check_30 ev2 ?_
  refine hm_icmp_ge (tgt := 66) C d_D_check_33 (by decide) (fun z3 => ?_) (fun z3 => ?_)
  · have hf := hm_ifp hf z3
    refine hm_sub (lv' := [(0, .ref x0), (1, .int x1)]) [0, 1] rfl ?_
    exact w_f_D_check_66 C hr hlk hk12 hf
  · have hf := hm_ifn hf z3
    refine hm_aload_n C d_D_check_36 rfl 0 rfl ?_
    refine hm_iload_n C d_D_check_37 rfl 1 rfl ?_
    refine hm_iload_n C d_D_check_38 rfl 2 rfl ?_
    obtain ⟨u4, eu4, hf⟩ := hm_bind hf
    obtain ⟨v5, h5, eh5, hf⟩ := hm_and_of hf
    refine hm_callV (vs := [.int x1, .int x2]) (st := []) (sb := [.int v5]) C (c_D_askedOf eh5) Y_D_askedOf F_3 eu4 k_105 k_106 k_104 (by decide) (by decide) rfl (Nat.le_of_ble_eq_true rfl) d_D_check_39 rfl rfl ?_
    refine hm_aload_n C d_D_check_42 rfl 0 rfl ?_
    obtain ⟨a6, ea6, hf⟩ := hm_bind hf
    refine hm_getR C F_3 1 (by decide) rfl k_28 d_D_check_43 ea6 ?_
    refine hm_iload_n C d_D_check_46 rfl 1 rfl ?_
    obtain ⟨a7, ea7, hf⟩ := hm_bind hf
    refine hm_aaload C d_D_check_47 ea7 ?_
    refine hm_iload_n C d_D_check_48 rfl 2 rfl ?_
    obtain ⟨v8, ev8, hf⟩ := hm_bind hf
    refine hm_iaload C d_D_check_49 ev8 ?_
    refine hm_icmp_eq (tgt := 60) C d_D_check_50 (by decide) (fun z9 => ?_) (fun z9 => ?_)
    · have hf := hm_ifp hf z9
      refine hm_iinc (v := (x2 + (1 : Int32))) (lv' := [(2, .int (x2 + (1 : Int32))), (0, .ref x0), (1, .int x1)]) C d_D_check_60 2 rfl rfl (by decide) rfl ?_
      refine hm_goto (tgt := 25) C d_D_check_63 (by decide) ?_
      refine hm_sub (lv' := [(0, .ref x0), (1, .int x1), (2, .int (x2 + (1 : Int32)))]) [1, 2, 0] rfl ?_
      exact hk25 _ _ _ _ hf
    · have hf := hm_ifn hf z9
      refine hm_sub (lv' := [(1, .int x1), (2, .int x2)]) [1, 2] rfl ?_
      exact w_f_D_check_53 C hr hlk hf
theorem w_D_check_25L {p : Program} {l : Launch} {e : Env} {R : Room} {s : State} {m : MethodId} {args : Array Value} {below : List Frame} {meth : Method} {c : Code} {E : hm_E} {n0 s0 F : Nat} {r : Int32} {h' : hm_T} {k12 : Nat → Int32 → hm_T → Option (Int32 × hm_T)} (C : hm_C E prog_1_method_14_code 3 "DistanceLabels" 3 71 n0 s0 (hm_n h') (hm_s h') p R s m args c) (hr : meth.sig.returnType = (some .int)) (hlk : meth.locks = false) (hk12 : ∀ (y0 : Nat) (y1 : Int32) (g : hm_T), k12 y0 y1 g = some (r, h') → hm_G E 3 n0 s0 (hm_n h') (hm_s h') p l e R s m args below meth c (MQ below (hm_Qc E (some (.int r)) h') args s (hm_n h' - n0) (hm_s h' - s0) (fun q => E.2.2 ≤ q)) 12 [(0, .ref y0), (1, .int y1)] [] g) : ∀ (N : Nat) (x0 : Nat) (x1 : Int32) (x2 : Int32) (h : hm_T), f_D_check_25 F k12 N x0 x1 x2 h = some (r, h') → hm_G E 3 n0 s0 (hm_n h') (hm_s h') p l e R s m args below meth c (MQ below (hm_Qc E (some (.int r)) h') args s (hm_n h' - n0) (hm_s h' - s0) (fun q => E.2.2 ≤ q)) 25 [(0, .ref x0), (1, .int x1), (2, .int x2)] [] h := by
  intro N
  induction N with
  | zero => intro _ _ _ _ hf; cases hf
  | succ n ih => intro x0 x1 x2 h hf; exact w_g_D_check_25 C hr hlk hk12 ih hf
set_option maxRecDepth 20000 in
set_option maxHeartbeats 1000000 in
theorem w_g_D_check_12 {p : Program} {l : Launch} {e : Env} {R : Room} {s : State} {m : MethodId} {args : Array Value} {below : List Frame} {meth : Method} {c : Code} {E : hm_E} {n0 s0 F : Nat} {r : Int32} {h h' : hm_T} {x0 : Nat} {x1 : Int32} {k12 : Nat → Int32 → hm_T → Option (Int32 × hm_T)} (C : hm_C E prog_1_method_14_code 3 "DistanceLabels" 3 71 n0 s0 (hm_n h') (hm_s h') p R s m args c) (hr : meth.sig.returnType = (some .int)) (hlk : meth.locks = false) (hk12 : ∀ (y0 : Nat) (y1 : Int32) (g : hm_T), k12 y0 y1 g = some (r, h') → hm_G E 3 n0 s0 (hm_n h') (hm_s h') p l e R s m args below meth c (MQ below (hm_Qc E (some (.int r)) h') args s (hm_n h' - n0) (hm_s h' - s0) (fun q => E.2.2 ≤ q)) 12 [(0, .ref y0), (1, .int y1)] [] g) (hf : g_D_check_12 F k12 x0 x1 h = some (r, h')) : hm_G E 3 n0 s0 (hm_n h') (hm_s h') p l e R s m args below meth c (MQ below (hm_Qc E (some (.int r)) h') args s (hm_n h' - n0) (hm_s h' - s0) (fun q => E.2.2 ≤ q)) 12 [(0, .ref x0), (1, .int x1)] [] h := by
  unfold g_D_check_12 at hf
  refine hm_iload_n C d_D_check_12 rfl 1 rfl ?_
  refine hm_aload_n C d_D_check_13 rfl 0 rfl ?_
  obtain ⟨a1, ea1, hf⟩ := hm_bind hf
  refine hm_getR C F_3 0 (by decide) rfl k_26 d_D_check_14 ea1 ?_
  obtain ⟨v2, ev2, hf⟩ := hm_bind hf
  refine hm_getIN C F_2 0 (by decide) rfl kF_0 d_D_check_17 ev2 ?_
  refine hm_icmp_ge (tgt := 72) C d_D_check_20 (by decide) (fun z3 => ?_) (fun z3 => ?_)
  · have hf := hm_ifp hf z3
    refine hm_iconst (v := (-1 : Int32)) C d_D_check_72 (by decide) ?_
    exact hm_iret C hr hlk d_D_check_73 hf
  · have hf := hm_ifn hf z3
    refine hm_iconst (v := (0 : Int32)) C d_D_check_23 (by decide) ?_
    refine hm_istore_n (lv' := [(2, .int (0 : Int32)), (0, .ref x0), (1, .int x1)]) C d_D_check_24 rfl (by decide) rfl ?_
    refine hm_sub (lv' := [(0, .ref x0), (1, .int x1), (2, .int (0 : Int32))]) [1, 2, 0] rfl ?_
    exact w_D_check_25L C hr hlk hk12 _ _ _ _ _ hf
theorem w_D_check_12L {p : Program} {l : Launch} {e : Env} {R : Room} {s : State} {m : MethodId} {args : Array Value} {below : List Frame} {meth : Method} {c : Code} {E : hm_E} {n0 s0 F : Nat} {r : Int32} {h' : hm_T} (C : hm_C E prog_1_method_14_code 3 "DistanceLabels" 3 71 n0 s0 (hm_n h') (hm_s h') p R s m args c) (hr : meth.sig.returnType = (some .int)) (hlk : meth.locks = false) : ∀ (N : Nat) (x0 : Nat) (x1 : Int32) (h : hm_T), f_D_check_12 F N x0 x1 h = some (r, h') → hm_G E 3 n0 s0 (hm_n h') (hm_s h') p l e R s m args below meth c (MQ below (hm_Qc E (some (.int r)) h') args s (hm_n h' - n0) (hm_s h' - s0) (fun q => E.2.2 ≤ q)) 12 [(0, .ref x0), (1, .int x1)] [] h := by
  intro N
  induction N with
  | zero => intro _ _ _ hf; cases hf
  | succ n ih => intro x0 x1 h hf; exact w_g_D_check_12 C hr hlk ih hf
set_option maxRecDepth 20000 in
set_option maxHeartbeats 1000000 in
theorem w_f_D_check {p : Program} {l : Launch} {e : Env} {R : Room} {s : State} {m : MethodId} {args : Array Value} {below : List Frame} {meth : Method} {c : Code} {E : hm_E} {n0 s0 F : Nat} {r : Int32} {h h' : hm_T} {x0 : Nat} (C : hm_C E prog_1_method_14_code 3 "DistanceLabels" 3 71 n0 s0 (hm_n h') (hm_s h') p R s m args c) (hr : meth.sig.returnType = (some .int)) (hlk : meth.locks = false) (hf : f_D_check F x0 h = some (r, h')) : hm_G E 3 n0 s0 (hm_n h') (hm_s h') p l e R s m args below meth c (MQ below (hm_Qc E (some (.int r)) h') args s (hm_n h' - n0) (hm_s h' - s0) (fun q => E.2.2 ≤ q)) 0 [(0, .ref x0)] [] h := by
  unfold f_D_check at hf
  refine hm_aload_n C d_D_check_0 rfl 0 rfl ?_
  obtain ⟨v1, ev1, hf⟩ := hm_bind hf
  refine hm_getI C F_3 7 (by decide) rfl k_42 d_D_check_1 ev1 ?_
  refine hm_if_ne (tgt := 10) C d_D_check_4 (by decide) (fun z2 => ?_) (fun z2 => ?_)
  · have hf := hm_ifn hf z2
    refine hm_iconst (v := (0 : Int32)) C d_D_check_10 (by decide) ?_
    refine hm_istore_n (lv' := [(1, .int (0 : Int32)), (0, .ref x0)]) C d_D_check_11 rfl (by decide) rfl ?_
    refine hm_sub (lv' := [(0, .ref x0), (1, .int (0 : Int32))]) [1, 0] rfl ?_
    exact w_D_check_12L C hr hlk _ _ _ _ hf
  · have hf := hm_ifp hf z2
    refine hm_bipush (v := (-4 : Int32)) C d_D_check_7 (by decide) ?_
    exact hm_iret C hr hlk d_D_check_9 hf
set_option maxRecDepth 20000 in
theorem c_D_check {E : hm_E} {l : Launch} {F : Nat} {r : Int32} {h h' : hm_T} {x0 : Nat} (hf : f_D_check F x0 h = some (r, h')) : hm_M E l y_D_check prog_1_method_14_code 3 (some .int) 3 71 [.ref x0] h (some (.int r)) h' :=
  hm_enter (by decide +kernel) (Nat.le_of_ble_eq_true rfl) (m_f_D_check hf) (fun p e R s m below meth c C hr hlk hin => w_f_D_check C hr hlk hf)
