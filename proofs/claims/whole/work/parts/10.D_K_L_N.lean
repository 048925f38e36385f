def f_D_emptyTable_37 (F : Nat) (k11 : Nat → Int32 → hm_T → Option (Nat × hm_T)) (x0 : Nat) (x1 : Int32) (h : hm_T) : Option (Nat × hm_T) :=
  k11 x0 (x1 + (1 : Int32)) h
def g_D_emptyTable_19 (F : Nat) (k11 : Nat → Int32 → hm_T → Option (Nat × hm_T)) (k19 : Nat → Int32 → Int32 → hm_T → Option (Nat × hm_T)) (x0 : Nat) (x1 : Int32) (x2 : Int32) (h : hm_T) : Option (Nat × hm_T) :=
  (if (16 : Int32) ≤ x2 then f_D_emptyTable_37 F k11 x0 x1 h else (hm_ald h x0 x1).bind (fun a2 => (hm_ist h a2 x2 (-1 : Int32)).bind (fun h3 => k19 x0 x1 (x2 + (1 : Int32)) h3)))
def f_D_emptyTable_19 (F : Nat) (k11 : Nat → Int32 → hm_T → Option (Nat × hm_T)) : Nat → Nat → Int32 → Int32 → hm_T → Option (Nat × hm_T)
  | 0 => fun _ _ _ _ => none
  | n + 1 => g_D_emptyTable_19 F k11 (f_D_emptyTable_19 F k11 n)
def g_D_emptyTable_11 (F : Nat) (k11 : Nat → Int32 → hm_T → Option (Nat × hm_T)) (x0 : Nat) (x1 : Int32) (h : hm_T) : Option (Nat × hm_T) :=
  (if (16 : Int32) ≤ x1 then some (x0, h) else f_D_emptyTable_19 F k11 F x0 x1 (0 : Int32) h)
def f_D_emptyTable_11 (F : Nat) : Nat → Nat → Int32 → hm_T → Option (Nat × hm_T)
  | 0 => fun _ _ _ => none
  | n + 1 => g_D_emptyTable_11 F (f_D_emptyTable_11 F n)
def f_D_emptyTable (F : Nat) (h : hm_T) : Option (Nat × hm_T) :=
  hm_and (hm_newg h (16 : Int32) (16 : Int32)) (fun q1 h1 => f_D_emptyTable_11 F F q1 (0 : Int32) h1)
theorem m_f_D_emptyTable_37 {F : Nat} {r : Nat} {h h' : hm_T} {x0 : Nat} {x1 : Int32} {k11 : Nat → Int32 → hm_T → Option (Nat × hm_T)} (hk11 : ∀ (y0 : Nat) (y1 : Int32) (g : hm_T), k11 y0 y1 g = some (r, h') → hm_le g h') (hf : f_D_emptyTable_37 F k11 x0 x1 h = some (r, h')) : hm_le h h' := by
  unfold f_D_emptyTable_37 at hf
  exact (hk11 _ _ _ hf)
theorem m_g_D_emptyTable_19 {F : Nat} {r : Nat} {h h' : hm_T} {x0 : Nat} {x1 : Int32} {x2 : Int32} {k11 : Nat → Int32 → hm_T → Option (Nat × hm_T)} {k19 : Nat → Int32 → Int32 → hm_T → Option (Nat × hm_T)} (hk11 : ∀ (y0 : Nat) (y1 : Int32) (g : hm_T), k11 y0 y1 g = some (r, h') → hm_le g h') (hk19 : ∀ (y0 : Nat) (y1 : Int32) (y2 : Int32) (g : hm_T), k19 y0 y1 y2 g = some (r, h') → hm_le g h') (hf : g_D_emptyTable_19 F k11 k19 x0 x1 x2 h = some (r, h')) : hm_le h h' := by
  unfold g_D_emptyTable_19 at hf
  by_cases z1 : (16 : Int32) ≤ x2
  · have hf := hm_ifp hf z1
    exact (m_f_D_emptyTable_37 hk11 hf)
  · have hf := hm_ifn hf z1
    obtain ⟨a2, ea2, hf⟩ := hm_bind hf
    obtain ⟨h3, eh3, hf⟩ := hm_bind hf
    have mh3 := hm_le.ist eh3
    exact mh3.tr ((hk19 _ _ _ _ hf))
theorem m_D_emptyTable_19L {F : Nat} {r : Nat} {h' : hm_T} {k11 : Nat → Int32 → hm_T → Option (Nat × hm_T)} (hk11 : ∀ (y0 : Nat) (y1 : Int32) (g : hm_T), k11 y0 y1 g = some (r, h') → hm_le g h') : ∀ (N : Nat) (x0 : Nat) (x1 : Int32) (x2 : Int32) (h : hm_T), f_D_emptyTable_19 F k11 N x0 x1 x2 h = some (r, h') → hm_le h h' := by
  intro N
  induction N with
  | zero => intro _ _ _ _ hf; cases hf
  | succ n ih => intro x0 x1 x2 h hf; exact m_g_D_emptyTable_19 hk11 ih hf
theorem m_g_D_emptyTable_11 {F : Nat} {r : Nat} {h h' : hm_T} {x0 : Nat} {x1 : Int32} {k11 : Nat → Int32 → hm_T → Option (Nat × hm_T)} (hk11 : ∀ (y0 : Nat) (y1 : Int32) (g : hm_T), k11 y0 y1 g = some (r, h') → hm_le g h') (hf : g_D_emptyTable_11 F k11 x0 x1 h = some (r, h')) : hm_le h h' := by
  unfold g_D_emptyTable_11 at hf
  by_cases z1 : (16 : Int32) ≤ x1
  · have hf := hm_ifp hf z1
    exact (hm_le.ret hf)
  · have hf := hm_ifn hf z1
    exact (m_D_emptyTable_19L hk11 _ _ _ _ _ hf)
theorem m_D_emptyTable_11L {F : Nat} {r : Nat} {h' : hm_T} : ∀ (N : Nat) (x0 : Nat) (x1 : Int32) (h : hm_T), f_D_emptyTable_11 F N x0 x1 h = some (r, h') → hm_le h h' := by
  intro N
  induction N with
  | zero => intro _ _ _ hf; cases hf
  | succ n ih => intro x0 x1 h hf; exact m_g_D_emptyTable_11 ih hf
theorem m_f_D_emptyTable {F : Nat} {r : Nat} {h h' : hm_T} (hf : f_D_emptyTable F h = some (r, h')) : hm_le h h' := by
  unfold f_D_emptyTable at hf
  obtain ⟨q1, h1, eh1, hf⟩ := hm_and_of hf
  have mh1 := hm_le.newg eh1
  exact mh1.tr ((m_D_emptyTable_11L _ _ _ _ hf))
set_option maxRecDepth 20000 in
set_option maxHeartbeats 1000000 in
theorem w_f_D_emptyTable_37 {p : Program} {l : Launch} {e : Env} {R : Room} {s : State} {m : MethodId} {args : Array Value} {below : List Frame} {meth : Method} {c : Code} {E : hm_E} {n0 s0 F : Nat} {r : Nat} {h h' : hm_T} {x0 : Nat} {x1 : Int32} {k11 : Nat → Int32 → hm_T → Option (Nat × hm_T)} (C : hm_C E prog_1_method_35_code 3 "DistanceLabels" 0 0 n0 s0 (hm_n h') (hm_s h') p R s m args c) (hr : meth.sig.returnType = (some (.array (.array .int)))) (hlk : meth.locks = false) (hk11 : ∀ (y0 : Nat) (y1 : Int32) (g : hm_T), k11 y0 y1 g = some (r, h') → hm_G E 3 n0 s0 (hm_n h') (hm_s h') p l e R s m args below meth c (MQ below (hm_Qc E (some (.ref r)) h') args s (hm_n h' - n0) (hm_s h' - s0) (fun q => E.2.2 ≤ q)) 11 [(0, .ref y0), (1, .int y1)] [] g) (hf : f_D_emptyTable_37 F k11 x0 x1 h = some (r, h')) : hm_G E 3 n0 s0 (hm_n h') (hm_s h') p l e R s m args below meth c (MQ below (hm_Qc E (some (.ref r)) h') args s (hm_n h' - n0) (hm_s h' - s0) (fun q => E.2.2 ≤ q)) 37 [(0, .ref x0), (1, .int x1)] [] h := by
  unfold f_D_emptyTable_37 at hf
  refine hm_iinc (v := (x1 + (1 : Int32))) (lv' := [(1, .int (x1 + (1 : Int32))), (0, .ref x0)]) C d_D_emptyTable_37 1 rfl rfl (by decide) rfl ?_
  refine hm_goto (tgt := 11) C d_D_emptyTable_40 (by decide) ?_
  refine hm_sub (lv' := [(0, .ref x0), (1, .int (x1 + (1 : Int32)))]) [1, 0] rfl ?_
  exact hk11 _ _ _ hf
set_option maxRecDepth 20000 in
set_option maxHeartbeats 1000000 in
theorem w_g_D_emptyTable_19 {p : Program} {l : Launch} {e : Env} {R : Room} {s : State} {m : MethodId} {args : Array Value} {below : List Frame} {meth : Method} {c : Code} {E : hm_E} {n0 s0 F : Nat} {r : Nat} {h h' : hm_T} {x0 : Nat} {x1 : Int32} {x2 : Int32} {k11 : Nat → Int32 → hm_T → Option (Nat × hm_T)} {k19 : Nat → Int32 → Int32 → hm_T → Option (Nat × hm_T)} (C : hm_C E prog_1_method_35_code 3 "DistanceLabels" 0 0 n0 s0 (hm_n h') (hm_s h') p R s m args c) (hr : meth.sig.returnType = (some (.array (.array .int)))) (hlk : meth.locks = false) (hk11 : ∀ (y0 : Nat) (y1 : Int32) (g : hm_T), k11 y0 y1 g = some (r, h') → hm_G E 3 n0 s0 (hm_n h') (hm_s h') p l e R s m args below meth c (MQ below (hm_Qc E (some (.ref r)) h') args s (hm_n h' - n0) (hm_s h' - s0) (fun q => E.2.2 ≤ q)) 11 [(0, .ref y0), (1, .int y1)] [] g) (hk19 : ∀ (y0 : Nat) (y1 : Int32) (y2 : Int32) (g : hm_T), k19 y0 y1 y2 g = some (r, h') → hm_G E 3 n0 s0 (hm_n h') (hm_s h') p l e R s m args below meth c (MQ below (hm_Qc E (some (.ref r)) h') args s (hm_n h' - n0) (hm_s h' - s0) (fun q => E.2.2 ≤ q)) 19 [(0, .ref y0), (1, .int y1), (2, .int y2)] [] g) (hf : g_D_emptyTable_19 F k11 k19 x0 x1 x2 h = some (r, h')) : hm_G E 3 n0 s0 (hm_n h') (hm_s h') p l e R s m args below meth c (MQ below (hm_Qc E (some (.ref r)) h') args s (hm_n h' - n0) (hm_s h' - s0) (fun q => E.2.2 ≤ q)) 19 [(0, .ref x0), (1, .int x1), (2, .int x2)] [] h := by
  unfold g_D_emptyTable_19 at hf
  refine hm_iload_n C d_D_emptyTable_19 rfl 2 rfl ?_
  refine hm_bipush (v := (16 : Int32)) C d_D_emptyTable_20 (by decide) ?_
  refine hm_icmp_ge (tgt := 37) C d_D_emptyTable_22 (by decide) (fun z1 => ?_) (fun z1 => ?_)
  · have hf := hm_ifp hf z1
    refine hm_sub (lv' := [(0, .ref x0), (1, .int x1)]) [0, 1] rfl ?_
    exact w_f_D_emptyTable_37 C hr hlk hk11 hf
  · have hf := hm_ifn hf z1
    refine hm_aload_n C d_D_emptyTable_25 rfl 0 rfl ?_
    refine hm_iload_n C d_D_emptyTable_26 rfl 1 rfl ?_
    obtain ⟨a2, ea2, hf⟩ := hm_bind hf
    refine hm_aaload C d_D_emptyTable_27 ea2 ?_
    refine hm_iload_n C d_D_emptyTable_28 rfl 2 rfl ?_
    refine hm_iconst (v := (-1 : Int32)) C d_D_emptyTable_29 (by decide) ?_
    obtain ⟨h3, eh3, hf⟩ := hm_bind hf
    refine hm_iastore C d_D_emptyTable_30 eh3 ?_
    refine hm_iinc (v := (x2 + (1 : Int32))) (lv' := [(2, .int (x2 + (1 : Int32))), (0, .ref x0), (1, .int x1)]) C d_D_emptyTable_31 2 rfl rfl (by decide) rfl ?_
    refine hm_goto (tgt := 19) C d_D_emptyTable_34 (by decide) ?_
    refine hm_sub (lv' := [(0, .ref x0), (1, .int x1), (2, .int (x2 + (1 : Int32)))]) [1, 2, 0] rfl ?_
    exact hk19 _ _ _ _ hf
theorem w_D_emptyTable_19L {p : Program} {l : Launch} {e : Env} {R : Room} {s : State} {m : MethodId} {args : Array Value} {below : List Frame} {meth : Method} {c : Code} {E : hm_E} {n0 s0 F : Nat} {r : Nat} {h' : hm_T} {k11 : Nat → Int32 → hm_T → Option (Nat × hm_T)} (C : hm_C E prog_1_method_35_code 3 "DistanceLabels" 0 0 n0 s0 (hm_n h') (hm_s h') p R s m args c) (hr : meth.sig.returnType = (some (.array (.array .int)))) (hlk : meth.locks = false) (hk11 : ∀ (y0 : Nat) (y1 : Int32) (g : hm_T), k11 y0 y1 g = some (r, h') → hm_G E 3 n0 s0 (hm_n h') (hm_s h') p l e R s m args below meth c (MQ below (hm_Qc E (some (.ref r)) h') args s (hm_n h' - n0) (hm_s h' - s0) (fun q => E.2.2 ≤ q)) 11 [(0, .ref y0), (1, .int y1)] [] g) : ∀ (N : Nat) (x0 : Nat) (x1 : Int32) (x2 : Int32) (h : hm_T), f_D_emptyTable_19 F k11 N x0 x1 x2 h = some (r, h') → hm_G E 3 n0 s0 (hm_n h') (hm_s h') p l e R s m args below meth c (MQ below (hm_Qc E (some (.ref r)) h') args s (hm_n h' - n0) (hm_s h' - s0) (fun q => E.2.2 ≤ q)) 19 [(0, .ref x0), (1, .int x1), (2, .int x2)] [] h := by
  intro N
  induction N with
  | zero => intro _ _ _ _ hf; cases hf
  | succ n ih => intro x0 x1 x2 h hf; exact w_g_D_emptyTable_19 C hr hlk hk11 ih hf
set_option maxRecDepth 20000 in
set_option maxHeartbeats 1000000 in
theorem w_g_D_emptyTable_11 {p : Program} {l : Launch} {e : Env} {R : Room} {s : State} {m : MethodId} {args : Array Value} {below : List Frame} {meth : Method} {c : Code} {E : hm_E} {n0 s0 F : Nat} {r : Nat} {h h' : hm_T} {x0 : Nat} {x1 : Int32} {k11 : Nat → Int32 → hm_T → Option (Nat × hm_T)} (C : hm_C E prog_1_method_35_code 3 "DistanceLabels" 0 0 n0 s0 (hm_n h') (hm_s h') p R s m args c) (hr : meth.sig.returnType = (some (.array (.array .int)))) (hlk : meth.locks = false) (hk11 : ∀ (y0 : Nat) (y1 : Int32) (g : hm_T), k11 y0 y1 g = some (r, h') → hm_G E 3 n0 s0 (hm_n h') (hm_s h') p l e R s m args below meth c (MQ below (hm_Qc E (some (.ref r)) h') args s (hm_n h' - n0) (hm_s h' - s0) (fun q => E.2.2 ≤ q)) 11 [(0, .ref y0), (1, .int y1)] [] g) (hf : g_D_emptyTable_11 F k11 x0 x1 h = some (r, h')) : hm_G E 3 n0 s0 (hm_n h') (hm_s h') p l e R s m args below meth c (MQ below (hm_Qc E (some (.ref r)) h') args s (hm_n h' - n0) (hm_s h' - s0) (fun q => E.2.2 ≤ q)) 11 [(0, .ref x0), (1, .int x1)] [] h := by
  unfold g_D_emptyTable_11 at hf
  refine hm_iload_n C d_D_emptyTable_11 rfl 1 rfl ?_
  refine hm_bipush (v := (16 : Int32)) C d_D_emptyTable_12 (by decide) ?_
  refine hm_icmp_ge (tgt := 43) C d_D_emptyTable_14 (by decide) (fun z1 => ?_) (fun z1 => ?_)
  · have hf := hm_ifp hf z1
    refine hm_aload_n C d_D_emptyTable_43 rfl 0 rfl ?_
    exact hm_aret C hr (Or.inr ⟨_, rfl⟩) hlk d_D_emptyTable_44 hf
  · have hf := hm_ifn hf z1
    refine hm_iconst (v := (0 : Int32)) C d_D_emptyTable_17 (by decide) ?_
    refine hm_istore_n (lv' := [(2, .int (0 : Int32)), (0, .ref x0), (1, .int x1)]) C d_D_emptyTable_18 rfl (by decide) rfl ?_
    refine hm_sub (lv' := [(0, .ref x0), (1, .int x1), (2, .int (0 : Int32))]) [1, 2, 0] rfl ?_
    exact w_D_emptyTable_19L C hr hlk hk11 _ _ _ _ _ hf
theorem w_D_emptyTable_11L {p : Program} {l : Launch} {e : Env} {R : Room} {s : State} {m : MethodId} {args : Array Value} {below : List Frame} {meth : Method} {c : Code} {E : hm_E} {n0 s0 F : Nat} {r : Nat} {h' : hm_T} (C : hm_C E prog_1_method_35_code 3 "DistanceLabels" 0 0 n0 s0 (hm_n h') (hm_s h') p R s m args c) (hr : meth.sig.returnType = (some (.array (.array .int)))) (hlk : meth.locks = false) : ∀ (N : Nat) (x0 : Nat) (x1 : Int32) (h : hm_T), f_D_emptyTable_11 F N x0 x1 h = some (r, h') → hm_G E 3 n0 s0 (hm_n h') (hm_s h') p l e R s m args below meth c (MQ below (hm_Qc E (some (.ref r)) h') args s (hm_n h' - n0) (hm_s h' - s0) (fun q => E.2.2 ≤ q)) 11 [(0, .ref x0), (1, .int x1)] [] h := by
  intro N
  induction N with
  | zero => intro _ _ _ hf; cases hf
  | succ n ih => intro x0 x1 h hf; exact w_g_D_emptyTable_11 C hr hlk ih hf
set_option maxRecDepth 20000 in
set_option maxHeartbeats 1000000 in
theorem w_f_D_emptyTable {p : Program} {l : Launch} {e : Env} {R : Room} {s : State} {m : MethodId} {args : Array Value} {below : List Frame} {meth : Method} {c : Code} {E : hm_E} {n0 s0 F : Nat} {r : Nat} {h h' : hm_T} (C : hm_C E prog_1_method_35_code 3 "DistanceLabels" 0 0 n0 s0 (hm_n h') (hm_s h') p R s m args c) (hr : meth.sig.returnType = (some (.array (.array .int)))) (hlk : meth.locks = false) (hf : f_D_emptyTable F h = some (r, h')) : hm_G E 3 n0 s0 (hm_n h') (hm_s h') p l e R s m args below meth c (MQ below (hm_Qc E (some (.ref r)) h') args s (hm_n h' - n0) (hm_s h' - s0) (fun q => E.2.2 ≤ q)) 0 [] [] h := by
  unfold f_D_emptyTable at hf
  refine hm_bipush (v := (16 : Int32)) C d_D_emptyTable_0 (by decide) ?_
  refine hm_bipush (v := (16 : Int32)) C d_D_emptyTable_2 (by decide) ?_
  obtain ⟨q1, h1, eh1, hf⟩ := hm_and_of hf
  refine hm_newG C kA_int k_0 d_D_emptyTable_4 eh1 ?_
  refine hm_astore_n (lv' := [(0, .ref q1)]) C d_D_emptyTable_8 rfl (by decide) rfl ?_
  refine hm_iconst (v := (0 : Int32)) C d_D_emptyTable_9 (by decide) ?_
  refine hm_istore_n (lv' := [(1, .int (0 : Int32)), (0, .ref q1)]) C d_D_emptyTable_10 rfl (by decide) rfl ?_
  refine hm_sub (lv' := [(0, .ref q1), (1, .int (0 : Int32))]) [1, 0] rfl ?_
  exact w_D_emptyTable_11L C hr hlk _ _ _ _ hf
set_option maxRecDepth 20000 in
theorem c_D_emptyTable {E : hm_E} {l : Launch} {F : Nat} {r : Nat} {h h' : hm_T} (hf : f_D_emptyTable F h = some (r, h')) : hm_M E l y_D_emptyTable prog_1_method_35_code 3 (some (.array (.array .int))) 0 0 [] h (some (.ref r)) h' :=
  hm_enter (by decide +kernel) (Nat.le_of_ble_eq_true rfl) (m_f_D_emptyTable hf) (fun p e R s m below meth c C hr hlk hin => w_f_D_emptyTable C hr hlk hf)
def f_N_init (F : Nat) (x0 : Nat) (h : hm_T) : Option hm_T :=
  (hm_pi 2 5 0 h x0 (0 : Int32)).bind (fun h1 => (hm_pi 2 5 1 h1 x0 (0 : Int32)).bind (fun h2 => hm_and (f_D_emptyTable F h2) (fun a3 h3 => (hm_pr 2 5 2 h3 x0 a3).bind (fun h4 => hm_and (hm_newa 0 h4 (16 : Int32)) (fun q5 h5 => (hm_pr 2 5 3 h5 x0 q5).bind (fun h6 => hm_and (hm_newa 0 h6 (16 : Int32)) (fun q7 h7 => (hm_pr 2 5 4 h7 x0 q7).bind (fun h8 => some h8))))))))
theorem m_f_N_init {F : Nat} {h h' : hm_T} {x0 : Nat} (hf : f_N_init F x0 h = some h') : hm_le h h' := by
  unfold f_N_init at hf
  obtain ⟨h1, eh1, hf⟩ := hm_bind hf
  have mh1 := hm_le.pi eh1
  obtain ⟨h2, eh2, hf⟩ := hm_bind hf
  have mh2 := hm_le.pi eh2
  obtain ⟨a3, h3, eh3, hf⟩ := hm_and_of hf
  have mh3 := m_f_D_emptyTable eh3
  obtain ⟨h4, eh4, hf⟩ := hm_bind hf
  have mh4 := hm_le.pr eh4
  obtain ⟨q5, h5, eh5, hf⟩ := hm_and_of hf
  have mh5 := hm_le.newa eh5
  obtain ⟨h6, eh6, hf⟩ := hm_bind hf
  have mh6 := hm_le.pr eh6
  obtain ⟨q7, h7, eh7, hf⟩ := hm_and_of hf
  have mh7 := hm_le.newa eh7
  obtain ⟨h8, eh8, hf⟩ := hm_bind hf
  have mh8 := hm_le.pr eh8
  exact mh1.tr (mh2.tr (mh3.tr (mh4.tr (mh5.tr (mh6.tr (mh7.tr (mh8.tr ((hm_le.retv hf)))))))))
set_option maxRecDepth 20000 in
set_option maxHeartbeats 1000000 in
theorem w_f_N_init {p : Program} {l : Launch} {e : Env} {R : Room} {s : State} {m : MethodId} {args : Array Value} {below : List Frame} {meth : Method} {c : Code} {E : hm_E} {n0 s0 F : Nat} {h h' : hm_T} {x0 : Nat} (C : hm_C E prog_4_method_1_code 1 "DistanceLabels$Net" 1 22 n0 s0 (hm_n h') (hm_s h') p R s m args c) (hr : meth.sig.returnType = none) (hlk : meth.locks = false) (hin : meth.name = "<init>") (hf : f_N_init F x0 h = some h') : hm_G E 1 n0 s0 (hm_n h') (hm_s h') p l e R s m args below meth c (MQ below (hm_Qc E none h') args s (hm_n h' - n0) (hm_s h' - s0) (fun q => E.2.2 ≤ q)) 0 [(0, .ref x0)] [] h := by
  unfold f_N_init at hf
  refine hm_aload_n C d_N_init_0 rfl 0 rfl ?_
  refine hm_objInit C k_1 k_2 k_3 (by decide) (by decide) d_N_init_1 ?_
  refine hm_aload_n C d_N_init_4 rfl 0 rfl ?_
  refine hm_iconst (v := (0 : Int32)) C d_N_init_5 (by decide) ?_
  obtain ⟨h1, eh1, hf⟩ := hm_bind hf
  refine hm_putI C F_2 0 (by decide) rfl k_4 (Or.inl rfl) rfl d_N_init_6 eh1 ?_
  refine hm_aload_n C d_N_init_9 rfl 0 rfl ?_
  refine hm_iconst (v := (0 : Int32)) C d_N_init_10 (by decide) ?_
  obtain ⟨h2, eh2, hf⟩ := hm_bind hf
  refine hm_putI C F_2 1 (by decide) rfl k_5 (Or.inl rfl) rfl d_N_init_11 eh2 ?_
  refine hm_aload_n C d_N_init_14 rfl 0 rfl ?_
  obtain ⟨a3, h3, eh3, hf⟩ := hm_and_of hf
  refine hm_callSN (vs := []) (st := [.ref x0]) (sb := [.ref a3, .ref x0]) C (c_D_emptyTable eh3) Y_D_emptyTable k_6 kM_0 (by decide) (by decide) rfl (Nat.le_of_ble_eq_true rfl) d_N_init_15 rfl rfl ?_
  obtain ⟨h4, eh4, hf⟩ := hm_bind hf
  refine hm_putR C F_2 2 (by decide) rfl k_7 (Or.inr ⟨rfl, hin, rfl⟩) (Or.inr ⟨_, rfl⟩) d_N_init_18 eh4 ?_
  refine hm_aload_n C d_N_init_21 rfl 0 rfl ?_
  refine hm_bipush (v := (16 : Int32)) C d_N_init_22 (by decide) ?_
  obtain ⟨q5, h5, eh5, hf⟩ := hm_and_of hf
  refine hm_newAI C kA_int d_N_init_24 eh5 ?_
  obtain ⟨h6, eh6, hf⟩ := hm_bind hf
  refine hm_putR C F_2 3 (by decide) rfl k_8 (Or.inr ⟨rfl, hin, rfl⟩) (Or.inr ⟨_, rfl⟩) d_N_init_26 eh6 ?_
  refine hm_aload_n C d_N_init_29 rfl 0 rfl ?_
  refine hm_bipush (v := (16 : Int32)) C d_N_init_30 (by decide) ?_
  obtain ⟨q7, h7, eh7, hf⟩ := hm_and_of hf
  refine hm_newAI C kA_int d_N_init_32 eh7 ?_
  obtain ⟨h8, eh8, hf⟩ := hm_bind hf
  refine hm_putR C F_2 4 (by decide) rfl k_9 (Or.inr ⟨rfl, hin, rfl⟩) (Or.inr ⟨_, rfl⟩) d_N_init_34 eh8 ?_
  exact hm_vret C hr hlk d_N_init_37 hf
set_option maxRecDepth 20000 in
theorem c_N_init {E : hm_E} {l : Launch} {F : Nat} {h h' : hm_T} {x0 : Nat} (hf : f_N_init F x0 h = some h') : hm_M E l y_N_init prog_4_method_1_code 1 none 1 22 [.ref x0] h none h' :=
  hm_enter (by decide +kernel) (Nat.le_of_ble_eq_true rfl) (m_f_N_init hf) (fun p e R s m below meth c C hr hlk hin => w_f_N_init C hr hlk hin hf)
def f_L_init (F : Nat) (x0 : Nat) (h : hm_T) : Option hm_T :=
  hm_and (f_D_emptyTable F h) (fun a1 h1 => (hm_pr 1 2 0 h1 x0 a1).bind (fun h2 => hm_and (f_D_emptyTable F h2) (fun a3 h3 => (hm_pr 1 2 1 h3 x0 a3).bind (fun h4 => some h4))))
theorem m_f_L_init {F : Nat} {h h' : hm_T} {x0 : Nat} (hf : f_L_init F x0 h = some h') : hm_le h h' := by
  unfold f_L_init at hf
  obtain ⟨a1, h1, eh1, hf⟩ := hm_and_of hf
  have mh1 := m_f_D_emptyTable eh1
  obtain ⟨h2, eh2, hf⟩ := hm_bind hf
  have mh2 := hm_le.pr eh2
  obtain ⟨a3, h3, eh3, hf⟩ := hm_and_of hf
  have mh3 := m_f_D_emptyTable eh3
  obtain ⟨h4, eh4, hf⟩ := hm_bind hf
  have mh4 := hm_le.pr eh4
  exact mh1.tr (mh2.tr (mh3.tr (mh4.tr ((hm_le.retv hf)))))
set_option maxRecDepth 20000 in
set_option maxHeartbeats 1000000 in
theorem w_f_L_init {p : Program} {l : Launch} {e : Env} {R : Room} {s : State} {m : MethodId} {args : Array Value} {below : List Frame} {meth : Method} {c : Code} {E : hm_E} {n0 s0 F : Nat} {h h' : hm_T} {x0 : Nat} (C : hm_C E prog_3_method_1_code 1 "DistanceLabels$Labels" 1 22 n0 s0 (hm_n h') (hm_s h') p R s m args c) (hr : meth.sig.returnType = none) (hlk : meth.locks = false) (hin : meth.name = "<init>") (hf : f_L_init F x0 h = some h') : hm_G E 1 n0 s0 (hm_n h') (hm_s h') p l e R s m args below meth c (MQ below (hm_Qc E none h') args s (hm_n h' - n0) (hm_s h' - s0) (fun q => E.2.2 ≤ q)) 0 [(0, .ref x0)] [] h := by
  unfold f_L_init at hf
  refine hm_aload_n C d_L_init_0 rfl 0 rfl ?_
  refine hm_objInit C k_10 k_2 k_3 (by decide) (by decide) d_L_init_1 ?_
  refine hm_aload_n C d_L_init_4 rfl 0 rfl ?_
  obtain ⟨a1, h1, eh1, hf⟩ := hm_and_of hf
  refine hm_callSN (vs := []) (st := [.ref x0]) (sb := [.ref a1, .ref x0]) C (c_D_emptyTable eh1) Y_D_emptyTable k_6 kM_1 (by decide) (by decide) rfl (Nat.le_of_ble_eq_true rfl) d_L_init_5 rfl rfl ?_
  obtain ⟨h2, eh2, hf⟩ := hm_bind hf
  refine hm_putR C F_1 0 (by decide) rfl k_11 (Or.inr ⟨rfl, hin, rfl⟩) (Or.inr ⟨_, rfl⟩) d_L_init_8 eh2 ?_
  refine hm_aload_n C d_L_init_11 rfl 0 rfl ?_
  obtain ⟨a3, h3, eh3, hf⟩ := hm_and_of hf
  refine hm_callSN (vs := []) (st := [.ref x0]) (sb := [.ref a3, .ref x0]) C (c_D_emptyTable eh3) Y_D_emptyTable k_6 kM_1 (by decide) (by decide) rfl (Nat.le_of_ble_eq_true rfl) d_L_init_12 rfl rfl ?_
  obtain ⟨h4, eh4, hf⟩ := hm_bind hf
  refine hm_putR C F_1 1 (by decide) rfl k_12 (Or.inr ⟨rfl, hin, rfl⟩) (Or.inr ⟨_, rfl⟩) d_L_init_15 eh4 ?_
  exact hm_vret C hr hlk d_L_init_18 hf
set_option maxRecDepth 20000 in
theorem c_L_init {E : hm_E} {l : Launch} {F : Nat} {h h' : hm_T} {x0 : Nat} (hf : f_L_init F x0 h = some h') : hm_M E l y_L_init prog_3_method_1_code 1 none 1 22 [.ref x0] h none h' :=
  hm_enter (by decide +kernel) (Nat.le_of_ble_eq_true rfl) (m_f_L_init hf) (fun p e R s m below meth c C hr hlk hin => w_f_L_init C hr hlk hin hf)
def f_K_init (F : Nat) (x0 : Nat) (h : hm_T) : Option hm_T :=
  hm_and (f_D_emptyTable F h) (fun a1 h1 => (hm_pr 0 7 0 h1 x0 a1).bind (fun h2 => hm_and (f_D_emptyTable F h2) (fun a3 h3 => (hm_pr 0 7 1 h3 x0 a3).bind (fun h4 => hm_and (hm_newa 0 h4 (1120 : Int32)) (fun q5 h5 => (hm_pr 0 7 2 h5 x0 q5).bind (fun h6 => hm_and (hm_newa 0 h6 (1120 : Int32)) (fun q7 h7 => (hm_pr 0 7 3 h7 x0 q7).bind (fun h8 => (hm_pi 0 7 4 h8 x0 (0 : Int32)).bind (fun h9 => hm_and (hm_newa 0 h9 (16 : Int32)) (fun q10 h10 => (hm_pr 0 7 5 h10 x0 q10).bind (fun h11 => hm_and (hm_newa 0 h11 (16 : Int32)) (fun q12 h12 => (hm_pr 0 7 6 h12 x0 q12).bind (fun h13 => some h13)))))))))))))
theorem m_f_K_init {F : Nat} {h h' : hm_T} {x0 : Nat} (hf : f_K_init F x0 h = some h') : hm_le h h' := by
  unfold f_K_init at hf
  obtain ⟨a1, h1, eh1, hf⟩ := hm_and_of hf
  have mh1 := m_f_D_emptyTable eh1
  obtain ⟨h2, eh2, hf⟩ := hm_bind hf
  have mh2 := hm_le.pr eh2
  obtain ⟨a3, h3, eh3, hf⟩ := hm_and_of hf
  have mh3 := m_f_D_emptyTable eh3
  obtain ⟨h4, eh4, hf⟩ := hm_bind hf
  have mh4 := hm_le.pr eh4
  obtain ⟨q5, h5, eh5, hf⟩ := hm_and_of hf
  have mh5 := hm_le.newa eh5
  obtain ⟨h6, eh6, hf⟩ := hm_bind hf
  have mh6 := hm_le.pr eh6
  obtain ⟨q7, h7, eh7, hf⟩ := hm_and_of hf
  have mh7 := hm_le.newa eh7
  obtain ⟨h8, eh8, hf⟩ := hm_bind hf
  have mh8 := hm_le.pr eh8
  obtain ⟨h9, eh9, hf⟩ := hm_bind hf
  have mh9 := hm_le.pi eh9
  obtain ⟨q10, h10, eh10, hf⟩ := hm_and_of hf
  have mh10 := hm_le.newa eh10
  obtain ⟨h11, eh11, hf⟩ := hm_bind hf
  have mh11 := hm_le.pr eh11
  obtain ⟨q12, h12, eh12, hf⟩ := hm_and_of hf
  have mh12 := hm_le.newa eh12
  obtain ⟨h13, eh13, hf⟩ := hm_bind hf
  have mh13 := hm_le.pr eh13
  exact mh1.tr (mh2.tr (mh3.tr (mh4.tr (mh5.tr (mh6.tr (mh7.tr (mh8.tr (mh9.tr (mh10.tr (mh11.tr (mh12.tr (mh13.tr ((hm_le.retv hf))))))))))))))
set_option maxRecDepth 20000 in
set_option maxHeartbeats 1000000 in
theorem w_f_K_init {p : Program} {l : Launch} {e : Env} {R : Room} {s : State} {m : MethodId} {args : Array Value} {below : List Frame} {meth : Method} {c : Code} {E : hm_E} {n0 s0 F : Nat} {h h' : hm_T} {x0 : Nat} (C : hm_C E prog_2_method_1_code 1 "DistanceLabels$Contraction" 1 22 n0 s0 (hm_n h') (hm_s h') p R s m args c) (hr : meth.sig.returnType = none) (hlk : meth.locks = false) (hin : meth.name = "<init>") (hf : f_K_init F x0 h = some h') : hm_G E 1 n0 s0 (hm_n h') (hm_s h') p l e R s m args below meth c (MQ below (hm_Qc E none h') args s (hm_n h' - n0) (hm_s h' - s0) (fun q => E.2.2 ≤ q)) 0 [(0, .ref x0)] [] h := by
  unfold f_K_init at hf
  refine hm_aload_n C d_K_init_0 rfl 0 rfl ?_
  refine hm_objInit C k_13 k_2 k_3 (by decide) (by decide) d_K_init_1 ?_
  refine hm_aload_n C d_K_init_4 rfl 0 rfl ?_
  obtain ⟨a1, h1, eh1, hf⟩ := hm_and_of hf
  refine hm_callSN (vs := []) (st := [.ref x0]) (sb := [.ref a1, .ref x0]) C (c_D_emptyTable eh1) Y_D_emptyTable k_6 kM_2 (by decide) (by decide) rfl (Nat.le_of_ble_eq_true rfl) d_K_init_5 rfl rfl ?_
  obtain ⟨h2, eh2, hf⟩ := hm_bind hf
  refine hm_putR C F_0 0 (by decide) rfl k_14 (Or.inr ⟨rfl, hin, rfl⟩) (Or.inr ⟨_, rfl⟩) d_K_init_8 eh2 ?_
  refine hm_aload_n C d_K_init_11 rfl 0 rfl ?_
  obtain ⟨a3, h3, eh3, hf⟩ := hm_and_of hf
  refine hm_callSN (vs := []) (st := [.ref x0]) (sb := [.ref a3, .ref x0]) C (c_D_emptyTable eh3) Y_D_emptyTable k_6 kM_2 (by decide) (by decide) rfl (Nat.le_of_ble_eq_true rfl) d_K_init_12 rfl rfl ?_
  obtain ⟨h4, eh4, hf⟩ := hm_bind hf
  refine hm_putR C F_0 1 (by decide) rfl k_15 (Or.inr ⟨rfl, hin, rfl⟩) (Or.inr ⟨_, rfl⟩) d_K_init_15 eh4 ?_
  refine hm_aload_n C d_K_init_18 rfl 0 rfl ?_
  refine hm_sipush (v := (1120 : Int32)) C d_K_init_19 (by decide) ?_
  obtain ⟨q5, h5, eh5, hf⟩ := hm_and_of hf
  refine hm_newAI C kA_int d_K_init_22 eh5 ?_
  obtain ⟨h6, eh6, hf⟩ := hm_bind hf
  refine hm_putR C F_0 2 (by decide) rfl k_16 (Or.inr ⟨rfl, hin, rfl⟩) (Or.inr ⟨_, rfl⟩) d_K_init_24 eh6 ?_
  refine hm_aload_n C d_K_init_27 rfl 0 rfl ?_
  refine hm_sipush (v := (1120 : Int32)) C d_K_init_28 (by decide) ?_
  obtain ⟨q7, h7, eh7, hf⟩ := hm_and_of hf
  refine hm_newAI C kA_int d_K_init_31 eh7 ?_
  obtain ⟨h8, eh8, hf⟩ := hm_bind hf
  refine hm_putR C F_0 3 (by decide) rfl k_17 (Or.inr ⟨rfl, hin, rfl⟩) (Or.inr ⟨_, rfl⟩) d_K_init_33 eh8 ?_
  refine hm_aload_n C d_K_init_36 rfl 0 rfl ?_
  refine hm_iconst (v := (0 : Int32)) C d_K_init_37 (by decide) ?_
  obtain ⟨h9, eh9, hf⟩ := hm_bind hf
  refine hm_putI C F_0 4 (by decide) rfl k_18 (Or.inl rfl) rfl d_K_init_38 eh9 ?_
  refine hm_aload_n C d_K_init_41 rfl 0 rfl ?_
  refine hm_bipush (v := (16 : Int32)) C d_K_init_42 (by decide) ?_
  obtain ⟨q10, h10, eh10, hf⟩ := hm_and_of hf
  refine hm_newAI C kA_int d_K_init_44 eh10 ?_
  obtain ⟨h11, eh11, hf⟩ := hm_bind hf
  refine hm_putR C F_0 5 (by decide) rfl k_19 (Or.inr ⟨rfl, hin, rfl⟩) (Or.inr ⟨_, rfl⟩) d_K_init_46 eh11 ?_
  refine hm_aload_n C d_K_init_49 rfl 0 rfl ?_
  refine hm_bipush (v := (16 : Int32)) C d_K_init_50 (by decide) ?_
  obtain ⟨q12, h12, eh12, hf⟩ := hm_and_of hf
  refine hm_newAI C kA_int d_K_init_52 eh12 ?_
  obtain ⟨h13, eh13, hf⟩ := hm_bind hf
  refine hm_putR C F_0 6 (by decide) rfl k_20 (Or.inr ⟨rfl, hin, rfl⟩) (Or.inr ⟨_, rfl⟩) d_K_init_54 eh13 ?_
  exact hm_vret C hr hlk d_K_init_57 hf
set_option maxRecDepth 20000 in
theorem c_K_init {E : hm_E} {l : Launch} {F : Nat} {h h' : hm_T} {x0 : Nat} (hf : f_K_init F x0 h = some h') : hm_M E l y_K_init prog_2_method_1_code 1 none 1 22 [.ref x0] h none h' :=
  hm_enter (by decide +kernel) (Nat.le_of_ble_eq_true rfl) (m_f_K_init hf) (fun p e R s m below meth c C hr hlk hin => w_f_K_init C hr hlk hin hf)
def f_D_init (F : Nat) (x0 : Nat) (h : hm_T) : Option hm_T :=
  hm_and (hm_new 2 5 h) (fun q1 h1 => (f_N_init F q1 h1).bind (fun h2 => (hm_pr 3 9 0 h2 x0 q1).bind (fun h3 => hm_and (f_D_emptyTable F h3) (fun a4 h4 => (hm_pr 3 9 1 h4 x0 a4).bind (fun h5 => hm_and (hm_new 1 2 h5) (fun q6 h6 => (f_L_init F q6 h6).bind (fun h7 => (hm_pr 3 9 2 h7 x0 q6).bind (fun h8 => hm_and (hm_new 1 2 h8) (fun q9 h9 => (f_L_init F q9 h9).bind (fun h10 => (hm_pr 3 9 3 h10 x0 q9).bind (fun h11 => hm_and (hm_new 0 7 h11) (fun q12 h12 => (f_K_init F q12 h12).bind (fun h13 => (hm_pr 3 9 4 h13 x0 q12).bind (fun h14 => hm_and (hm_newa 2 h14 (16 : Int32)) (fun q15 h15 => (hm_pr 3 9 5 h15 x0 q15).bind (fun h16 => (hm_pi 3 9 6 h16 x0 (0 : Int32)).bind (fun h17 => (hm_pz 3 9 7 h17 x0 (0 : Int32)).bind (fun h18 => (hm_pi 3 9 8 h18 x0 (0 : Int32)).bind (fun h19 => some h19)))))))))))))))))))
theorem m_f_D_init {F : Nat} {h h' : hm_T} {x0 : Nat} (hf : f_D_init F x0 h = some h') : hm_le h h' := by
  unfold f_D_init at hf
  obtain ⟨q1, h1, eh1, hf⟩ := hm_and_of hf
  have mh1 := hm_le.new eh1
  obtain ⟨h2, eh2, hf⟩ := hm_bind hf
  have mh2 := m_f_N_init eh2
  obtain ⟨h3, eh3, hf⟩ := hm_bind hf
  have mh3 := hm_le.pr eh3
  obtain ⟨a4, h4, eh4, hf⟩ := hm_and_of hf
  have mh4 := m_f_D_emptyTable eh4
  obtain ⟨h5, eh5, hf⟩ := hm_bind hf
  have mh5 := hm_le.pr eh5
  obtain ⟨q6, h6, eh6, hf⟩ := hm_and_of hf
  have mh6 := hm_le.new eh6
  obtain ⟨h7, eh7, hf⟩ := hm_bind hf
  have mh7 := m_f_L_init eh7
  obtain ⟨h8, eh8, hf⟩ := hm_bind hf
  have mh8 := hm_le.pr eh8
  obtain ⟨q9, h9, eh9, hf⟩ := hm_and_of hf
  have mh9 := hm_le.new eh9
  obtain ⟨h10, eh10, hf⟩ := hm_bind hf
  have mh10 := m_f_L_init eh10
  obtain ⟨h11, eh11, hf⟩ := hm_bind hf
  have mh11 := hm_le.pr eh11
  obtain ⟨q12, h12, eh12, hf⟩ := hm_and_of hf
  have mh12 := hm_le.new eh12
  obtain ⟨h13, eh13, hf⟩ := hm_bind hf
  have mh13 := m_f_K_init eh13
  obtain ⟨h14, eh14, hf⟩ := hm_bind hf
  have mh14 := hm_le.pr eh14
  obtain ⟨q15, h15, eh15, hf⟩ := hm_and_of hf
  have mh15 := hm_le.newa eh15
  obtain ⟨h16, eh16, hf⟩ := hm_bind hf
  have mh16 := hm_le.pr eh16
  obtain ⟨h17, eh17, hf⟩ := hm_bind hf
  have mh17 := hm_le.pi eh17
  obtain ⟨h18, eh18, hf⟩ := hm_bind hf
  have mh18 := hm_le.pz eh18
  obtain ⟨h19, eh19, hf⟩ := hm_bind hf
  have mh19 := hm_le.pi eh19
  exact mh1.tr (mh2.tr (mh3.tr (mh4.tr (mh5.tr (mh6.tr (mh7.tr (mh8.tr (mh9.tr (mh10.tr (mh11.tr (mh12.tr (mh13.tr (mh14.tr (mh15.tr (mh16.tr (mh17.tr (mh18.tr (mh19.tr ((hm_le.retv hf))))))))))))))))))))
set_option maxRecDepth 20000 in
set_option maxHeartbeats 1000000 in
theorem w_f_D_init {p : Program} {l : Launch} {e : Env} {R : Room} {s : State} {m : MethodId} {args : Array Value} {below : List Frame} {meth : Method} {c : Code} {E : hm_E} {n0 s0 F : Nat} {h h' : hm_T} {x0 : Nat} (C : hm_C E prog_1_method_1_code 1 "DistanceLabels" 2 42 n0 s0 (hm_n h') (hm_s h') p R s m args c) (hr : meth.sig.returnType = none) (hlk : meth.locks = false) (hin : meth.name = "<init>") (hf : f_D_init F x0 h = some h') : hm_G E 1 n0 s0 (hm_n h') (hm_s h') p l e R s m args below meth c (MQ below (hm_Qc E none h') args s (hm_n h' - n0) (hm_s h' - s0) (fun q => E.2.2 ≤ q)) 0 [(0, .ref x0)] [] h := by
  unfold f_D_init at hf
  refine hm_aload_n C d_D_init_0 rfl 0 rfl ?_
  refine hm_objInit C k_21 k_2 k_3 (by decide) (by decide) d_D_init_1 ?_
  refine hm_aload_n C d_D_init_4 rfl 0 rfl ?_
  obtain ⟨q1, h1, eh1, hf⟩ := hm_and_of hf
  refine hm_newO C F_2 k_22 k_23 k_24 D_2 d_D_init_5 eh1 ?_
  refine hm_dup C d_D_init_8 rfl ?_
  obtain ⟨h2, eh2, hf⟩ := hm_bind hf
  refine hm_callIN (vs := []) (st := [.ref q1, .ref x0]) (sb := [.ref q1, .ref x0]) C (c_N_init eh2) Y_N_init rfl k_25 kM_3 (by decide) (by decide) rfl (Nat.le_of_ble_eq_true rfl) d_D_init_9 rfl rfl ?_
  obtain ⟨h3, eh3, hf⟩ := hm_bind hf
  refine hm_putR C F_3 0 (by decide) rfl k_26 (Or.inr ⟨rfl, hin, rfl⟩) (Or.inl ⟨_, rfl⟩) d_D_init_12 eh3 ?_
  refine hm_aload_n C d_D_init_15 rfl 0 rfl ?_
  obtain ⟨a4, h4, eh4, hf⟩ := hm_and_of hf
  refine hm_callS (vs := []) (st := [.ref x0]) (sb := [.ref a4, .ref x0]) C (c_D_emptyTable eh4) Y_D_emptyTable k_6 k_27 (by decide) (by decide) rfl (Nat.le_of_ble_eq_true rfl) d_D_init_16 rfl rfl ?_
  obtain ⟨h5, eh5, hf⟩ := hm_bind hf
  refine hm_putR C F_3 1 (by decide) rfl k_28 (Or.inr ⟨rfl, hin, rfl⟩) (Or.inr ⟨_, rfl⟩) d_D_init_19 eh5 ?_
  refine hm_aload_n C d_D_init_22 rfl 0 rfl ?_
  obtain ⟨q6, h6, eh6, hf⟩ := hm_and_of hf
  refine hm_newO C F_1 k_29 k_30 k_31 D_1 d_D_init_23 eh6 ?_
  refine hm_dup C d_D_init_26 rfl ?_
  obtain ⟨h7, eh7, hf⟩ := hm_bind hf
  refine hm_callIN (vs := []) (st := [.ref q6, .ref x0]) (sb := [.ref q6, .ref x0]) C (c_L_init eh7) Y_L_init rfl k_32 kM_4 (by decide) (by decide) rfl (Nat.le_of_ble_eq_true rfl) d_D_init_27 rfl rfl ?_
  obtain ⟨h8, eh8, hf⟩ := hm_bind hf
  refine hm_putR C F_3 2 (by decide) rfl k_33 (Or.inr ⟨rfl, hin, rfl⟩) (Or.inl ⟨_, rfl⟩) d_D_init_30 eh8 ?_
  refine hm_aload_n C d_D_init_33 rfl 0 rfl ?_
  obtain ⟨q9, h9, eh9, hf⟩ := hm_and_of hf
  refine hm_newO C F_1 k_29 k_30 k_31 D_1 d_D_init_34 eh9 ?_
  refine hm_dup C d_D_init_37 rfl ?_
  obtain ⟨h10, eh10, hf⟩ := hm_bind hf
  refine hm_callIN (vs := []) (st := [.ref q9, .ref x0]) (sb := [.ref q9, .ref x0]) C (c_L_init eh10) Y_L_init rfl k_32 kM_4 (by decide) (by decide) rfl (Nat.le_of_ble_eq_true rfl) d_D_init_38 rfl rfl ?_
  obtain ⟨h11, eh11, hf⟩ := hm_bind hf
  refine hm_putR C F_3 3 (by decide) rfl k_34 (Or.inr ⟨rfl, hin, rfl⟩) (Or.inl ⟨_, rfl⟩) d_D_init_41 eh11 ?_
  refine hm_aload_n C d_D_init_44 rfl 0 rfl ?_
  obtain ⟨q12, h12, eh12, hf⟩ := hm_and_of hf
  refine hm_newO C F_0 k_35 k_36 k_37 D_0 d_D_init_45 eh12 ?_
  refine hm_dup C d_D_init_48 rfl ?_
  obtain ⟨h13, eh13, hf⟩ := hm_bind hf
  refine hm_callIN (vs := []) (st := [.ref q12, .ref x0]) (sb := [.ref q12, .ref x0]) C (c_K_init eh13) Y_K_init rfl k_38 kM_5 (by decide) (by decide) rfl (Nat.le_of_ble_eq_true rfl) d_D_init_49 rfl rfl ?_
  obtain ⟨h14, eh14, hf⟩ := hm_bind hf
  refine hm_putR C F_3 4 (by decide) rfl k_39 (Or.inr ⟨rfl, hin, rfl⟩) (Or.inl ⟨_, rfl⟩) d_D_init_52 eh14 ?_
  refine hm_aload_n C d_D_init_55 rfl 0 rfl ?_
  refine hm_bipush (v := (16 : Int32)) C d_D_init_56 (by decide) ?_
  obtain ⟨q15, h15, eh15, hf⟩ := hm_and_of hf
  refine hm_newAZ C kA_bool d_D_init_58 eh15 ?_
  obtain ⟨h16, eh16, hf⟩ := hm_bind hf
  refine hm_putR C F_3 5 (by decide) rfl k_40 (Or.inr ⟨rfl, hin, rfl⟩) (Or.inr ⟨_, rfl⟩) d_D_init_60 eh16 ?_
  refine hm_aload_n C d_D_init_63 rfl 0 rfl ?_
  refine hm_iconst (v := (0 : Int32)) C d_D_init_64 (by decide) ?_
  obtain ⟨h17, eh17, hf⟩ := hm_bind hf
  refine hm_putI C F_3 6 (by decide) rfl k_41 (Or.inl rfl) rfl d_D_init_65 eh17 ?_
  refine hm_aload_n C d_D_init_68 rfl 0 rfl ?_
  refine hm_iconst (v := (0 : Int32)) C d_D_init_69 (by decide) ?_
  obtain ⟨h18, eh18, hf⟩ := hm_bind hf
  refine hm_putZ C F_3 7 (by decide) rfl k_42 (Or.inl rfl) rfl d_D_init_70 eh18 ?_
  refine hm_aload_n C d_D_init_73 rfl 0 rfl ?_
  refine hm_iconst (v := (0 : Int32)) C d_D_init_74 (by decide) ?_
  obtain ⟨h19, eh19, hf⟩ := hm_bind hf
  refine hm_putI C F_3 8 (by decide) rfl k_43 (Or.inl rfl) rfl d_D_init_75 eh19 ?_
  exact hm_vret C hr hlk d_D_init_78 hf
set_option maxRecDepth 20000 in
theorem c_D_init {E : hm_E} {l : Launch} {F : Nat} {h h' : hm_T} {x0 : Nat} (hf : f_D_init F x0 h = some h') : hm_M E l y_D_init prog_1_method_1_code 1 none 2 42 [.ref x0] h none h' :=
  hm_enter (by decide +kernel) (Nat.le_of_ble_eq_true rfl) (m_f_D_init hf) (fun p e R s m below meth c C hr hlk hin => w_f_D_init C hr hlk hin hf)
def f_N_place (F : Nat) (x0 : Nat) (x1 : Int32) (x2 : Int32) (h : hm_T) : Option hm_T :=
  (hm_gr 2 5 3 h x0).bind (fun a1 => (hm_ist h a1 x2 x1).bind (fun h2 => (hm_gr 2 5 4 h2 x0).bind (fun a3 => (hm_ist h2 a3 x1 x2).bind (fun h4 => some h4))))
theorem m_f_N_place {F : Nat} {h h' : hm_T} {x0 : Nat} {x1 : Int32} {x2 : Int32} (hf : f_N_place F x0 x1 x2 h = some h') : hm_le h h' := by
  unfold f_N_place at hf
  obtain ⟨a1, ea1, hf⟩ := hm_bind hf
  obtain ⟨h2, eh2, hf⟩ := hm_bind hf
  have mh2 := hm_le.ist eh2
  obtain ⟨a3, ea3, hf⟩ := hm_bind hf
  obtain ⟨h4, eh4, hf⟩ := hm_bind hf
  have mh4 := hm_le.ist eh4
  exact mh2.tr (mh4.tr ((hm_le.retv hf)))
set_option maxRecDepth 20000 in
set_option maxHeartbeats 1000000 in
theorem w_f_N_place {p : Program} {l : Launch} {e : Env} {R : Room} {s : State} {m : MethodId} {args : Array Value} {below : List Frame} {meth : Method} {c : Code} {E : hm_E} {n0 s0 F : Nat} {h h' : hm_T} {x0 : Nat} {x1 : Int32} {x2 : Int32} (C : hm_C E prog_4_method_8_code 3 "DistanceLabels$Net" 0 0 n0 s0 (hm_n h') (hm_s h') p R s m args c) (hr : meth.sig.returnType = none) (hlk : meth.locks = false) (hf : f_N_place F x0 x1 x2 h = some h') : hm_G E 3 n0 s0 (hm_n h') (hm_s h') p l e R s m args below meth c (MQ below (hm_Qc E none h') args s (hm_n h' - n0) (hm_s h' - s0) (fun q => E.2.2 ≤ q)) 0 [(0, .ref x0), (1, .int x1), (2, .int x2)] [] h := by
  unfold f_N_place at hf
  refine hm_aload_n C d_N_place_0 rfl 0 rfl ?_
  obtain ⟨a1, ea1, hf⟩ := hm_bind hf
  refine hm_getR C F_2 3 (by decide) rfl k_8 d_N_place_1 ea1 ?_
  refine hm_iload_n C d_N_place_4 rfl 2 rfl ?_
  refine hm_iload_n C d_N_place_5 rfl 1 rfl ?_
  obtain ⟨h2, eh2, hf⟩ := hm_bind hf
  refine hm_iastore C d_N_place_6 eh2 ?_
  refine hm_aload_n C d_N_place_7 rfl 0 rfl ?_
  obtain ⟨a3, ea3, hf⟩ := hm_bind hf
  refine hm_getR C F_2 4 (by decide) rfl k_9 d_N_place_8 ea3 ?_
  refine hm_iload_n C d_N_place_11 rfl 1 rfl ?_
  refine hm_iload_n C d_N_place_12 rfl 2 rfl ?_
  obtain ⟨h4, eh4, hf⟩ := hm_bind hf
  refine hm_iastore C d_N_place_13 eh4 ?_
  exact hm_vret C hr hlk d_N_place_14 hf
set_option maxRecDepth 20000 in
theorem c_N_place {E : hm_E} {l : Launch} {F : Nat} {h h' : hm_T} {x0 : Nat} {x1 : Int32} {x2 : Int32} (hf : f_N_place F x0 x1 x2 h = some h') : hm_M E l y_N_place prog_4_method_8_code 3 none 0 0 [.ref x0, .int x1, .int x2] h none h' :=
  hm_enter (by decide +kernel) (Nat.le_of_ble_eq_true rfl) (m_f_N_place hf) (fun p e R s m below meth c C hr hlk hin => w_f_N_place C hr hlk hf)
def f_N_addNode (F : Nat) (x0 : Nat) (h : hm_T) : Option (Int32 × hm_T) :=
  (hm_gi 2 5 0 h x0).bind (fun v1 => (hm_gi 2 5 0 h x0).bind (fun v2 => (hm_pi 2 5 0 h x0 (v2 + (1 : Int32))).bind (fun h3 => (hm_is 2 5 h3 x0).bind (fun u4 => (f_N_place F x0 v1 v1 h3).bind (fun h5 => some (v1, h5))))))
theorem m_f_N_addNode {F : Nat} {r : Int32} {h h' : hm_T} {x0 : Nat} (hf : f_N_addNode F x0 h = some (r, h')) : hm_le h h' := by
  unfold f_N_addNode at hf
  obtain ⟨v1, ev1, hf⟩ := hm_bind hf
  obtain ⟨v2, ev2, hf⟩ := hm_bind hf
  obtain ⟨h3, eh3, hf⟩ := hm_bind hf
  have mh3 := hm_le.pi eh3
  obtain ⟨u4, eu4, hf⟩ := hm_bind hf
  obtain ⟨h5, eh5, hf⟩ := hm_bind hf
  have mh5 := m_f_N_place eh5
  exact mh3.tr (mh5.tr ((hm_le.ret hf)))
set_option maxRecDepth 20000 in
set_option maxHeartbeats 1000000 in
theorem w_f_N_addNode {p : Program} {l : Launch} {e : Env} {R : Room} {s : State} {m : MethodId} {args : Array Value} {below : List Frame} {meth : Method} {c : Code} {E : hm_E} {n0 s0 F : Nat} {r : Int32} {h h' : hm_T} {x0 : Nat} (C : hm_C E prog_4_method_4_code 2 "DistanceLabels$Net" 1 22 n0 s0 (hm_n h') (hm_s h') p R s m args c) (hr : meth.sig.returnType = (some .int)) (hlk : meth.locks = false) (hf : f_N_addNode F x0 h = some (r, h')) : hm_G E 2 n0 s0 (hm_n h') (hm_s h') p l e R s m args below meth c (MQ below (hm_Qc E (some (.int r)) h') args s (hm_n h' - n0) (hm_s h' - s0) (fun q => E.2.2 ≤ q)) 0 [(0, .ref x0)] [] h := by
  unfold f_N_addNode at hf
  refine hm_aload_n C d_N_addNode_0 rfl 0 rfl ?_
  obtain ⟨v1, ev1, hf⟩ := hm_bind hf
  refine hm_getI C F_2 0 (by decide) rfl k_4 d_N_addNode_1 ev1 ?_
  refine hm_istore_n (lv' := [(1, .int v1), (0, .ref x0)]) C d_N_addNode_4 rfl (by decide) rfl ?_
  refine hm_aload_n C d_N_addNode_5 rfl 1 rfl ?_
  refine hm_dup C d_N_addNode_6 rfl ?_
  obtain ⟨v2, ev2, hf⟩ := hm_bind hf
  refine hm_getI C F_2 0 (by decide) rfl k_4 d_N_addNode_7 ev2 ?_
  refine hm_iconst (v := (1 : Int32)) C d_N_addNode_10 (by decide) ?_
  refine hm_iadd C d_N_addNode_11 ?_
  obtain ⟨h3, eh3, hf⟩ := hm_bind hf
  refine hm_putI C F_2 0 (by decide) rfl k_4 (Or.inl rfl) rfl d_N_addNode_12 eh3 ?_
  refine hm_aload_n C d_N_addNode_15 rfl 1 rfl ?_
  refine hm_iload_n C d_N_addNode_16 rfl 0 rfl ?_
  refine hm_iload_n C d_N_addNode_17 rfl 0 rfl ?_
  obtain ⟨u4, eu4, hf⟩ := hm_bind hf
  obtain ⟨h5, eh5, hf⟩ := hm_bind hf
  refine hm_callV (vs := [.int v1, .int v1]) (st := []) (sb := []) C (c_N_place eh5) Y_N_place F_2 eu4 k_45 k_46 k_44 (by decide) (by decide) rfl (Nat.le_of_ble_eq_true rfl) d_N_addNode_18 rfl rfl ?_
  refine hm_iload_n C d_N_addNode_21 rfl 0 rfl ?_
  exact hm_iret C hr hlk d_N_addNode_22 hf
set_option maxRecDepth 20000 in
theorem c_N_addNode {E : hm_E} {l : Launch} {F : Nat} {r : Int32} {h h' : hm_T} {x0 : Nat} (hf : f_N_addNode F x0 h = some (r, h')) : hm_M E l y_N_addNode prog_4_method_4_code 2 (some .int) 1 22 [.ref x0] h (some (.int r)) h' :=
  hm_enter (by decide +kernel) (Nat.le_of_ble_eq_true rfl) (m_f_N_addNode hf) (fun p e R s m below meth c C hr hlk hin => w_f_N_addNode C hr hlk hf)
def f_D_node (F : Nat) (x0 : Nat) (h : hm_T) : Option (Int32 × hm_T) :=
  (hm_gr 3 9 0 h x0).bind (fun a1 => (hm_gi 2 5 0 h a1).bind (fun v2 => (if v2 < (16 : Int32) then (hm_pz 3 9 7 h x0 (0 : Int32)).bind (fun h4 => (hm_gr 3 9 0 h4 x0).bind (fun a5 => (hm_is 2 5 h4 a5).bind (fun u6 => hm_and (f_N_addNode F a5 h4) (fun v7 h7 => some (v7, h7))))) else some ((-3 : Int32), h))))
theorem m_f_D_node {F : Nat} {r : Int32} {h h' : hm_T} {x0 : Nat} (hf : f_D_node F x0 h = some (r, h')) : hm_le h h' := by
  unfold f_D_node at hf
  obtain ⟨a1, ea1, hf⟩ := hm_bind hf
  obtain ⟨v2, ev2, hf⟩ := hm_bind hf
  by_cases z3 : v2 < (16 : Int32)
  · have hf := hm_ifp hf z3
    obtain ⟨h4, eh4, hf⟩ := hm_bind hf
    have mh4 := hm_le.pz eh4
    obtain ⟨a5, ea5, hf⟩ := hm_bind hf
    obtain ⟨u6, eu6, hf⟩ := hm_bind hf
    obtain ⟨v7, h7, eh7, hf⟩ := hm_and_of hf
    have mh7 := m_f_N_addNode eh7
    exact mh4.tr (mh7.tr ((hm_le.ret hf)))
  · have hf := hm_ifn hf z3
    exact (hm_le.ret hf)
set_option maxRecDepth 20000 in
set_option maxHeartbeats 1000000 in
theorem w_f_D_node {p : Program} {l : Launch} {e : Env} {R : Room} {s : State} {m : MethodId} {args : Array Value} {below : List Frame} {meth : Method} {c : Code} {E : hm_E} {n0 s0 F : Nat} {r : Int32} {h h' : hm_T} {x0 : Nat} (C : hm_C E prog_1_method_2_code 1 "DistanceLabels" 2 43 n0 s0 (hm_n h') (hm_s h') p R s m args c) (hr : meth.sig.returnType = (some .int)) (hlk : meth.locks = false) (hf : f_D_node F x0 h = some (r, h')) : hm_G E 1 n0 s0 (hm_n h') (hm_s h') p l e R s m args below meth c (MQ below (hm_Qc E (some (.int r)) h') args s (hm_n h' - n0) (hm_s h' - s0) (fun q => E.2.2 ≤ q)) 0 [(0, .ref x0)] [] h := by
  unfold f_D_node at hf
  refine hm_aload_n C d_D_node_0 rfl 0 rfl ?_
  obtain ⟨a1, ea1, hf⟩ := hm_bind hf
  refine hm_getR C F_3 0 (by decide) rfl k_26 d_D_node_1 ea1 ?_
  obtain ⟨v2, ev2, hf⟩ := hm_bind hf
  refine hm_getIN C F_2 0 (by decide) rfl kF_0 d_D_node_4 ev2 ?_
  refine hm_bipush (v := (16 : Int32)) C d_D_node_7 (by decide) ?_
  refine hm_icmp_lt (tgt := 15) C d_D_node_9 (by decide) (fun z3 => ?_) (fun z3 => ?_)
  · have hf := hm_ifp hf z3
    refine hm_aload_n C d_D_node_15 rfl 0 rfl ?_
    refine hm_iconst (v := (0 : Int32)) C d_D_node_16 (by decide) ?_
    obtain ⟨h4, eh4, hf⟩ := hm_bind hf
    refine hm_putZ C F_3 7 (by decide) rfl k_42 (Or.inl rfl) rfl d_D_node_17 eh4 ?_
    refine hm_aload_n C d_D_node_20 rfl 0 rfl ?_
    obtain ⟨a5, ea5, hf⟩ := hm_bind hf
    refine hm_getR C F_3 0 (by decide) rfl k_26 d_D_node_21 ea5 ?_
    obtain ⟨u6, eu6, hf⟩ := hm_bind hf
    obtain ⟨v7, h7, eh7, hf⟩ := hm_and_of hf
    refine hm_callVN (vs := []) (st := []) (sb := [.int v7]) C (c_N_addNode eh7) Y_N_addNode F_2 eu6 k_47 k_48 kM_6 (by decide) (by decide) rfl (Nat.le_of_ble_eq_true rfl) d_D_node_24 rfl rfl ?_
    exact hm_iret C hr hlk d_D_node_27 hf
  · have hf := hm_ifn hf z3
    refine hm_bipush (v := (-3 : Int32)) C d_D_node_12 (by decide) ?_
    exact hm_iret C hr hlk d_D_node_14 hf
set_option maxRecDepth 20000 in
theorem c_D_node {E : hm_E} {l : Launch} {F : Nat} {r : Int32} {h h' : hm_T} {x0 : Nat} (hf : f_D_node F x0 h = some (r, h')) : hm_M E l y_D_node prog_1_method_2_code 1 (some .int) 2 43 [.ref x0] h (some (.int r)) h' :=
  hm_enter (by decide +kernel) (Nat.le_of_ble_eq_true rfl) (m_f_D_node hf) (fun p e R s m below meth c C hr hlk hin => w_f_D_node C hr hlk hf)
def f_N_has (F : Nat) (x0 : Nat) (x1 : Int32) (h : hm_T) : Option (Int32 × hm_T) :=
  (if x1 < 0 then (hm_zr (0 : Int32)).bind (fun v2 => some (v2, h)) else (hm_gi 2 5 0 h x0).bind (fun v3 => (if v3 ≤ x1 then (hm_zr (0 : Int32)).bind (fun v5 => some (v5, h)) else (hm_zr (1 : Int32)).bind (fun v6 => some (v6, h)))))
theorem m_f_N_has {F : Nat} {r : Int32} {h h' : hm_T} {x0 : Nat} {x1 : Int32} (hf : f_N_has F x0 x1 h = some (r, h')) : hm_le h h' := by
  unfold f_N_has at hf
  by_cases z1 : x1 < 0
  · have hf := hm_ifp hf z1
    obtain ⟨v2, ev2, hf⟩ := hm_bind hf
    exact (hm_le.ret hf)
  · have hf := hm_ifn hf z1
    obtain ⟨v3, ev3, hf⟩ := hm_bind hf
    by_cases z4 : v3 ≤ x1
    · have hf := hm_ifp hf z4
      obtain ⟨v5, ev5, hf⟩ := hm_bind hf
      exact (hm_le.ret hf)
    · have hf := hm_ifn hf z4
      obtain ⟨v6, ev6, hf⟩ := hm_bind hf
      exact (hm_le.ret hf)
set_option maxRecDepth 20000 in
set_option maxHeartbeats 1000000 in
theorem w_f_N_has {p : Program} {l : Launch} {e : Env} {R : Room} {s : State} {m : MethodId} {args : Array Value} {below : List Frame} {meth : Method} {c : Code} {E : hm_E} {n0 s0 F : Nat} {r : Int32} {h h' : hm_T} {x0 : Nat} {x1 : Int32} (C : hm_C E prog_4_method_2_code 2 "DistanceLabels$Net" 0 0 n0 s0 (hm_n h') (hm_s h') p R s m args c) (hr : meth.sig.returnType = (some .boolean)) (hlk : meth.locks = false) (hf : f_N_has F x0 x1 h = some (r, h')) : hm_G E 2 n0 s0 (hm_n h') (hm_s h') p l e R s m args below meth c (MQ below (hm_Qc E (some (.int r)) h') args s (hm_n h' - n0) (hm_s h' - s0) (fun q => E.2.2 ≤ q)) 0 [(0, .ref x0), (1, .int x1)] [] h := by
  unfold f_N_has at hf
  refine hm_iload_n C d_N_has_0 rfl 1 rfl ?_
  refine hm_if_lt (tgt := 16) C d_N_has_1 (by decide) (fun z1 => ?_) (fun z1 => ?_)
  · have hf := hm_ifp hf z1
    refine hm_iconst (v := (0 : Int32)) C d_N_has_16 (by decide) ?_
    obtain ⟨v2, ev2, hf⟩ := hm_bind hf
    exact hm_zret C hr hlk d_N_has_17 ev2 hf
  · have hf := hm_ifn hf z1
    refine hm_iload_n C d_N_has_4 rfl 1 rfl ?_
    refine hm_aload_n C d_N_has_5 rfl 0 rfl ?_
    obtain ⟨v3, ev3, hf⟩ := hm_bind hf
    refine hm_getI C F_2 0 (by decide) rfl k_4 d_N_has_6 ev3 ?_
    refine hm_icmp_ge (tgt := 16) C d_N_has_9 (by decide) (fun z4 => ?_) (fun z4 => ?_)
    · have hf := hm_ifp hf z4
      refine hm_iconst (v := (0 : Int32)) C d_N_has_16 (by decide) ?_
      obtain ⟨v5, ev5, hf⟩ := hm_bind hf
      exact hm_zret C hr hlk d_N_has_17 ev5 hf
    · have hf := hm_ifn hf z4
      refine hm_iconst (v := (1 : Int32)) C d_N_has_12 (by decide) ?_
      refine hm_goto (tgt := 17) C d_N_has_13 (by decide) ?_
      obtain ⟨v6, ev6, hf⟩ := hm_bind hf
      exact hm_zret C hr hlk d_N_has_17 ev6 hf
set_option maxRecDepth 20000 in
theorem c_N_has {E : hm_E} {l : Launch} {F : Nat} {r : Int32} {h h' : hm_T} {x0 : Nat} {x1 : Int32} (hf : f_N_has F x0 x1 h = some (r, h')) : hm_M E l y_N_has prog_4_method_2_code 2 (some .boolean) 0 0 [.ref x0, .int x1] h (some (.int r)) h' :=
  hm_enter (by decide +kernel) (Nat.le_of_ble_eq_true rfl) (m_f_N_has hf) (fun p e R s m below meth c C hr hlk hin => w_f_N_has C hr hlk hf)
def f_N_hasTwo (F : Nat) (x0 : Nat) (x1 : Int32) (x2 : Int32) (h : hm_T) : Option (Int32 × hm_T) :=
  (hm_is 2 5 h x0).bind (fun u1 => hm_and (f_N_has F x0 x1 h) (fun v2 h2 => (if v2 = 0 then (hm_zr (0 : Int32)).bind (fun v4 => some (v4, h2)) else (hm_is 2 5 h2 x0).bind (fun u5 => hm_and (f_N_has F x0 x2 h2) (fun v6 h6 => (if v6 = 0 then (hm_zr (0 : Int32)).bind (fun v8 => some (v8, h6)) else (if x1 = x2 then (hm_zr (0 : Int32)).bind (fun v10 => some (v10, h6)) else (hm_zr (1 : Int32)).bind (fun v11 => some (v11, h6)))))))))
theorem m_f_N_hasTwo {F : Nat} {r : Int32} {h h' : hm_T} {x0 : Nat} {x1 : Int32} {x2 : Int32} (hf : f_N_hasTwo F x0 x1 x2 h = some (r, h')) : hm_le h h' := by
  unfold f_N_hasTwo at hf
  obtain ⟨u1, eu1, hf⟩ := hm_bind hf
  obtain ⟨v2, h2, eh2, hf⟩ := hm_and_of hf
  have mh2 := m_f_N_has eh2
  by_cases z3 : v2 = 0
  · have hf := hm_ifp hf z3
    obtain ⟨v4, ev4, hf⟩ := hm_bind hf
    exact mh2.tr ((hm_le.ret hf))
  · have hf := hm_ifn hf z3
    obtain ⟨u5, eu5, hf⟩ := hm_bind hf
    obtain ⟨v6, h6, eh6, hf⟩ := hm_and_of hf
    have mh6 := m_f_N_has eh6
    by_cases z7 : v6 = 0
    · have hf := hm_ifp hf z7
      obtain ⟨v8, ev8, hf⟩ := hm_bind hf
      exact mh2.tr (mh6.tr ((hm_le.ret hf)))
    · have hf := hm_ifn hf z7
      by_cases z9 : x1 = x2
      · have hf := hm_ifp hf z9
        obtain ⟨v10, ev10, hf⟩ := hm_bind hf
        exact mh2.tr (mh6.tr ((hm_le.ret hf)))
      · have hf := hm_ifn hf z9
        obtain ⟨v11, ev11, hf⟩ := hm_bind hf
        exact mh2.tr (mh6.tr ((hm_le.ret hf)))
set_option maxRecDepth 20000 in
set_option maxHeartbeats 1000000 in
theorem w_f_N_hasTwo {p : Program} {l : Launch} {e : Env} {R : Room} {s : State} {m : MethodId} {args : Array Value} {below : List Frame} {meth : Method} {c : Code} {E : hm_E} {n0 s0 F : Nat} {r : Int32} {h h' : hm_T} {x0 : Nat} {x1 : Int32} {x2 : Int32} (C : hm_C E prog_4_method_3_code 3 "DistanceLabels$Net" 1 21 n0 s0 (hm_n h') (hm_s h') p R s m args c) (hr : meth.sig.returnType = (some .boolean)) (hlk : meth.locks = false) (hf : f_N_hasTwo F x0 x1 x2 h = some (r, h')) : hm_G E 3 n0 s0 (hm_n h') (hm_s h') p l e R s m args below meth c (MQ below (hm_Qc E (some (.int r)) h') args s (hm_n h' - n0) (hm_s h' - s0) (fun q => E.2.2 ≤ q)) 0 [(0, .ref x0), (1, .int x1), (2, .int x2)] [] h := by
  unfold f_N_hasTwo at hf
  refine hm_aload_n C d_N_hasTwo_0 rfl 0 rfl ?_
  refine hm_iload_n C d_N_hasTwo_1 rfl 1 rfl ?_
  obtain ⟨u1, eu1, hf⟩ := hm_bind hf
  obtain ⟨v2, h2, eh2, hf⟩ := hm_and_of hf
  refine hm_callV (vs := [.int x1]) (st := []) (sb := [.int v2]) C (c_N_has eh2) Y_N_has F_2 eu1 k_50 k_51 k_49 (by decide) (by decide) rfl (Nat.le_of_ble_eq_true rfl) d_N_hasTwo_2 rfl rfl ?_
  refine hm_if_eq (tgt := 25) C d_N_hasTwo_5 (by decide) (fun z3 => ?_) (fun z3 => ?_)
  · have hf := hm_ifp hf z3
    refine hm_iconst (v := (0 : Int32)) C d_N_hasTwo_25 (by decide) ?_
    obtain ⟨v4, ev4, hf⟩ := hm_bind hf
    exact hm_zret C hr hlk d_N_hasTwo_26 ev4 hf
  · have hf := hm_ifn hf z3
    refine hm_aload_n C d_N_hasTwo_8 rfl 0 rfl ?_
    refine hm_iload_n C d_N_hasTwo_9 rfl 2 rfl ?_
    obtain ⟨u5, eu5, hf⟩ := hm_bind hf
    obtain ⟨v6, h6, eh6, hf⟩ := hm_and_of hf
    refine hm_callV (vs := [.int x2]) (st := []) (sb := [.int v6]) C (c_N_has eh6) Y_N_has F_2 eu5 k_50 k_51 k_49 (by decide) (by decide) rfl (Nat.le_of_ble_eq_true rfl) d_N_hasTwo_10 rfl rfl ?_
    refine hm_if_eq (tgt := 25) C d_N_hasTwo_13 (by decide) (fun z7 => ?_) (fun z7 => ?_)
    · have hf := hm_ifp hf z7
      refine hm_iconst (v := (0 : Int32)) C d_N_hasTwo_25 (by decide) ?_
      obtain ⟨v8, ev8, hf⟩ := hm_bind hf
      exact hm_zret C hr hlk d_N_hasTwo_26 ev8 hf
    · have hf := hm_ifn hf z7
      refine hm_iload_n C d_N_hasTwo_16 rfl 1 rfl ?_
      refine hm_iload_n C d_N_hasTwo_17 rfl 2 rfl ?_
      refine hm_icmp_eq (tgt := 25) C d_N_hasTwo_18 (by decide) (fun z9 => ?_) (fun z9 => ?_)
      · have hf := hm_ifp hf z9
        refine hm_iconst (v := (0 : Int32)) C d_N_hasTwo_25 (by decide) ?_
        obtain ⟨v10, ev10, hf⟩ := hm_bind hf
        exact hm_zret C hr hlk d_N_hasTwo_26 ev10 hf
      · have hf := hm_ifn hf z9
        refine hm_iconst (v := (1 : Int32)) C d_N_hasTwo_21 (by decide) ?_
        refine hm_goto (tgt := 26) C d_N_hasTwo_22 (by decide) ?_
        obtain ⟨v11, ev11, hf⟩ := hm_bind hf
        exact hm_zret C hr hlk d_N_hasTwo_26 ev11 hf
set_option maxRecDepth 20000 in
theorem c_N_hasTwo {E : hm_E} {l : Launch} {F : Nat} {r : Int32} {h h' : hm_T} {x0 : Nat} {x1 : Int32} {x2 : Int32} (hf : f_N_hasTwo F x0 x1 x2 h = some (r, h')) : hm_M E l y_N_hasTwo prog_4_method_3_code 3 (some .boolean) 1 21 [.ref x0, .int x1, .int x2] h (some (.int r)) h' :=
  hm_enter (by decide +kernel) (Nat.le_of_ble_eq_true rfl) (m_f_N_hasTwo hf) (fun p e R s m below meth c C hr hlk hin => w_f_N_hasTwo C hr hlk hf)
def f_N_putArc_26 (F : Nat) (x0 : Nat) (x1 : Int32) (x2 : Int32) (x3 : Int32) (x4 : Int32) (h : hm_T) : Option (Int32 × hm_T) :=
  (hm_gr 2 5 2 h x0).bind (fun a1 => (hm_ald h a1 x1).bind (fun a2 => (hm_ist h a2 x2 x3).bind (fun h3 => some (x4, h3))))
def f_N_putArc (F : Nat) (x0 : Nat) (x1 : Int32) (x2 : Int32) (x3 : Int32) (h : hm_T) : Option (Int32 × hm_T) :=
  (hm_gr 2 5 2 h x0).bind (fun a1 => (hm_ald h a1 x1).bind (fun a2 => (hm_ild h a2 x2).bind (fun v3 => (if v3 = (-1 : Int32) then (hm_gi 2 5 1 h x0).bind (fun v5 => (hm_pi 2 5 1 h x0 (v5 + (1 : Int32))).bind (fun h6 => f_N_putArc_26 F x0 x1 x2 x3 v3 h6)) else f_N_putArc_26 F x0 x1 x2 x3 v3 h))))
theorem m_f_N_putArc_26 {F : Nat} {r : Int32} {h h' : hm_T} {x0 : Nat} {x1 : Int32} {x2 : Int32} {x3 : Int32} {x4 : Int32} (hf : f_N_putArc_26 F x0 x1 x2 x3 x4 h = some (r, h')) : hm_le h h' := by
  unfold f_N_putArc_26 at hf
  obtain ⟨a1, ea1, hf⟩ := hm_bind hf
  obtain ⟨a2, ea2, hf⟩ := hm_bind hf
  obtain ⟨h3, eh3, hf⟩ := hm_bind hf
  have mh3 := hm_le.ist eh3
  exact mh3.tr ((hm_le.ret hf))
theorem m_f_N_putArc {F : Nat} {r : Int32} {h h' : hm_T} {x0 : Nat} {x1 : Int32} {x2 : Int32} {x3 : Int32} (hf : f_N_putArc F x0 x1 x2 x3 h = some (r, h')) : hm_le h h' := by
  unfold f_N_putArc at hf
  obtain ⟨a1, ea1, hf⟩ := hm_bind hf
  obtain ⟨a2, ea2, hf⟩ := hm_bind hf
  obtain ⟨v3, ev3, hf⟩ := hm_bind hf
  by_cases z4 : v3 = (-1 : Int32)
  · have hf := hm_ifp hf z4
    obtain ⟨v5, ev5, hf⟩ := hm_bind hf
    obtain ⟨h6, eh6, hf⟩ := hm_bind hf
    have mh6 := hm_le.pi eh6
    exact mh6.tr ((m_f_N_putArc_26 hf))
  · have hf := hm_ifn hf z4
    exact (m_f_N_putArc_26 hf)
set_option maxRecDepth 20000 in
set_option maxHeartbeats 1000000 in
theorem w_f_N_putArc_26 {p : Program} {l : Launch} {e : Env} {R : Room} {s : State} {m : MethodId} {args : Array Value} {below : List Frame} {meth : Method} {c : Code} {E : hm_E} {n0 s0 F : Nat} {r : Int32} {h h' : hm_T} {x0 : Nat} {x1 : Int32} {x2 : Int32} {x3 : Int32} {x4 : Int32} (C : hm_C E prog_4_method_5_code 5 "DistanceLabels$Net" 0 0 n0 s0 (hm_n h') (hm_s h') p R s m args c) (hr : meth.sig.returnType = (some .int)) (hlk : meth.locks = false) (hf : f_N_putArc_26 F x0 x1 x2 x3 x4 h = some (r, h')) : hm_G E 5 n0 s0 (hm_n h') (hm_s h') p l e R s m args below meth c (MQ below (hm_Qc E (some (.int r)) h') args s (hm_n h' - n0) (hm_s h' - s0) (fun q => E.2.2 ≤ q)) 26 [(0, .ref x0), (1, .int x1), (2, .int x2), (3, .int x3), (4, .int x4)] [] h := by
  unfold f_N_putArc_26 at hf
  refine hm_aload_n C d_N_putArc_26 rfl 0 rfl ?_
  obtain ⟨a1, ea1, hf⟩ := hm_bind hf
  refine hm_getR C F_2 2 (by decide) rfl k_7 d_N_putArc_27 ea1 ?_
  refine hm_iload_n C d_N_putArc_30 rfl 1 rfl ?_
  obtain ⟨a2, ea2, hf⟩ := hm_bind hf
  refine hm_aaload C d_N_putArc_31 ea2 ?_
  refine hm_iload_n C d_N_putArc_32 rfl 2 rfl ?_
  refine hm_iload_n C d_N_putArc_33 rfl 3 rfl ?_
  obtain ⟨h3, eh3, hf⟩ := hm_bind hf
  refine hm_iastore C d_N_putArc_34 eh3 ?_
  refine hm_iload C d_N_putArc_35 4 rfl ?_
  exact hm_iret C hr hlk d_N_putArc_37 hf
set_option maxRecDepth 20000 in
set_option maxHeartbeats 1000000 in
theorem w_f_N_putArc {p : Program} {l : Launch} {e : Env} {R : Room} {s : State} {m : MethodId} {args : Array Value} {below : List Frame} {meth : Method} {c : Code} {E : hm_E} {n0 s0 F : Nat} {r : Int32} {h h' : hm_T} {x0 : Nat} {x1 : Int32} {x2 : Int32} {x3 : Int32} (C : hm_C E prog_4_method_5_code 5 "DistanceLabels$Net" 0 0 n0 s0 (hm_n h') (hm_s h') p R s m args c) (hr : meth.sig.returnType = (some .int)) (hlk : meth.locks = false) (hf : f_N_putArc F x0 x1 x2 x3 h = some (r, h')) : hm_G E 5 n0 s0 (hm_n h') (hm_s h') p l e R s m args below meth c (MQ below (hm_Qc E (some (.int r)) h') args s (hm_n h' - n0) (hm_s h' - s0) (fun q => E.2.2 ≤ q)) 0 [(0, .ref x0), (1, .int x1), (2, .int x2), (3, .int x3)] [] h := by
  unfold f_N_putArc at hf
  refine hm_aload_n C d_N_putArc_0 rfl 0 rfl ?_
  obtain ⟨a1, ea1, hf⟩ := hm_bind hf
  refine hm_getR C F_2 2 (by decide) rfl k_7 d_N_putArc_1 ea1 ?_
  refine hm_iload_n C d_N_putArc_4 rfl 1 rfl ?_
  obtain ⟨a2, ea2, hf⟩ := hm_bind hf
  refine hm_aaload C d_N_putArc_5 ea2 ?_
  refine hm_iload_n C d_N_putArc_6 rfl 2 rfl ?_
  obtain ⟨v3, ev3, hf⟩ := hm_bind hf
  refine hm_iaload C d_N_putArc_7 ev3 ?_
  refine hm_istore (lv' := [(4, .int v3), (0, .ref x0), (1, .int x1), (2, .int x2), (3, .int x3)]) C d_N_putArc_8 (by decide) rfl ?_
  refine hm_iload C d_N_putArc_10 0 rfl ?_
  refine hm_iconst (v := (-1 : Int32)) C d_N_putArc_12 (by decide) ?_
  refine hm_icmp_ne (tgt := 26) C d_N_putArc_13 (by decide) (fun z4 => ?_) (fun z4 => ?_)
  · have hf := hm_ifn hf z4
    refine hm_sub (lv' := [(0, .ref x0), (1, .int x1), (2, .int x2), (3, .int x3), (4, .int v3)]) [1, 2, 3, 4, 0] rfl ?_
    exact w_f_N_putArc_26 C hr hlk hf
  · have hf := hm_ifp hf z4
    refine hm_aload_n C d_N_putArc_16 rfl 1 rfl ?_
    refine hm_dup C d_N_putArc_17 rfl ?_
    obtain ⟨v5, ev5, hf⟩ := hm_bind hf
    refine hm_getI C F_2 1 (by decide) rfl k_5 d_N_putArc_18 ev5 ?_
    refine hm_iconst (v := (1 : Int32)) C d_N_putArc_21 (by decide) ?_
    refine hm_iadd C d_N_putArc_22 ?_
    obtain ⟨h6, eh6, hf⟩ := hm_bind hf
    refine hm_putI C F_2 1 (by decide) rfl k_5 (Or.inl rfl) rfl d_N_putArc_23 eh6 ?_
    refine hm_sub (lv' := [(0, .ref x0), (1, .int x1), (2, .int x2), (3, .int x3), (4, .int v3)]) [1, 2, 3, 4, 0] rfl ?_
    exact w_f_N_putArc_26 C hr hlk hf
set_option maxRecDepth 20000 in
theorem c_N_putArc {E : hm_E} {l : Launch} {F : Nat} {r : Int32} {h h' : hm_T} {x0 : Nat} {x1 : Int32} {x2 : Int32} {x3 : Int32} (hf : f_N_putArc F x0 x1 x2 x3 h = some (r, h')) : hm_M E l y_N_putArc prog_4_method_5_code 5 (some .int) 0 0 [.ref x0, .int x1, .int x2, .int x3] h (some (.int r)) h' :=
  hm_enter (by decide +kernel) (Nat.le_of_ble_eq_true rfl) (m_f_N_putArc hf) (fun p e R s m below meth c C hr hlk hin => w_f_N_putArc C hr hlk hf)
def f_D_arc (F : Nat) (x0 : Nat) (x1 : Int32) (x2 : Int32) (x3 : Int32) (h : hm_T) : Option (Int32 × hm_T) :=
  (hm_gr 3 9 0 h x0).bind (fun a1 => (hm_is 2 5 h a1).bind (fun u2 => hm_and (f_N_hasTwo F a1 x1 x2 h) (fun v3 h3 => (if v3 = 0 then some ((-2 : Int32), h3) else (if x3 < (1 : Int32) then some ((-2 : Int32), h3) else (if x3 ≤ (1000 : Int32) then (hm_pz 3 9 7 h3 x0 (0 : Int32)).bind (fun h7 => (hm_gr 3 9 0 h7 x0).bind (fun a8 => (hm_is 2 5 h7 a8).bind (fun u9 => hm_and (f_N_putArc F a8 x1 x2 x3 h7) (fun v10 h10 => some (v10, h10))))) else some ((-2 : Int32), h3)))))))
theorem m_f_D_arc {F : Nat} {r : Int32} {h h' : hm_T} {x0 : Nat} {x1 : Int32} {x2 : Int32} {x3 : Int32} (hf : f_D_arc F x0 x1 x2 x3 h = some (r, h')) : hm_le h h' := by
  unfold f_D_arc at hf
  obtain ⟨a1, ea1, hf⟩ := hm_bind hf
  obtain ⟨u2, eu2, hf⟩ := hm_bind hf
  obtain ⟨v3, h3, eh3, hf⟩ := hm_and_of hf
  have mh3 := m_f_N_hasTwo eh3
  by_cases z4 : v3 = 0
  · have hf := hm_ifp hf z4
    exact mh3.tr ((hm_le.ret hf))
  · have hf := hm_ifn hf z4
    by_cases z5 : x3 < (1 : Int32)
    · have hf := hm_ifp hf z5
      exact mh3.tr ((hm_le.ret hf))
    · have hf := hm_ifn hf z5
      by_cases z6 : x3 ≤ (1000 : Int32)
      · have hf := hm_ifp hf z6
        obtain ⟨h7, eh7, hf⟩ := hm_bind hf
        have mh7 := hm_le.pz eh7
        obtain ⟨a8, ea8, hf⟩ := hm_bind hf
        obtain ⟨u9, eu9, hf⟩ := hm_bind hf
        obtain ⟨v10, h10, eh10, hf⟩ := hm_and_of hf
        have mh10 := m_f_N_putArc eh10
        exact mh3.tr (mh7.tr (mh10.tr ((hm_le.ret hf))))
      · have hf := hm_ifn hf z6
        exact mh3.tr ((hm_le.ret hf))
set_option maxRecDepth 20000 in
set_option maxHeartbeats 1000000 in
theorem w_f_D_arc {p : Program} {l : Launch} {e : Env} {R : Room} {s : State} {m : MethodId} {args : Array Value} {below : List Frame} {meth : Method} {c : Code} {E : hm_E} {n0 s0 F : Nat} {r : Int32} {h h' : hm_T} {x0 : Nat} {x1 : Int32} {x2 : Int32} {x3 : Int32} (C : hm_C E prog_1_method_3_code 4 "DistanceLabels" 2 43 n0 s0 (hm_n h') (hm_s h') p R s m args c) (hr : meth.sig.returnType = (some .int)) (hlk : meth.locks = false) (hf : f_D_arc F x0 x1 x2 x3 h = some (r, h')) : hm_G E 4 n0 s0 (hm_n h') (hm_s h') p l e R s m args below meth c (MQ below (hm_Qc E (some (.int r)) h') args s (hm_n h' - n0) (hm_s h' - s0) (fun q => E.2.2 ≤ q)) 0 [(0, .ref x0), (1, .int x1), (2, .int x2), (3, .int x3)] [] h := by
  unfold f_D_arc at hf
  refine hm_aload_n C d_D_arc_0 rfl 0 rfl ?_
  obtain ⟨a1, ea1, hf⟩ := hm_bind hf
  refine hm_getR C F_3 0 (by decide) rfl k_26 d_D_arc_1 ea1 ?_
  refine hm_iload_n C d_D_arc_4 rfl 1 rfl ?_
  refine hm_iload_n C d_D_arc_5 rfl 2 rfl ?_
  obtain ⟨u2, eu2, hf⟩ := hm_bind hf
  obtain ⟨v3, h3, eh3, hf⟩ := hm_and_of hf
  refine hm_callVN (vs := [.int x1, .int x2]) (st := []) (sb := [.int v3]) C (c_N_hasTwo eh3) Y_N_hasTwo F_2 eu2 k_52 k_53 kM_7 (by decide) (by decide) rfl (Nat.le_of_ble_eq_true rfl) d_D_arc_6 rfl rfl ?_
  refine hm_if_eq (tgt := 24) C d_D_arc_9 (by decide) (fun z4 => ?_) (fun z4 => ?_)
  · have hf := hm_ifp hf z4
    refine hm_bipush (v := (-2 : Int32)) C d_D_arc_24 (by decide) ?_
    exact hm_iret C hr hlk d_D_arc_26 hf
  · have hf := hm_ifn hf z4
    refine hm_iload_n C d_D_arc_12 rfl 3 rfl ?_
    refine hm_iconst (v := (1 : Int32)) C d_D_arc_13 (by decide) ?_
    refine hm_icmp_lt (tgt := 24) C d_D_arc_14 (by decide) (fun z5 => ?_) (fun z5 => ?_)
    · have hf := hm_ifp hf z5
      refine hm_bipush (v := (-2 : Int32)) C d_D_arc_24 (by decide) ?_
      exact hm_iret C hr hlk d_D_arc_26 hf
    · have hf := hm_ifn hf z5
      refine hm_iload_n C d_D_arc_17 rfl 3 rfl ?_
      refine hm_sipush (v := (1000 : Int32)) C d_D_arc_18 (by decide) ?_
      refine hm_icmp_le (tgt := 27) C d_D_arc_21 (by decide) (fun z6 => ?_) (fun z6 => ?_)
      · have hf := hm_ifp hf z6
        refine hm_aload_n C d_D_arc_27 rfl 0 rfl ?_
        refine hm_iconst (v := (0 : Int32)) C d_D_arc_28 (by decide) ?_
        obtain ⟨h7, eh7, hf⟩ := hm_bind hf
        refine hm_putZ C F_3 7 (by decide) rfl k_42 (Or.inl rfl) rfl d_D_arc_29 eh7 ?_
        refine hm_aload_n C d_D_arc_32 rfl 0 rfl ?_
        obtain ⟨a8, ea8, hf⟩ := hm_bind hf
        refine hm_getR C F_3 0 (by decide) rfl k_26 d_D_arc_33 ea8 ?_
        refine hm_iload_n C d_D_arc_36 rfl 1 rfl ?_
        refine hm_iload_n C d_D_arc_37 rfl 2 rfl ?_
        refine hm_iload_n C d_D_arc_38 rfl 3 rfl ?_
        obtain ⟨u9, eu9, hf⟩ := hm_bind hf
        obtain ⟨v10, h10, eh10, hf⟩ := hm_and_of hf
        refine hm_callVN (vs := [.int x1, .int x2, .int x3]) (st := []) (sb := [.int v10]) C (c_N_putArc eh10) Y_N_putArc F_2 eu9 k_54 k_55 kM_8 (by decide) (by decide) rfl (Nat.le_of_ble_eq_true rfl) d_D_arc_39 rfl rfl ?_
        exact hm_iret C hr hlk d_D_arc_42 hf
      · have hf := hm_ifn hf z6
        refine hm_bipush (v := (-2 : Int32)) C d_D_arc_24 (by decide) ?_
        exact hm_iret C hr hlk d_D_arc_26 hf
set_option maxRecDepth 20000 in
theorem c_D_arc {E : hm_E} {l : Launch} {F : Nat} {r : Int32} {h h' : hm_T} {x0 : Nat} {x1 : Int32} {x2 : Int32} {x3 : Int32} (hf : f_D_arc F x0 x1 x2 x3 h = some (r, h')) : hm_M E l y_D_arc prog_1_method_3_code 4 (some .int) 2 43 [.ref x0, .int x1, .int x2, .int x3] h (some (.int r)) h' :=
  hm_enter (by decide +kernel) (Nat.le_of_ble_eq_true rfl) (m_f_D_arc hf) (fun p e R s m below meth c C hr hlk hin => w_f_D_arc C hr hlk hf)
def f_N_dropArc_24 (F : Nat) (x0 : Nat) (x1 : Int32) (x2 : Int32) (x3 : Int32) (h : hm_T) : Option (Int32 × hm_T) :=
  (hm_gr 2 5 2 h x0).bind (fun a1 => (hm_ald h a1 x1).bind (fun a2 => (hm_ist h a2 x2 (-1 : Int32)).bind (fun h3 => some (x3, h3))))
def f_N_dropArc (F : Nat) (x0 : Nat) (x1 : Int32) (x2 : Int32) (h : hm_T) : Option (Int32 × hm_T) :=
  (hm_gr 2 5 2 h x0).bind (fun a1 => (hm_ald h a1 x1).bind (fun a2 => (hm_ild h a2 x2).bind (fun v3 => (if v3 = (-1 : Int32) then f_N_dropArc_24 F x0 x1 x2 v3 h else (hm_gi 2 5 1 h x0).bind (fun v5 => (hm_pi 2 5 1 h x0 (v5 - (1 : Int32))).bind (fun h6 => f_N_dropArc_24 F x0 x1 x2 v3 h6))))))
theorem m_f_N_dropArc_24 {F : Nat} {r : Int32} {h h' : hm_T} {x0 : Nat} {x1 : Int32} {x2 : Int32} {x3 : Int32} (hf : f_N_dropArc_24 F x0 x1 x2 x3 h = some (r, h')) : hm_le h h' := by
  unfold f_N_dropArc_24 at hf
  obtain ⟨a1, ea1, hf⟩ := hm_bind hf
  obtain ⟨a2, ea2, hf⟩ := hm_bind hf
  obtain ⟨h3, eh3, hf⟩ := hm_bind hf
  have mh3 := hm_le.ist eh3
  exact mh3.tr ((hm_le.ret hf))
theorem m_f_N_dropArc {F : Nat} {r : Int32} {h h' : hm_T} {x0 : Nat} {x1 : Int32} {x2 : Int32} (hf : f_N_dropArc F x0 x1 x2 h = some (r, h')) : hm_le h h' := by
  unfold f_N_dropArc at hf
  obtain ⟨a1, ea1, hf⟩ := hm_bind hf
  obtain ⟨a2, ea2, hf⟩ := hm_bind hf
  obtain ⟨v3, ev3, hf⟩ := hm_bind hf
  by_cases z4 : v3 = (-1 : Int32)
  · have hf := hm_ifp hf z4
    exact (m_f_N_dropArc_24 hf)
  · have hf := hm_ifn hf z4
    obtain ⟨v5, ev5, hf⟩ := hm_bind hf
    obtain ⟨h6, eh6, hf⟩ := hm_bind hf
    have mh6 := hm_le.pi eh6
    exact mh6.tr ((m_f_N_dropArc_24 hf))
set_option maxRecDepth 20000 in
set_option maxHeartbeats 1000000 in
theorem w_f_N_dropArc_24 {p : Program} {l : Launch} {e : Env} {R : Room} {s : State} {m : MethodId} {args : Array Value} {below : List Frame} {meth : Method} {c : Code} {E : hm_E} {n0 s0 F : Nat} {r : Int32} {h h' : hm_T} {x0 : Nat} {x1 : Int32} {x2 : Int32} {x3 : Int32} (C : hm_C E prog_4_method_6_code 4 "DistanceLabels$Net" 0 0 n0 s0 (hm_n h') (hm_s h') p R s m args c) (hr : meth.sig.returnType = (some .int)) (hlk : meth.locks = false) (hf : f_N_dropArc_24 F x0 x1 x2 x3 h = some (r, h')) : hm_G E 4 n0 s0 (hm_n h') (hm_s h') p l e R s m args below meth c (MQ below (hm_Qc E (some (.int r)) h') args s (hm_n h' - n0) (hm_s h' - s0) (fun q => E.2.2 ≤ q)) 24 [(0, .ref x0), (1, .int x1), (2, .int x2), (3, .int x3)] [] h := by
  unfold f_N_dropArc_24 at hf
  refine hm_aload_n C d_N_dropArc_24 rfl 0 rfl ?_
  obtain ⟨a1, ea1, hf⟩ := hm_bind hf
  refine hm_getR C F_2 2 (by decide) rfl k_7 d_N_dropArc_25 ea1 ?_
  refine hm_iload_n C d_N_dropArc_28 rfl 1 rfl ?_
  obtain ⟨a2, ea2, hf⟩ := hm_bind hf
  refine hm_aaload C d_N_dropArc_29 ea2 ?_
  refine hm_iload_n C d_N_dropArc_30 rfl 2 rfl ?_
  refine hm_iconst (v := (-1 : Int32)) C d_N_dropArc_31 (by decide) ?_
  obtain ⟨h3, eh3, hf⟩ := hm_bind hf
  refine hm_iastore C d_N_dropArc_32 eh3 ?_
  refine hm_iload_n C d_N_dropArc_33 rfl 3 rfl ?_
  exact hm_iret C hr hlk d_N_dropArc_34 hf
set_option maxRecDepth 20000 in
set_option maxHeartbeats 1000000 in
theorem w_f_N_dropArc {p : Program} {l : Launch} {e : Env} {R : Room} {s : State} {m : MethodId} {args : Array Value} {below : List Frame} {meth : Method} {c : Code} {E : hm_E} {n0 s0 F : Nat} {r : Int32} {h h' : hm_T} {x0 : Nat} {x1 : Int32} {x2 : Int32} (C : hm_C E prog_4_method_6_code 4 "DistanceLabels$Net" 0 0 n0 s0 (hm_n h') (hm_s h') p R s m args c) (hr : meth.sig.returnType = (some .int)) (hlk : meth.locks = false) (hf : f_N_dropArc F x0 x1 x2 h = some (r, h')) : hm_G E 4 n0 s0 (hm_n h') (hm_s h') p l e R s m args below meth c (MQ below (hm_Qc E (some (.int r)) h') args s (hm_n h' - n0) (hm_s h' - s0) (fun q => E.2.2 ≤ q)) 0 [(0, .ref x0), (1, .int x1), (2, .int x2)] [] h := by
  unfold f_N_dropArc at hf
  refine hm_aload_n C d_N_dropArc_0 rfl 0 rfl ?_
  obtain ⟨a1, ea1, hf⟩ := hm_bind hf
  refine hm_getR C F_2 2 (by decide) rfl k_7 d_N_dropArc_1 ea1 ?_
  refine hm_iload_n C d_N_dropArc_4 rfl 1 rfl ?_
  obtain ⟨a2, ea2, hf⟩ := hm_bind hf
  refine hm_aaload C d_N_dropArc_5 ea2 ?_
  refine hm_iload_n C d_N_dropArc_6 rfl 2 rfl ?_
  obtain ⟨v3, ev3, hf⟩ := hm_bind hf
  refine hm_iaload C d_N_dropArc_7 ev3 ?_
  refine hm_istore_n (lv' := [(3, .int v3), (0, .ref x0), (1, .int x1), (2, .int x2)]) C d_N_dropArc_8 rfl (by decide) rfl ?_
  refine hm_iload_n C d_N_dropArc_9 rfl 0 rfl ?_
  refine hm_iconst (v := (-1 : Int32)) C d_N_dropArc_10 (by decide) ?_
  refine hm_icmp_eq (tgt := 24) C d_N_dropArc_11 (by decide) (fun z4 => ?_) (fun z4 => ?_)
  · have hf := hm_ifp hf z4
    refine hm_sub (lv' := [(0, .ref x0), (1, .int x1), (2, .int x2), (3, .int v3)]) [1, 2, 3, 0] rfl ?_
    exact w_f_N_dropArc_24 C hr hlk hf
  · have hf := hm_ifn hf z4
    refine hm_aload_n C d_N_dropArc_14 rfl 1 rfl ?_
    refine hm_dup C d_N_dropArc_15 rfl ?_
    obtain ⟨v5, ev5, hf⟩ := hm_bind hf
    refine hm_getI C F_2 1 (by decide) rfl k_5 d_N_dropArc_16 ev5 ?_
    refine hm_iconst (v := (1 : Int32)) C d_N_dropArc_19 (by decide) ?_
    refine hm_isub C d_N_dropArc_20 ?_
    obtain ⟨h6, eh6, hf⟩ := hm_bind hf
    refine hm_putI C F_2 1 (by decide) rfl k_5 (Or.inl rfl) rfl d_N_dropArc_21 eh6 ?_
    refine hm_sub (lv' := [(0, .ref x0), (1, .int x1), (2, .int x2), (3, .int v3)]) [1, 2, 3, 0] rfl ?_
    exact w_f_N_dropArc_24 C hr hlk hf
set_option maxRecDepth 20000 in
theorem c_N_dropArc {E : hm_E} {l : Launch} {F : Nat} {r : Int32} {h h' : hm_T} {x0 : Nat} {x1 : Int32} {x2 : Int32} (hf : f_N_dropArc F x0 x1 x2 h = some (r, h')) : hm_M E l y_N_dropArc prog_4_method_6_code 4 (some .int) 0 0 [.ref x0, .int x1, .int x2] h (some (.int r)) h' :=
  hm_enter (by decide +kernel) (Nat.le_of_ble_eq_true rfl) (m_f_N_dropArc hf) (fun p e R s m below meth c C hr hlk hin => w_f_N_dropArc C hr hlk hf)
def f_D_lose (F : Nat) (x0 : Nat) (x1 : Int32) (x2 : Int32) (h : hm_T) : Option (Int32 × hm_T) :=
  (hm_gr 3 9 0 h x0).bind (fun a1 => (hm_is 2 5 h a1).bind (fun u2 => hm_and (f_N_hasTwo F a1 x1 x2 h) (fun v3 h3 => (if v3 = 0 then some ((-2 : Int32), h3) else (hm_gr 3 9 0 h3 x0).bind (fun a5 => (hm_is 2 5 h3 a5).bind (fun u6 => hm_and (f_N_dropArc F a5 x1 x2 h3) (fun v7 h7 => (if v7 = (-1 : Int32) then some (v7, h7) else (hm_pz 3 9 7 h7 x0 (0 : Int32)).bind (fun h9 => some (v7, h9))))))))))
theorem m_f_D_lose {F : Nat} {r : Int32} {h h' : hm_T} {x0 : Nat} {x1 : Int32} {x2 : Int32} (hf : f_D_lose F x0 x1 x2 h = some (r, h')) : hm_le h h' := by
  unfold f_D_lose at hf
  obtain ⟨a1, ea1, hf⟩ := hm_bind hf
  obtain ⟨u2, eu2, hf⟩ := hm_bind hf
  obtain ⟨v3, h3, eh3, hf⟩ := hm_and_of hf
  have mh3 := m_f_N_hasTwo eh3
  by_cases z4 : v3 = 0
  · have hf := hm_ifp hf z4
    exact mh3.tr ((hm_le.ret hf))
  · have hf := hm_ifn hf z4
    obtain ⟨a5, ea5, hf⟩ := hm_bind hf
    obtain ⟨u6, eu6, hf⟩ := hm_bind hf
    obtain ⟨v7, h7, eh7, hf⟩ := hm_and_of hf
    have mh7 := m_f_N_dropArc eh7
    by_cases z8 : v7 = (-1 : Int32)
    · have hf := hm_ifp hf z8
      exact mh3.tr (mh7.tr ((hm_le.ret hf)))
    · have hf := hm_ifn hf z8
      obtain ⟨h9, eh9, hf⟩ := hm_bind hf
      have mh9 := hm_le.pz eh9
      exact mh3.tr (mh7.tr (mh9.tr ((hm_le.ret hf))))
set_option maxRecDepth 20000 in
set_option maxHeartbeats 1000000 in
theorem w_f_D_lose {p : Program} {l : Launch} {e : Env} {R : Room} {s : State} {m : MethodId} {args : Array Value} {below : List Frame} {meth : Method} {c : Code} {E : hm_E} {n0 s0 F : Nat} {r : Int32} {h h' : hm_T} {x0 : Nat} {x1 : Int32} {x2 : Int32} (C : hm_C E prog_1_method_4_code 4 "DistanceLabels" 2 43 n0 s0 (hm_n h') (hm_s h') p R s m args c) (hr : meth.sig.returnType = (some .int)) (hlk : meth.locks = false) (hf : f_D_lose F x0 x1 x2 h = some (r, h')) : hm_G E 4 n0 s0 (hm_n h') (hm_s h') p l e R s m args below meth c (MQ below (hm_Qc E (some (.int r)) h') args s (hm_n h' - n0) (hm_s h' - s0) (fun q => E.2.2 ≤ q)) 0 [(0, .ref x0), (1, .int x1), (2, .int x2)] [] h := by
  unfold f_D_lose at hf
  refine hm_aload_n C d_D_lose_0 rfl 0 rfl ?_
  obtain ⟨a1, ea1, hf⟩ := hm_bind hf
  refine hm_getR C F_3 0 (by decide) rfl k_26 d_D_lose_1 ea1 ?_
  refine hm_iload_n C d_D_lose_4 rfl 1 rfl ?_
  refine hm_iload_n C d_D_lose_5 rfl 2 rfl ?_
  obtain ⟨u2, eu2, hf⟩ := hm_bind hf
  obtain ⟨v3, h3, eh3, hf⟩ := hm_and_of hf
  refine hm_callVN (vs := [.int x1, .int x2]) (st := []) (sb := [.int v3]) C (c_N_hasTwo eh3) Y_N_hasTwo F_2 eu2 k_52 k_53 kM_7 (by decide) (by decide) rfl (Nat.le_of_ble_eq_true rfl) d_D_lose_6 rfl rfl ?_
  refine hm_if_ne (tgt := 15) C d_D_lose_9 (by decide) (fun z4 => ?_) (fun z4 => ?_)
  · have hf := hm_ifn hf z4
    refine hm_aload_n C d_D_lose_15 rfl 0 rfl ?_
    obtain ⟨a5, ea5, hf⟩ := hm_bind hf
    refine hm_getR C F_3 0 (by decide) rfl k_26 d_D_lose_16 ea5 ?_
    refine hm_iload_n C d_D_lose_19 rfl 1 rfl ?_
    refine hm_iload_n C d_D_lose_20 rfl 2 rfl ?_
    obtain ⟨u6, eu6, hf⟩ := hm_bind hf
    obtain ⟨v7, h7, eh7, hf⟩ := hm_and_of hf
    refine hm_callVN (vs := [.int x1, .int x2]) (st := []) (sb := [.int v7]) C (c_N_dropArc eh7) Y_N_dropArc F_2 eu6 k_56 k_57 kM_9 (by decide) (by decide) rfl (Nat.le_of_ble_eq_true rfl) d_D_lose_21 rfl rfl ?_
    refine hm_istore_n (lv' := [(3, .int v7), (0, .ref x0), (1, .int x1), (2, .int x2)]) C d_D_lose_24 rfl (by decide) rfl ?_
    refine hm_iload_n C d_D_lose_25 rfl 0 rfl ?_
    refine hm_iconst (v := (-1 : Int32)) C d_D_lose_26 (by decide) ?_
    refine hm_icmp_eq (tgt := 35) C d_D_lose_27 (by decide) (fun z8 => ?_) (fun z8 => ?_)
    · have hf := hm_ifp hf z8
      refine hm_iload_n C d_D_lose_35 rfl 0 rfl ?_
      exact hm_iret C hr hlk d_D_lose_36 hf
    · have hf := hm_ifn hf z8
      refine hm_aload_n C d_D_lose_30 rfl 1 rfl ?_
      refine hm_iconst (v := (0 : Int32)) C d_D_lose_31 (by decide) ?_
      obtain ⟨h9, eh9, hf⟩ := hm_bind hf
      refine hm_putZ C F_3 7 (by decide) rfl k_42 (Or.inl rfl) rfl d_D_lose_32 eh9 ?_
      refine hm_iload_n C d_D_lose_35 rfl 0 rfl ?_
      exact hm_iret C hr hlk d_D_lose_36 hf
  · have hf := hm_ifp hf z4
    refine hm_bipush (v := (-2 : Int32)) C d_D_lose_12 (by decide) ?_
    exact hm_iret C hr hlk d_D_lose_14 hf
set_option maxRecDepth 20000 in
theorem c_D_lose {E : hm_E} {l : Launch} {F : Nat} {r : Int32} {h h' : hm_T} {x0 : Nat} {x1 : Int32} {x2 : Int32} (hf : f_D_lose F x0 x1 x2 h = some (r, h')) : hm_M E l y_D_lose prog_1_method_4_code 4 (some .int) 2 43 [.ref x0, .int x1, .int x2] h (some (.int r)) h' :=
  hm_enter (by decide +kernel) (Nat.le_of_ble_eq_true rfl) (m_f_D_lose hf) (fun p e R s m below meth c C hr hlk hin => w_f_D_lose C hr hlk hf)
def f_N_moveTo_67 (F : Nat) (x0 : Nat) (x1 : Int32) (x2 : Int32) (x3 : Int32) (h : hm_T) : Option (Int32 × hm_T) :=
  (hm_is 2 5 h x0).bind (fun u1 => (f_N_place F x0 x1 x2 h).bind (fun h2 => some (x3, h2)))
def g_N_moveTo_40 (F : Nat) (k40 : Nat → Int32 → Int32 → Int32 → Int32 → hm_T → Option (Int32 × hm_T)) (x0 : Nat) (x1 : Int32) (x2 : Int32) (x3 : Int32) (x4 : Int32) (h : hm_T) : Option (Int32 × hm_T) :=
  (if x4 ≤ x2 then f_N_moveTo_67 F x0 x1 x2 x3 h else (hm_gr 2 5 3 h x0).bind (fun a2 => (hm_ild h a2 (x4 - (1 : Int32))).bind (fun v3 => (hm_is 2 5 h x0).bind (fun u4 => (f_N_place F x0 v3 x4 h).bind (fun h5 => k40 x0 x1 x2 x3 (x4 + (-1 : Int32)) h5)))))
def f_N_moveTo_40 (F : Nat) : Nat → Nat → Int32 → Int32 → Int32 → Int32 → hm_T → Option (Int32 × hm_T)
  | 0 => fun _ _ _ _ _ _ => none
  | n + 1 => g_N_moveTo_40 F (f_N_moveTo_40 F n)
def f_N_moveTo_37 (F : Nat) (x0 : Nat) (x1 : Int32) (x2 : Int32) (x3 : Int32) (h : hm_T) : Option (Int32 × hm_T) :=
  f_N_moveTo_40 F F x0 x1 x2 x3 x3 h
def g_N_moveTo_10 (F : Nat) (k10 : Nat → Int32 → Int32 → Int32 → Int32 → hm_T → Option (Int32 × hm_T)) (x0 : Nat) (x1 : Int32) (x2 : Int32) (x3 : Int32) (x4 : Int32) (h : hm_T) : Option (Int32 × hm_T) :=
  (if x2 ≤ x4 then f_N_moveTo_37 F x0 x1 x2 x3 h else (hm_gr 2 5 3 h x0).bind (fun a2 => (hm_ild h a2 (x4 + (1 : Int32))).bind (fun v3 => (hm_is 2 5 h x0).bind (fun u4 => (f_N_place F x0 v3 x4 h).bind (fun h5 => k10 x0 x1 x2 x3 (x4 + (1 : Int32)) h5)))))
def f_N_moveTo_10 (F : Nat) : Nat → Nat → Int32 → Int32 → Int32 → Int32 → hm_T → Option (Int32 × hm_T)
  | 0 => fun _ _ _ _ _ _ => none
  | n + 1 => g_N_moveTo_10 F (f_N_moveTo_10 F n)
def f_N_moveTo (F : Nat) (x0 : Nat) (x1 : Int32) (x2 : Int32) (h : hm_T) : Option (Int32 × hm_T) :=
  (hm_gr 2 5 4 h x0).bind (fun a1 => (hm_ild h a1 x1).bind (fun v2 => f_N_moveTo_10 F F x0 x1 x2 v2 v2 h))
theorem m_f_N_moveTo_67 {F : Nat} {r : Int32} {h h' : hm_T} {x0 : Nat} {x1 : Int32} {x2 : Int32} {x3 : Int32} (hf : f_N_moveTo_67 F x0 x1 x2 x3 h = some (r, h')) : hm_le h h' := by
  unfold f_N_moveTo_67 at hf
  obtain ⟨u1, eu1, hf⟩ := hm_bind hf
  obtain ⟨h2, eh2, hf⟩ := hm_bind hf
  have mh2 := m_f_N_place eh2
  exact mh2.tr ((hm_le.ret hf))
theorem m_g_N_moveTo_40 {F : Nat} {r : Int32} {h h' : hm_T} {x0 : Nat} {x1 : Int32} {x2 : Int32} {x3 : Int32} {x4 : Int32} {k40 : Nat → Int32 → Int32 → Int32 → Int32 → hm_T → Option (Int32 × hm_T)} (hk40 : ∀ (y0 : Nat) (y1 : Int32) (y2 : Int32) (y3 : Int32) (y4 : Int32) (g : hm_T), k40 y0 y1 y2 y3 y4 g = some (r, h') → hm_le g h') (hf : g_N_moveTo_40 F k40 x0 x1 x2 x3 x4 h = some (r, h')) : hm_le h h' := by
  unfold g_N_moveTo_40 at hf
  by_cases z1 : x4 ≤ x2
  · have hf := hm_ifp hf z1
    exact (m_f_N_moveTo_67 hf)
  · have hf := hm_ifn hf z1
    obtain ⟨a2, ea2, hf⟩ := hm_bind hf
    obtain ⟨v3, ev3, hf⟩ := hm_bind hf
    obtain ⟨u4, eu4, hf⟩ := hm_bind hf
    obtain ⟨h5, eh5, hf⟩ := hm_bind hf
    have mh5 := m_f_N_place eh5
    exact mh5.tr ((hk40 _ _ _ _ _ _ hf))
theorem m_N_moveTo_40L {F : Nat} {r : Int32} {h' : hm_T} : ∀ (N : Nat) (x0 : Nat) (x1 : Int32) (x2 : Int32) (x3 : Int32) (x4 : Int32) (h : hm_T), f_N_moveTo_40 F N x0 x1 x2 x3 x4 h = some (r, h') → hm_le h h' := by
  intro N
  induction N with
  | zero => intro _ _ _ _ _ _ hf; cases hf
  | succ n ih => intro x0 x1 x2 x3 x4 h hf; exact m_g_N_moveTo_40 ih hf
theorem m_f_N_moveTo_37 {F : Nat} {r : Int32} {h h' : hm_T} {x0 : Nat} {x1 : Int32} {x2 : Int32} {x3 : Int32} (hf : f_N_moveTo_37 F x0 x1 x2 x3 h = some (r, h')) : hm_le h h' := by
  unfold f_N_moveTo_37 at hf
  exact (m_N_moveTo_40L _ _ _ _ _ _ _ hf)
theorem m_g_N_moveTo_10 {F : Nat} {r : Int32} {h h' : hm_T} {x0 : Nat} {x1 : Int32} {x2 : Int32} {x3 : Int32} {x4 : Int32} {k10 : Nat → Int32 → Int32 → Int32 → Int32 → hm_T → Option (Int32 × hm_T)} (hk10 : ∀ (y0 : Nat) (y1 : Int32) (y2 : Int32) (y3 : Int32) (y4 : Int32) (g : hm_T), k10 y0 y1 y2 y3 y4 g = some (r, h') → hm_le g h') (hf : g_N_moveTo_10 F k10 x0 x1 x2 x3 x4 h = some (r, h')) : hm_le h h' := by
  unfold g_N_moveTo_10 at hf
  by_cases z1 : x2 ≤ x4
  · have hf := hm_ifp hf z1
    exact (m_f_N_moveTo_37 hf)
  · have hf := hm_ifn hf z1
    obtain ⟨a2, ea2, hf⟩ := hm_bind hf
    obtain ⟨v3, ev3, hf⟩ := hm_bind hf
    obtain ⟨u4, eu4, hf⟩ := hm_bind hf
    obtain ⟨h5, eh5, hf⟩ := hm_bind hf
    have mh5 := m_f_N_place eh5
    exact mh5.tr ((hk10 _ _ _ _ _ _ hf))
theorem m_N_moveTo_10L {F : Nat} {r : Int32} {h' : hm_T} : ∀ (N : Nat) (x0 : Nat) (x1 : Int32) (x2 : Int32) (x3 : Int32) (x4 : Int32) (h : hm_T), f_N_moveTo_10 F N x0 x1 x2 x3 x4 h = some (r, h') → hm_le h h' := by
  intro N
  induction N with
  | zero => intro _ _ _ _ _ _ hf; cases hf
  | succ n ih => intro x0 x1 x2 x3 x4 h hf; exact m_g_N_moveTo_10 ih hf
theorem m_f_N_moveTo {F : Nat} {r : Int32} {h h' : hm_T} {x0 : Nat} {x1 : Int32} {x2 : Int32} (hf : f_N_moveTo F x0 x1 x2 h = some (r, h')) : hm_le h h' := by
  unfold f_N_moveTo at hf
  obtain ⟨a1, ea1, hf⟩ := hm_bind hf
  obtain ⟨v2, ev2, hf⟩ := hm_bind hf
  exact (m_N_moveTo_10L _ _ _ _ _ _ _ hf)
set_option maxRecDepth 20000 in
set_option maxHeartbeats 1000000 in
theorem w_f_N_moveTo_67 {p : Program} {l : Launch} {e : Env} {R : Room} {s : State} {m : MethodId} {args : Array Value} {below : List Frame} {meth : Method} {c : Code} {E : hm_E} {n0 s0 F : Nat} {r : Int32} {h h' : hm_T} {x0 : Nat} {x1 : Int32} {x2 : Int32} {x3 : Int32} (C : hm_C E prog_4_method_7_code 5 "DistanceLabels$Net" 1 22 n0 s0 (hm_n h') (hm_s h') p R s m args c) (hr : meth.sig.returnType = (some .int)) (hlk : meth.locks = false) (hf : f_N_moveTo_67 F x0 x1 x2 x3 h = some (r, h')) : hm_G E 5 n0 s0 (hm_n h') (hm_s h') p l e R s m args below meth c (MQ below (hm_Qc E (some (.int r)) h') args s (hm_n h' - n0) (hm_s h' - s0) (fun q => E.2.2 ≤ q)) 67 [(0, .ref x0), (1, .int x1), (2, .int x2), (3, .int x3)] [] h := by
  unfold f_N_moveTo_67 at hf
  refine hm_aload_n C d_N_moveTo_67 rfl 0 rfl ?_
  refine hm_iload_n C d_N_moveTo_68 rfl 1 rfl ?_
  refine hm_iload_n C d_N_moveTo_69 rfl 2 rfl ?_
  obtain ⟨u1, eu1, hf⟩ := hm_bind hf
  obtain ⟨h2, eh2, hf⟩ := hm_bind hf
  refine hm_callV (vs := [.int x1, .int x2]) (st := []) (sb := []) C (c_N_place eh2) Y_N_place F_2 eu1 k_45 k_46 k_44 (by decide) (by decide) rfl (Nat.le_of_ble_eq_true rfl) d_N_moveTo_70 rfl rfl ?_
  refine hm_iload_n C d_N_moveTo_73 rfl 3 rfl ?_
  exact hm_iret C hr hlk d_N_moveTo_74 hf
set_option maxRecDepth 20000 in
set_option maxHeartbeats 1000000 in
theorem w_g_N_moveTo_40 {p : Program} {l : Launch} {e : Env} {R : Room} {s : State} {m : MethodId} {args : Array Value} {below : List Frame} {meth : Method} {c : Code} {E : hm_E} {n0 s0 F : Nat} {r : Int32} {h h' : hm_T} {x0 : Nat} {x1 : Int32} {x2 : Int32} {x3 : Int32} {x4 : Int32} {k40 : Nat → Int32 → Int32 → Int32 → Int32 → hm_T → Option (Int32 × hm_T)} (C : hm_C E prog_4_method_7_code 5 "DistanceLabels$Net" 1 22 n0 s0 (hm_n h') (hm_s h') p R s m args c) (hr : meth.sig.returnType = (some .int)) (hlk : meth.locks = false) (hk40 : ∀ (y0 : Nat) (y1 : Int32) (y2 : Int32) (y3 : Int32) (y4 : Int32) (g : hm_T), k40 y0 y1 y2 y3 y4 g = some (r, h') → hm_G E 5 n0 s0 (hm_n h') (hm_s h') p l e R s m args below meth c (MQ below (hm_Qc E (some (.int r)) h') args s (hm_n h' - n0) (hm_s h' - s0) (fun q => E.2.2 ≤ q)) 40 [(0, .ref y0), (1, .int y1), (2, .int y2), (3, .int y3), (4, .int y4)] [] g) (hf : g_N_moveTo_40 F k40 x0 x1 x2 x3 x4 h = some (r, h')) : hm_G E 5 n0 s0 (hm_n h') (hm_s h') p l e R s m args below meth c (MQ below (hm_Qc E (some (.int r)) h') args s (hm_n h' - n0) (hm_s h' - s0) (fun q => E.2.2 ≤ q)) 40 [(0, .ref x0), (1, .int x1), (2, .int x2), (3, .int x3), (4, .int x4)] [] h := by
  unfold g_N_moveTo_40 at hf
  refine hm_iload C d_N_moveTo_40 4 rfl ?_
  refine hm_iload_n C d_N_moveTo_42 rfl 2 rfl ?_
  refine hm_icmp_le (tgt := 67) C d_N_moveTo_43 (by decide) (fun z1 => ?_) (fun z1 => ?_)
  · have hf := hm_ifp hf z1
    refine hm_sub (lv' := [(0, .ref x0), (1, .int x1), (2, .int x2), (3, .int x3)]) [0, 1, 2, 3] rfl ?_
    exact w_f_N_moveTo_67 C hr hlk hf
  · have hf := hm_ifn hf z1
    refine hm_aload_n C d_N_moveTo_46 rfl 0 rfl ?_
    refine hm_aload_n C d_N_moveTo_47 rfl 0 rfl ?_
    obtain ⟨a2, ea2, hf⟩ := hm_bind hf
    refine hm_getR C F_2 3 (by decide) rfl k_8 d_N_moveTo_48 ea2 ?_
    refine hm_iload C d_N_moveTo_51 4 rfl ?_
    refine hm_iconst (v := (1 : Int32)) C d_N_moveTo_53 (by decide) ?_
    refine hm_isub C d_N_moveTo_54 ?_
    obtain ⟨v3, ev3, hf⟩ := hm_bind hf
    refine hm_iaload C d_N_moveTo_55 ev3 ?_
    refine hm_iload C d_N_moveTo_56 4 rfl ?_
    obtain ⟨u4, eu4, hf⟩ := hm_bind hf
    obtain ⟨h5, eh5, hf⟩ := hm_bind hf
    refine hm_callV (vs := [.int v3, .int x4]) (st := []) (sb := []) C (c_N_place eh5) Y_N_place F_2 eu4 k_45 k_46 k_44 (by decide) (by decide) rfl (Nat.le_of_ble_eq_true rfl) d_N_moveTo_58 rfl rfl ?_
    refine hm_iinc (v := (x4 + (-1 : Int32))) (lv' := [(4, .int (x4 + (-1 : Int32))), (0, .ref x0), (1, .int x1), (2, .int x2), (3, .int x3)]) C d_N_moveTo_61 4 rfl rfl (by decide) rfl ?_
    refine hm_goto (tgt := 40) C d_N_moveTo_64 (by decide) ?_
    refine hm_sub (lv' := [(0, .ref x0), (1, .int x1), (2, .int x2), (3, .int x3), (4, .int (x4 + (-1 : Int32)))]) [1, 2, 3, 4, 0] rfl ?_
    exact hk40 _ _ _ _ _ _ hf
theorem w_N_moveTo_40L {p : Program} {l : Launch} {e : Env} {R : Room} {s : State} {m : MethodId} {args : Array Value} {below : List Frame} {meth : Method} {c : Code} {E : hm_E} {n0 s0 F : Nat} {r : Int32} {h' : hm_T} (C : hm_C E prog_4_method_7_code 5 "DistanceLabels$Net" 1 22 n0 s0 (hm_n h') (hm_s h') p R s m args c) (hr : meth.sig.returnType = (some .int)) (hlk : meth.locks = false) : ∀ (N : Nat) (x0 : Nat) (x1 : Int32) (x2 : Int32) (x3 : Int32) (x4 : Int32) (h : hm_T), f_N_moveTo_40 F N x0 x1 x2 x3 x4 h = some (r, h') → hm_G E 5 n0 s0 (hm_n h') (hm_s h') p l e R s m args below meth c (MQ below (hm_Qc E (some (.int r)) h') args s (hm_n h' - n0) (hm_s h' - s0) (fun q => E.2.2 ≤ q)) 40 [(0, .ref x0), (1, .int x1), (2, .int x2), (3, .int x3), (4, .int x4)] [] h := by
  intro N
  induction N with
  | zero => intro _ _ _ _ _ _ hf; cases hf
  | succ n ih => intro x0 x1 x2 x3 x4 h hf; exact w_g_N_moveTo_40 C hr hlk ih hf
set_option maxRecDepth 20000 in
set_option maxHeartbeats 1000000 in
theorem w_f_N_moveTo_37 {p : Program} {l : Launch} {e : Env} {R : Room} {s : State} {m : MethodId} {args : Array Value} {below : List Frame} {meth : Method} {c : Code} {E : hm_E} {n0 s0 F : Nat} {r : Int32} {h h' : hm_T} {x0 : Nat} {x1 : Int32} {x2 : Int32} {x3 : Int32} (C : hm_C E prog_4_method_7_code 5 "DistanceLabels$Net" 1 22 n0 s0 (hm_n h') (hm_s h') p R s m args c) (hr : meth.sig.returnType = (some .int)) (hlk : meth.locks = false) (hf : f_N_moveTo_37 F x0 x1 x2 x3 h = some (r, h')) : hm_G E 5 n0 s0 (hm_n h') (hm_s h') p l e R s m args below meth c (MQ below (hm_Qc E (some (.int r)) h') args s (hm_n h' - n0) (hm_s h' - s0) (fun q => E.2.2 ≤ q)) 37 [(0, .ref x0), (1, .int x1), (2, .int x2), (3, .int x3)] [] h := by
  unfold f_N_moveTo_37 at hf
  refine hm_iload_n C d_N_moveTo_37 rfl 3 rfl ?_
  refine hm_istore (lv' := [(4, .int x3), (0, .ref x0), (1, .int x1), (2, .int x2), (3, .int x3)]) C d_N_moveTo_38 (by decide) rfl ?_
  refine hm_sub (lv' := [(0, .ref x0), (1, .int x1), (2, .int x2), (3, .int x3), (4, .int x3)]) [1, 2, 3, 4, 0] rfl ?_
  exact w_N_moveTo_40L C hr hlk _ _ _ _ _ _ _ hf
set_option maxRecDepth 20000 in
set_option maxHeartbeats 1000000 in
theorem w_g_N_moveTo_10 {p : Program} {l : Launch} {e : Env} {R : Room} {s : State} {m : MethodId} {args : Array Value} {below : List Frame} {meth : Method} {c : Code} {E : hm_E} {n0 s0 F : Nat} {r : Int32} {h h' : hm_T} {x0 : Nat} {x1 : Int32} {x2 : Int32} {x3 : Int32} {x4 : Int32} {k10 : Nat → Int32 → Int32 → Int32 → Int32 → hm_T → Option (Int32 × hm_T)} (C : hm_C E prog_4_method_7_code 5 "DistanceLabels$Net" 1 22 n0 s0 (hm_n h') (hm_s h') p R s m args c) (hr : meth.sig.returnType = (some .int)) (hlk : meth.locks = false) (hk10 : ∀ (y0 : Nat) (y1 : Int32) (y2 : Int32) (y3 : Int32) (y4 : Int32) (g : hm_T), k10 y0 y1 y2 y3 y4 g = some (r, h') → hm_G E 5 n0 s0 (hm_n h') (hm_s h') p l e R s m args below meth c (MQ below (hm_Qc E (some (.int r)) h') args s (hm_n h' - n0) (hm_s h' - s0) (fun q => E.2.2 ≤ q)) 10 [(0, .ref y0), (1, .int y1), (2, .int y2), (3, .int y3), (4, .int y4)] [] g) (hf : g_N_moveTo_10 F k10 x0 x1 x2 x3 x4 h = some (r, h')) : hm_G E 5 n0 s0 (hm_n h') (hm_s h') p l e R s m args below meth c (MQ below (hm_Qc E (some (.int r)) h') args s (hm_n h' - n0) (hm_s h' - s0) (fun q => E.2.2 ≤ q)) 10 [(0, .ref x0), (1, .int x1), (2, .int x2), (3, .int x3), (4, .int x4)] [] h := by
  unfold g_N_moveTo_10 at hf
  refine hm_iload C d_N_moveTo_10 4 rfl ?_
  refine hm_iload_n C d_N_moveTo_12 rfl 2 rfl ?_
  refine hm_icmp_ge (tgt := 37) C d_N_moveTo_13 (by decide) (fun z1 => ?_) (fun z1 => ?_)
  · have hf := hm_ifp hf z1
    refine hm_sub (lv' := [(0, .ref x0), (1, .int x1), (2, .int x2), (3, .int x3)]) [0, 1, 2, 3] rfl ?_
    exact w_f_N_moveTo_37 C hr hlk hf
  · have hf := hm_ifn hf z1
    refine hm_aload_n C d_N_moveTo_16 rfl 0 rfl ?_
    refine hm_aload_n C d_N_moveTo_17 rfl 0 rfl ?_
    obtain ⟨a2, ea2, hf⟩ := hm_bind hf
    refine hm_getR C F_2 3 (by decide) rfl k_8 d_N_moveTo_18 ea2 ?_
    refine hm_iload C d_N_moveTo_21 4 rfl ?_
    refine hm_iconst (v := (1 : Int32)) C d_N_moveTo_23 (by decide) ?_
    refine hm_iadd C d_N_moveTo_24 ?_
    obtain ⟨v3, ev3, hf⟩ := hm_bind hf
    refine hm_iaload C d_N_moveTo_25 ev3 ?_
    refine hm_iload C d_N_moveTo_26 4 rfl ?_
    obtain ⟨u4, eu4, hf⟩ := hm_bind hf
    obtain ⟨h5, eh5, hf⟩ := hm_bind hf
    refine hm_callV (vs := [.int v3, .int x4]) (st := []) (sb := []) C (c_N_place eh5) Y_N_place F_2 eu4 k_45 k_46 k_44 (by decide) (by decide) rfl (Nat.le_of_ble_eq_true rfl) d_N_moveTo_28 rfl rfl ?_
    refine hm_iinc (v := (x4 + (1 : Int32))) (lv' := [(4, .int (x4 + (1 : Int32))), (0, .ref x0), (1, .int x1), (2, .int x2), (3, .int x3)]) C d_N_moveTo_31 4 rfl rfl (by decide) rfl ?_
    refine hm_goto (tgt := 10) C d_N_moveTo_34 (by decide) ?_
    refine hm_sub (lv' := [(0, .ref x0), (1, .int x1), (2, .int x2), (3, .int x3), (4, .int (x4 + (1 : Int32)))]) [1, 2, 3, 4, 0] rfl ?_
    exact hk10 _ _ _ _ _ _ hf
theorem w_N_moveTo_10L {p : Program} {l : Launch} {e : Env} {R : Room} {s : State} {m : MethodId} {args : Array Value} {below : List Frame} {meth : Method} {c : Code} {E : hm_E} {n0 s0 F : Nat} {r : Int32} {h' : hm_T} (C : hm_C E prog_4_method_7_code 5 "DistanceLabels$Net" 1 22 n0 s0 (hm_n h') (hm_s h') p R s m args c) (hr : meth.sig.returnType = (some .int)) (hlk : meth.locks = false) : ∀ (N : Nat) (x0 : Nat) (x1 : Int32) (x2 : Int32) (x3 : Int32) (x4 : Int32) (h : hm_T), f_N_moveTo_10 F N x0 x1 x2 x3 x4 h = some (r, h') → hm_G E 5 n0 s0 (hm_n h') (hm_s h') p l e R s m args below meth c (MQ below (hm_Qc E (some (.int r)) h') args s (hm_n h' - n0) (hm_s h' - s0) (fun q => E.2.2 ≤ q)) 10 [(0, .ref x0), (1, .int x1), (2, .int x2), (3, .int x3), (4, .int x4)] [] h := by
  intro N
  induction N with
  | zero => intro _ _ _ _ _ _ hf; cases hf
  | succ n ih => intro x0 x1 x2 x3 x4 h hf; exact w_g_N_moveTo_10 C hr hlk ih hf
set_option maxRecDepth 20000 in
set_option maxHeartbeats 1000000 in
theorem w_f_N_moveTo {p : Program} {l : Launch} {e : Env} {R : Room} {s : State} {m : MethodId} {args : Array Value} {below : List Frame} {meth : Method} {c : Code} {E : hm_E} {n0 s0 F : Nat} {r : Int32} {h h' : hm_T} {x0 : Nat} {x1 : Int32} {x2 : Int32} (C : hm_C E prog_4_method_7_code 5 "DistanceLabels$Net" 1 22 n0 s0 (hm_n h') (hm_s h') p R s m args c) (hr : meth.sig.returnType = (some .int)) (hlk : meth.locks = false) (hf : f_N_moveTo F x0 x1 x2 h = some (r, h')) : hm_G E 5 n0 s0 (hm_n h') (hm_s h') p l e R s m args below meth c (MQ below (hm_Qc E (some (.int r)) h') args s (hm_n h' - n0) (hm_s h' - s0) (fun q => E.2.2 ≤ q)) 0 [(0, .ref x0), (1, .int x1), (2, .int x2)] [] h := by
  unfold f_N_moveTo at hf
  refine hm_aload_n C d_N_moveTo_0 rfl 0 rfl ?_
  obtain ⟨a1, ea1, hf⟩ := hm_bind hf
  refine hm_getR C F_2 4 (by decide) rfl k_9 d_N_moveTo_1 ea1 ?_
  refine hm_iload_n C d_N_moveTo_4 rfl 1 rfl ?_
  obtain ⟨v2, ev2, hf⟩ := hm_bind hf
  refine hm_iaload C d_N_moveTo_5 ev2 ?_
  refine hm_istore_n (lv' := [(3, .int v2), (0, .ref x0), (1, .int x1), (2, .int x2)]) C d_N_moveTo_6 rfl (by decide) rfl ?_
  refine hm_iload_n C d_N_moveTo_7 rfl 0 rfl ?_
  refine hm_istore (lv' := [(4, .int v2), (3, .int v2), (0, .ref x0), (1, .int x1), (2, .int x2)]) C d_N_moveTo_8 (by decide) rfl ?_
  refine hm_sub (lv' := [(0, .ref x0), (1, .int x1), (2, .int x2), (3, .int v2), (4, .int v2)]) [2, 3, 4, 1, 0] rfl ?_
  exact w_N_moveTo_10L C hr hlk _ _ _ _ _ _ _ hf
set_option maxRecDepth 20000 in
theorem c_N_moveTo {E : hm_E} {l : Launch} {F : Nat} {r : Int32} {h h' : hm_T} {x0 : Nat} {x1 : Int32} {x2 : Int32} (hf : f_N_moveTo F x0 x1 x2 h = some (r, h')) : hm_M E l y_N_moveTo prog_4_method_7_code 5 (some .int) 1 22 [.ref x0, .int x1, .int x2] h (some (.int r)) h' :=
  hm_enter (by decide +kernel) (Nat.le_of_ble_eq_true rfl) (m_f_N_moveTo hf) (fun p e R s m below meth c C hr hlk hin => w_f_N_moveTo C hr hlk hf)
def f_D_rank (F : Nat) (x0 : Nat) (x1 : Int32) (x2 : Int32) (h : hm_T) : Option (Int32 × hm_T) :=
  (hm_gr 3 9 0 h x0).bind (fun a1 => (hm_is 2 5 h a1).bind (fun u2 => hm_and (f_N_has F a1 x1 h) (fun v3 h3 => (if v3 = 0 then some ((-2 : Int32), h3) else (hm_gr 3 9 0 h3 x0).bind (fun a5 => (hm_is 2 5 h3 a5).bind (fun u6 => hm_and (f_N_has F a5 x2 h3) (fun v7 h7 => (if v7 = 0 then some ((-2 : Int32), h7) else (hm_pz 3 9 7 h7 x0 (0 : Int32)).bind (fun h9 => (hm_gr 3 9 0 h9 x0).bind (fun a10 => (hm_is 2 5 h9 a10).bind (fun u11 => hm_and (f_N_moveTo F a10 x1 x2 h9) (fun v12 h12 => some (v12, h12)))))))))))))
theorem m_f_D_rank {F : Nat} {r : Int32} {h h' : hm_T} {x0 : Nat} {x1 : Int32} {x2 : Int32} (hf : f_D_rank F x0 x1 x2 h = some (r, h')) : hm_le h h' := by
  unfold f_D_rank at hf
  obtain ⟨a1, ea1, hf⟩ := hm_bind hf
  obtain ⟨u2, eu2, hf⟩ := hm_bind hf
  obtain ⟨v3, h3, eh3, hf⟩ := hm_and_of hf
  have mh3 := m_f_N_has eh3
  by_cases z4 : v3 = 0
  · have hf := hm_ifp hf z4
    exact mh3.tr ((hm_le.ret hf))
  · have hf := hm_ifn hf z4
    obtain ⟨a5, ea5, hf⟩ := hm_bind hf
    obtain ⟨u6, eu6, hf⟩ := hm_bind hf
    obtain ⟨v7, h7, eh7, hf⟩ := hm_and_of hf
    have mh7 := m_f_N_has eh7
    by_cases z8 : v7 = 0
    · have hf := hm_ifp hf z8
      exact mh3.tr (mh7.tr ((hm_le.ret hf)))
    · have hf := hm_ifn hf z8
      obtain ⟨h9, eh9, hf⟩ := hm_bind hf
      have mh9 := hm_le.pz eh9
      obtain ⟨a10, ea10, hf⟩ := hm_bind hf
      obtain ⟨u11, eu11, hf⟩ := hm_bind hf
      obtain ⟨v12, h12, eh12, hf⟩ := hm_and_of hf
      have mh12 := m_f_N_moveTo eh12
      exact mh3.tr (mh7.tr (mh9.tr (mh12.tr ((hm_le.ret hf)))))
set_option maxRecDepth 20000 in
set_option maxHeartbeats 1000000 in
theorem w_f_D_rank {p : Program} {l : Launch} {e : Env} {R : Room} {s : State} {m : MethodId} {args : Array Value} {below : List Frame} {meth : Method} {c : Code} {E : hm_E} {n0 s0 F : Nat} {r : Int32} {h h' : hm_T} {x0 : Nat} {x1 : Int32} {x2 : Int32} (C : hm_C E prog_1_method_5_code 3 "DistanceLabels" 2 46 n0 s0 (hm_n h') (hm_s h') p R s m args c) (hr : meth.sig.returnType = (some .int)) (hlk : meth.locks = false) (hf : f_D_rank F x0 x1 x2 h = some (r, h')) : hm_G E 3 n0 s0 (hm_n h') (hm_s h') p l e R s m args below meth c (MQ below (hm_Qc E (some (.int r)) h') args s (hm_n h' - n0) (hm_s h' - s0) (fun q => E.2.2 ≤ q)) 0 [(0, .ref x0), (1, .int x1), (2, .int x2)] [] h := by
  unfold f_D_rank at hf
  refine hm_aload_n C d_D_rank_0 rfl 0 rfl ?_
  obtain ⟨a1, ea1, hf⟩ := hm_bind hf
  refine hm_getR C F_3 0 (by decide) rfl k_26 d_D_rank_1 ea1 ?_
  refine hm_iload_n C d_D_rank_4 rfl 1 rfl ?_
  obtain ⟨u2, eu2, hf⟩ := hm_bind hf
  obtain ⟨v3, h3, eh3, hf⟩ := hm_and_of hf
  refine hm_callVN (vs := [.int x1]) (st := []) (sb := [.int v3]) C (c_N_has eh3) Y_N_has F_2 eu2 k_50 k_51 kM_10 (by decide) (by decide) rfl (Nat.le_of_ble_eq_true rfl) d_D_rank_5 rfl rfl ?_
  refine hm_if_eq (tgt := 22) C d_D_rank_8 (by decide) (fun z4 => ?_) (fun z4 => ?_)
  · have hf := hm_ifp hf z4
    refine hm_bipush (v := (-2 : Int32)) C d_D_rank_22 (by decide) ?_
    exact hm_iret C hr hlk d_D_rank_24 hf
  · have hf := hm_ifn hf z4
    refine hm_aload_n C d_D_rank_11 rfl 0 rfl ?_
    obtain ⟨a5, ea5, hf⟩ := hm_bind hf
    refine hm_getR C F_3 0 (by decide) rfl k_26 d_D_rank_12 ea5 ?_
    refine hm_iload_n C d_D_rank_15 rfl 2 rfl ?_
    obtain ⟨u6, eu6, hf⟩ := hm_bind hf
    obtain ⟨v7, h7, eh7, hf⟩ := hm_and_of hf
    refine hm_callVN (vs := [.int x2]) (st := []) (sb := [.int v7]) C (c_N_has eh7) Y_N_has F_2 eu6 k_50 k_51 kM_10 (by decide) (by decide) rfl (Nat.le_of_ble_eq_true rfl) d_D_rank_16 rfl rfl ?_
    refine hm_if_ne (tgt := 25) C d_D_rank_19 (by decide) (fun z8 => ?_) (fun z8 => ?_)
    · have hf := hm_ifn hf z8
      refine hm_aload_n C d_D_rank_25 rfl 0 rfl ?_
      refine hm_iconst (v := (0 : Int32)) C d_D_rank_26 (by decide) ?_
      obtain ⟨h9, eh9, hf⟩ := hm_bind hf
      refine hm_putZ C F_3 7 (by decide) rfl k_42 (Or.inl rfl) rfl d_D_rank_27 eh9 ?_
      refine hm_aload_n C d_D_rank_30 rfl 0 rfl ?_
      obtain ⟨a10, ea10, hf⟩ := hm_bind hf
      refine hm_getR C F_3 0 (by decide) rfl k_26 d_D_rank_31 ea10 ?_
      refine hm_iload_n C d_D_rank_34 rfl 1 rfl ?_
      refine hm_iload_n C d_D_rank_35 rfl 2 rfl ?_
      obtain ⟨u11, eu11, hf⟩ := hm_bind hf
      obtain ⟨v12, h12, eh12, hf⟩ := hm_and_of hf
      refine hm_callVN (vs := [.int x1, .int x2]) (st := []) (sb := [.int v12]) C (c_N_moveTo eh12) Y_N_moveTo F_2 eu11 k_58 k_59 kM_11 (by decide) (by decide) rfl (Nat.le_of_ble_eq_true rfl) d_D_rank_36 rfl rfl ?_
      exact hm_iret C hr hlk d_D_rank_39 hf
    · have hf := hm_ifp hf z8
      refine hm_bipush (v := (-2 : Int32)) C d_D_rank_22 (by decide) ?_
      exact hm_iret C hr hlk d_D_rank_24 hf
set_option maxRecDepth 20000 in
theorem c_D_rank {E : hm_E} {l : Launch} {F : Nat} {r : Int32} {h h' : hm_T} {x0 : Nat} {x1 : Int32} {x2 : Int32} (hf : f_D_rank F x0 x1 x2 h = some (r, h')) : hm_M E l y_D_rank prog_1_method_5_code 3 (some .int) 2 46 [.ref x0, .int x1, .int x2] h (some (.int r)) h' :=
  hm_enter (by decide +kernel) (Nat.le_of_ble_eq_true rfl) (m_f_D_rank hf) (fun p e R s m below meth c C hr hlk hin => w_f_D_rank C hr hlk hf)
def f_D_ranked (F : Nat) (x0 : Nat) (x1 : Int32) (h : hm_T) : Option (Int32 × hm_T) :=
  (hm_gr 3 9 0 h x0).bind (fun a1 => (hm_is 2 5 h a1).bind (fun u2 => hm_and (f_N_has F a1 x1 h) (fun v3 h3 => (if v3 = 0 then some ((-2 : Int32), h3) else (hm_gr 3 9 0 h3 x0).bind (fun a5 => (hm_gr 2 5 3 h3 a5).bind (fun a6 => (hm_ild h3 a6 x1).bind (fun v7 => some (v7, h3))))))))
theorem m_f_D_ranked {F : Nat} {r : Int32} {h h' : hm_T} {x0 : Nat} {x1 : Int32} (hf : f_D_ranked F x0 x1 h = some (r, h')) : hm_le h h' := by
  unfold f_D_ranked at hf
  obtain ⟨a1, ea1, hf⟩ := hm_bind hf
  obtain ⟨u2, eu2, hf⟩ := hm_bind hf
  obtain ⟨v3, h3, eh3, hf⟩ := hm_and_of hf
  have mh3 := m_f_N_has eh3
  by_cases z4 : v3 = 0
  · have hf := hm_ifp hf z4
    exact mh3.tr ((hm_le.ret hf))
  · have hf := hm_ifn hf z4
    obtain ⟨a5, ea5, hf⟩ := hm_bind hf
    obtain ⟨a6, ea6, hf⟩ := hm_bind hf
    obtain ⟨v7, ev7, hf⟩ := hm_bind hf
    exact mh3.tr ((hm_le.ret hf))
set_option maxRecDepth 20000 in
set_option maxHeartbeats 1000000 in
theorem w_f_D_ranked {p : Program} {l : Launch} {e : Env} {R : Room} {s : State} {m : MethodId} {args : Array Value} {below : List Frame} {meth : Method} {c : Code} {E : hm_E} {n0 s0 F : Nat} {r : Int32} {h h' : hm_T} {x0 : Nat} {x1 : Int32} (C : hm_C E prog_1_method_6_code 2 "DistanceLabels" 1 21 n0 s0 (hm_n h') (hm_s h') p R s m args c) (hr : meth.sig.returnType = (some .int)) (hlk : meth.locks = false) (hf : f_D_ranked F x0 x1 h = some (r, h')) : hm_G E 2 n0 s0 (hm_n h') (hm_s h') p l e R s m args below meth c (MQ below (hm_Qc E (some (.int r)) h') args s (hm_n h' - n0) (hm_s h' - s0) (fun q => E.2.2 ≤ q)) 0 [(0, .ref x0), (1, .int x1)] [] h := by
  unfold f_D_ranked at hf
  refine hm_aload_n C d_D_ranked_0 rfl 0 rfl ?_
  obtain ⟨a1, ea1, hf⟩ := hm_bind hf
  refine hm_getR C F_3 0 (by decide) rfl k_26 d_D_ranked_1 ea1 ?_
  refine hm_iload_n C d_D_ranked_4 rfl 1 rfl ?_
  obtain ⟨u2, eu2, hf⟩ := hm_bind hf
  obtain ⟨v3, h3, eh3, hf⟩ := hm_and_of hf
  refine hm_callVN (vs := [.int x1]) (st := []) (sb := [.int v3]) C (c_N_has eh3) Y_N_has F_2 eu2 k_50 k_51 kM_10 (by decide) (by decide) rfl (Nat.le_of_ble_eq_true rfl) d_D_ranked_5 rfl rfl ?_
  refine hm_if_eq (tgt := 23) C d_D_ranked_8 (by decide) (fun z4 => ?_) (fun z4 => ?_)
  · have hf := hm_ifp hf z4
    refine hm_bipush (v := (-2 : Int32)) C d_D_ranked_23 (by decide) ?_
    exact hm_iret C hr hlk d_D_ranked_25 hf
  · have hf := hm_ifn hf z4
    refine hm_aload_n C d_D_ranked_11 rfl 0 rfl ?_
    obtain ⟨a5, ea5, hf⟩ := hm_bind hf
    refine hm_getR C F_3 0 (by decide) rfl k_26 d_D_ranked_12 ea5 ?_
    obtain ⟨a6, ea6, hf⟩ := hm_bind hf
    refine hm_getRN C F_2 3 (by decide) rfl kF_1 d_D_ranked_15 ea6 ?_
    refine hm_iload_n C d_D_ranked_18 rfl 1 rfl ?_
    obtain ⟨v7, ev7, hf⟩ := hm_bind hf
    refine hm_iaload C d_D_ranked_19 ev7 ?_
    refine hm_goto (tgt := 25) C d_D_ranked_20 (by decide) ?_
    exact hm_iret C hr hlk d_D_ranked_25 hf
set_option maxRecDepth 20000 in
theorem c_D_ranked {E : hm_E} {l : Launch} {F : Nat} {r : Int32} {h h' : hm_T} {x0 : Nat} {x1 : Int32} (hf : f_D_ranked F x0 x1 h = some (r, h')) : hm_M E l y_D_ranked prog_1_method_6_code 2 (some .int) 1 21 [.ref x0, .int x1] h (some (.int r)) h' :=
  hm_enter (by decide +kernel) (Nat.le_of_ble_eq_true rfl) (m_f_D_ranked hf) (fun p e R s m below meth c C hr hlk hin => w_f_D_ranked C hr hlk hf)
def f_D_landmark_70 (F : Nat) (x3 : Int32) (h : hm_T) : Option (Int32 × hm_T) :=
  (if x3 = 0 then some ((0 : Int32), h) else some ((1 : Int32), h))
def f_D_landmark_66 (F : Nat) (x3 : Int32) (t0 : Int32) (t1 : Int32) (t2 : Nat) (h : hm_T) : Option (Int32 × hm_T) :=
  (hm_pi 3 9 6 h t2 (t1 + t0)).bind (fun h1 => f_D_landmark_70 F x3 h1)
def f_D_landmark_40 (F : Nat) (x0 : Nat) (x1 : Int32) (x2 : Int32) (x3 : Int32) (h : hm_T) : Option (Int32 × hm_T) :=
  (if x2 = x3 then f_D_landmark_70 F x3 h else (hm_gr 3 9 5 h x0).bind (fun a2 => (hm_zst h a2 x1 x2).bind (fun h3 => (hm_gi 3 9 6 h3 x0).bind (fun v4 => (if x2 = 0 then f_D_landmark_66 F x3 (-1 : Int32) v4 x0 h3 else f_D_landmark_66 F x3 (1 : Int32) v4 x0 h3)))))
def f_D_landmark (F : Nat) (x0 : Nat) (x1 : Int32) (x2 : Int32) (h : hm_T) : Option (Int32 × hm_T) :=
  (hm_gr 3 9 0 h x0).bind (fun a1 => (hm_is 2 5 h a1).bind (fun u2 => hm_and (f_N_has F a1 x1 h) (fun v3 h3 => (if v3 = 0 then some ((-2 : Int32), h3) else (hm_gr 3 9 5 h3 x0).bind (fun a5 => (hm_zld h3 a5 x1).bind (fun v6 => (if x2 = 0 then f_D_landmark_40 F x0 x1 x2 v6 h3 else (if v6 = 0 then (hm_gi 3 9 6 h3 x0).bind (fun v9 => (if v9 < (4 : Int32) then f_D_landmark_40 F x0 x1 x2 v6 h3 else some ((-3 : Int32), h3))) else f_D_landmark_40 F x0 x1 x2 v6 h3))))))))
theorem m_f_D_landmark_70 {F : Nat} {r : Int32} {h h' : hm_T} {x3 : Int32} (hf : f_D_landmark_70 F x3 h = some (r, h')) : hm_le h h' := by
  unfold f_D_landmark_70 at hf
  by_cases z1 : x3 = 0
  · have hf := hm_ifp hf z1
    exact (hm_le.ret hf)
  · have hf := hm_ifn hf z1
    exact (hm_le.ret hf)
theorem m_f_D_landmark_66 {F : Nat} {r : Int32} {h h' : hm_T} {x3 : Int32} {t0 : Int32} {t1 : Int32} {t2 : Nat} (hf : f_D_landmark_66 F x3 t0 t1 t2 h = some (r, h')) : hm_le h h' := by
  unfold f_D_landmark_66 at hf
  obtain ⟨h1, eh1, hf⟩ := hm_bind hf
  have mh1 := hm_le.pi eh1
  exact mh1.tr ((m_f_D_landmark_70 hf))
theorem m_f_D_landmark_40 {F : Nat} {r : Int32} {h h' : hm_T} {x0 : Nat} {x1 : Int32} {x2 : Int32} {x3 : Int32} (hf : f_D_landmark_40 F x0 x1 x2 x3 h = some (r, h')) : hm_le h h' := by
  unfold f_D_landmark_40 at hf
  by_cases z1 : x2 = x3
  · have hf := hm_ifp hf z1
    exact (m_f_D_landmark_70 hf)
  · have hf := hm_ifn hf z1
    obtain ⟨a2, ea2, hf⟩ := hm_bind hf
    obtain ⟨h3, eh3, hf⟩ := hm_bind hf
    have mh3 := hm_le.zst eh3
    obtain ⟨v4, ev4, hf⟩ := hm_bind hf
    by_cases z5 : x2 = 0
    · have hf := hm_ifp hf z5
      exact mh3.tr ((m_f_D_landmark_66 hf))
    · have hf := hm_ifn hf z5
      exact mh3.tr ((m_f_D_landmark_66 hf))
theorem m_f_D_landmark {F : Nat} {r : Int32} {h h' : hm_T} {x0 : Nat} {x1 : Int32} {x2 : Int32} (hf : f_D_landmark F x0 x1 x2 h = some (r, h')) : hm_le h h' := by
  unfold f_D_landmark at hf
  obtain ⟨a1, ea1, hf⟩ := hm_bind hf
  obtain ⟨u2, eu2, hf⟩ := hm_bind hf
  obtain ⟨v3, h3, eh3, hf⟩ := hm_and_of hf
  have mh3 := m_f_N_has eh3
  by_cases z4 : v3 = 0
  · have hf := hm_ifp hf z4
    exact mh3.tr ((hm_le.ret hf))
  · have hf := hm_ifn hf z4
    obtain ⟨a5, ea5, hf⟩ := hm_bind hf
    obtain ⟨v6, ev6, hf⟩ := hm_bind hf
    by_cases z7 : x2 = 0
    · have hf := hm_ifp hf z7
      exact mh3.tr ((m_f_D_landmark_40 hf))
    · have hf := hm_ifn hf z7
      by_cases z8 : v6 = 0
      · have hf := hm_ifp hf z8
        obtain ⟨v9, ev9, hf⟩ := hm_bind hf
        by_cases z10 : v9 < (4 : Int32)
        · have hf := hm_ifp hf z10
          exact mh3.tr ((m_f_D_landmark_40 hf))
        · have hf := hm_ifn hf z10
          exact mh3.tr ((hm_le.ret hf))
      · have hf := hm_ifn hf z8
        exact mh3.tr ((m_f_D_landmark_40 hf))
set_option maxRecDepth 20000 in
set_option maxHeartbeats 1000000 in
theorem w_f_D_landmark_70 {p : Program} {l : Launch} {e : Env} {R : Room} {s : State} {m : MethodId} {args : Array Value} {below : List Frame} {meth : Method} {c : Code} {E : hm_E} {n0 s0 F : Nat} {r : Int32} {h h' : hm_T} {x3 : Int32} (C : hm_C E prog_1_method_7_code 4 "DistanceLabels" 1 21 n0 s0 (hm_n h') (hm_s h') p R s m args c) (hr : meth.sig.returnType = (some .int)) (hlk : meth.locks = false) (hf : f_D_landmark_70 F x3 h = some (r, h')) : hm_G E 4 n0 s0 (hm_n h') (hm_s h') p l e R s m args below meth c (MQ below (hm_Qc E (some (.int r)) h') args s (hm_n h' - n0) (hm_s h' - s0) (fun q => E.2.2 ≤ q)) 70 [(3, .int x3)] [] h := by
  unfold f_D_landmark_70 at hf
  refine hm_iload_n C d_D_landmark_70 rfl 0 rfl ?_
  refine hm_if_eq (tgt := 78) C d_D_landmark_71 (by decide) (fun z1 => ?_) (fun z1 => ?_)
  · have hf := hm_ifp hf z1
    refine hm_iconst (v := (0 : Int32)) C d_D_landmark_78 (by decide) ?_
    exact hm_iret C hr hlk d_D_landmark_79 hf
  · have hf := hm_ifn hf z1
    refine hm_iconst (v := (1 : Int32)) C d_D_landmark_74 (by decide) ?_
    refine hm_goto (tgt := 79) C d_D_landmark_75 (by decide) ?_
    exact hm_iret C hr hlk d_D_landmark_79 hf
set_option maxRecDepth 20000 in
set_option maxHeartbeats 1000000 in
theorem w_f_D_landmark_66 {p : Program} {l : Launch} {e : Env} {R : Room} {s : State} {m : MethodId} {args : Array Value} {below : List Frame} {meth : Method} {c : Code} {E : hm_E} {n0 s0 F : Nat} {r : Int32} {h h' : hm_T} {x3 : Int32} {t0 : Int32} {t1 : Int32} {t2 : Nat} (C : hm_C E prog_1_method_7_code 4 "DistanceLabels" 1 21 n0 s0 (hm_n h') (hm_s h') p R s m args c) (hr : meth.sig.returnType = (some .int)) (hlk : meth.locks = false) (hf : f_D_landmark_66 F x3 t0 t1 t2 h = some (r, h')) : hm_G E 4 n0 s0 (hm_n h') (hm_s h') p l e R s m args below meth c (MQ below (hm_Qc E (some (.int r)) h') args s (hm_n h' - n0) (hm_s h' - s0) (fun q => E.2.2 ≤ q)) 66 [(3, .int x3)] [.int t0, .int t1, .ref t2] h := by
  unfold f_D_landmark_66 at hf
  refine hm_iadd C d_D_landmark_66 ?_
  obtain ⟨h1, eh1, hf⟩ := hm_bind hf
  refine hm_putI C F_3 6 (by decide) rfl k_41 (Or.inl rfl) rfl d_D_landmark_67 eh1 ?_
  exact w_f_D_landmark_70 C hr hlk hf
set_option maxRecDepth 20000 in
set_option maxHeartbeats 1000000 in
theorem w_f_D_landmark_40 {p : Program} {l : Launch} {e : Env} {R : Room} {s : State} {m : MethodId} {args : Array Value} {below : List Frame} {meth : Method} {c : Code} {E : hm_E} {n0 s0 F : Nat} {r : Int32} {h h' : hm_T} {x0 : Nat} {x1 : Int32} {x2 : Int32} {x3 : Int32} (C : hm_C E prog_1_method_7_code 4 "DistanceLabels" 1 21 n0 s0 (hm_n h') (hm_s h') p R s m args c) (hr : meth.sig.returnType = (some .int)) (hlk : meth.locks = false) (hf : f_D_landmark_40 F x0 x1 x2 x3 h = some (r, h')) : hm_G E 4 n0 s0 (hm_n h') (hm_s h') p l e R s m args below meth c (MQ below (hm_Qc E (some (.int r)) h') args s (hm_n h' - n0) (hm_s h' - s0) (fun q => E.2.2 ≤ q)) 40 [(0, .ref x0), (1, .int x1), (2, .int x2), (3, .int x3)] [] h := by
  unfold f_D_landmark_40 at hf
  refine hm_iload_n C d_D_landmark_40 rfl 2 rfl ?_
  refine hm_iload_n C d_D_landmark_41 rfl 3 rfl ?_
  refine hm_icmp_eq (tgt := 70) C d_D_landmark_42 (by decide) (fun z1 => ?_) (fun z1 => ?_)
  · have hf := hm_ifp hf z1
    refine hm_sub (lv' := [(3, .int x3)]) [3] rfl ?_
    exact w_f_D_landmark_70 C hr hlk hf
  · have hf := hm_ifn hf z1
    refine hm_aload_n C d_D_landmark_45 rfl 0 rfl ?_
    obtain ⟨a2, ea2, hf⟩ := hm_bind hf
    refine hm_getR C F_3 5 (by decide) rfl k_40 d_D_landmark_46 ea2 ?_
    refine hm_iload_n C d_D_landmark_49 rfl 1 rfl ?_
    refine hm_iload_n C d_D_landmark_50 rfl 2 rfl ?_
    obtain ⟨h3, eh3, hf⟩ := hm_bind hf
    refine hm_bastore C d_D_landmark_51 eh3 ?_
    refine hm_aload_n C d_D_landmark_52 rfl 0 rfl ?_
    refine hm_dup C d_D_landmark_53 rfl ?_
    obtain ⟨v4, ev4, hf⟩ := hm_bind hf
    refine hm_getI C F_3 6 (by decide) rfl k_41 d_D_landmark_54 ev4 ?_
    refine hm_iload_n C d_D_landmark_57 rfl 2 rfl ?_
    refine hm_if_eq (tgt := 65) C d_D_landmark_58 (by decide) (fun z5 => ?_) (fun z5 => ?_)
    · have hf := hm_ifp hf z5
      refine hm_iconst (v := (-1 : Int32)) C d_D_landmark_65 (by decide) ?_
      refine hm_sub (lv' := [(3, .int x3)]) [3] rfl ?_
      exact w_f_D_landmark_66 C hr hlk hf
    · have hf := hm_ifn hf z5
      refine hm_iconst (v := (1 : Int32)) C d_D_landmark_61 (by decide) ?_
      refine hm_goto (tgt := 66) C d_D_landmark_62 (by decide) ?_
      refine hm_sub (lv' := [(3, .int x3)]) [3] rfl ?_
      exact w_f_D_landmark_66 C hr hlk hf
set_option maxRecDepth 20000 in
set_option maxHeartbeats 1000000 in
theorem w_f_D_landmark {p : Program} {l : Launch} {e : Env} {R : Room} {s : State} {m : MethodId} {args : Array Value} {below : List Frame} {meth : Method} {c : Code} {E : hm_E} {n0 s0 F : Nat} {r : Int32} {h h' : hm_T} {x0 : Nat} {x1 : Int32} {x2 : Int32} (C : hm_C E prog_1_method_7_code 4 "DistanceLabels" 1 21 n0 s0 (hm_n h') (hm_s h') p R s m args c) (hr : meth.sig.returnType = (some .int)) (hlk : meth.locks = false) (hf : f_D_landmark F x0 x1 x2 h = some (r, h')) : hm_G E 4 n0 s0 (hm_n h') (hm_s h') p l e R s m args below meth c (MQ below (hm_Qc E (some (.int r)) h') args s (hm_n h' - n0) (hm_s h' - s0) (fun q => E.2.2 ≤ q)) 0 [(0, .ref x0), (1, .int x1), (2, .int x2)] [] h := by
  unfold f_D_landmark at hf
  refine hm_aload_n C d_D_landmark_0 rfl 0 rfl ?_
  obtain ⟨a1, ea1, hf⟩ := hm_bind hf
  refine hm_getR C F_3 0 (by decide) rfl k_26 d_D_landmark_1 ea1 ?_
  refine hm_iload_n C d_D_landmark_4 rfl 1 rfl ?_
  obtain ⟨u2, eu2, hf⟩ := hm_bind hf
  obtain ⟨v3, h3, eh3, hf⟩ := hm_and_of hf
  refine hm_callVN (vs := [.int x1]) (st := []) (sb := [.int v3]) C (c_N_has eh3) Y_N_has F_2 eu2 k_50 k_51 kM_10 (by decide) (by decide) rfl (Nat.le_of_ble_eq_true rfl) d_D_landmark_5 rfl rfl ?_
  refine hm_if_ne (tgt := 14) C d_D_landmark_8 (by decide) (fun z4 => ?_) (fun z4 => ?_)
  · have hf := hm_ifn hf z4
    refine hm_aload_n C d_D_landmark_14 rfl 0 rfl ?_
    obtain ⟨a5, ea5, hf⟩ := hm_bind hf
    refine hm_getR C F_3 5 (by decide) rfl k_40 d_D_landmark_15 ea5 ?_
    refine hm_iload_n C d_D_landmark_18 rfl 1 rfl ?_
    obtain ⟨v6, ev6, hf⟩ := hm_bind hf
    refine hm_baload C d_D_landmark_19 ev6 ?_
    refine hm_istore_n (lv' := [(3, .int v6), (0, .ref x0), (1, .int x1), (2, .int x2)]) C d_D_landmark_20 rfl (by decide) rfl ?_
    refine hm_iload_n C d_D_landmark_21 rfl 3 rfl ?_
    refine hm_if_eq (tgt := 40) C d_D_landmark_22 (by decide) (fun z7 => ?_) (fun z7 => ?_)
    · have hf := hm_ifp hf z7
      refine hm_sub (lv' := [(0, .ref x0), (1, .int x1), (2, .int x2), (3, .int v6)]) [1, 2, 3, 0] rfl ?_
      exact w_f_D_landmark_40 C hr hlk hf
    · have hf := hm_ifn hf z7
      refine hm_iload_n C d_D_landmark_25 rfl 0 rfl ?_
      refine hm_if_ne (tgt := 40) C d_D_landmark_26 (by decide) (fun z8 => ?_) (fun z8 => ?_)
      · have hf := hm_ifn hf z8
        refine hm_sub (lv' := [(0, .ref x0), (1, .int x1), (2, .int x2), (3, .int v6)]) [1, 2, 3, 0] rfl ?_
        exact w_f_D_landmark_40 C hr hlk hf
      · have hf := hm_ifp hf z8
        refine hm_aload_n C d_D_landmark_29 rfl 1 rfl ?_
        obtain ⟨v9, ev9, hf⟩ := hm_bind hf
        refine hm_getI C F_3 6 (by decide) rfl k_41 d_D_landmark_30 ev9 ?_
        refine hm_iconst (v := (4 : Int32)) C d_D_landmark_33 (by decide) ?_
        refine hm_icmp_lt (tgt := 40) C d_D_landmark_34 (by decide) (fun z10 => ?_) (fun z10 => ?_)
        · have hf := hm_ifp hf z10
          refine hm_sub (lv' := [(0, .ref x0), (1, .int x1), (2, .int x2), (3, .int v6)]) [1, 2, 3, 0] rfl ?_
          exact w_f_D_landmark_40 C hr hlk hf
        · have hf := hm_ifn hf z10
          refine hm_bipush (v := (-3 : Int32)) C d_D_landmark_37 (by decide) ?_
          exact hm_iret C hr hlk d_D_landmark_39 hf
  · have hf := hm_ifp hf z4
    refine hm_bipush (v := (-2 : Int32)) C d_D_landmark_11 (by decide) ?_
    exact hm_iret C hr hlk d_D_landmark_13 hf
set_option maxRecDepth 20000 in
theorem c_D_landmark {E : hm_E} {l : Launch} {F : Nat} {r : Int32} {h h' : hm_T} {x0 : Nat} {x1 : Int32} {x2 : Int32} (hf : f_D_landmark F x0 x1 x2 h = some (r, h')) : hm_M E l y_D_landmark prog_1_method_7_code 4 (some .int) 1 21 [.ref x0, .int x1, .int x2] h (some (.int r)) h' :=
  hm_enter (by decide +kernel) (Nat.le_of_ble_eq_true rfl) (m_f_D_landmark hf) (fun p e R s m below meth c C hr hlk hin => w_f_D_landmark C hr hlk hf)
