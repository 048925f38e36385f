def f_D_copyAmong_46 (F : Nat) (k3 : Nat → Int32 → Nat → Nat → Int32 → hm_T → Option hm_T) (x0 : Nat) (x1 : Int32) (x2 : Nat) (x3 : Nat) (x4 : Int32) (h : hm_T) : Option hm_T :=
  k3 x0 x1 x2 x3 (x4 + (1 : Int32)) h
def g_D_copyAmong_12 (F : Nat) (k3 : Nat → Int32 → Nat → Nat → Int32 → hm_T → Option hm_T) (k12 : Nat → Int32 → Nat → Nat → Int32 → Int32 → hm_T → Option hm_T) (x0 : Nat) (x1 : Int32) (x2 : Nat) (x3 : Nat) (x4 : Int32) (x5 : Int32) (h : hm_T) : Option hm_T :=
  (if x1 ≤ x5 then f_D_copyAmong_46 F k3 x0 x1 x2 x3 x4 h else (hm_ild h x0 x4).bind (fun v2 => (hm_ald h x3 v2).bind (fun a3 => (hm_ild h x0 x5).bind (fun v4 => (hm_ild h x0 x4).bind (fun v5 => (hm_ald h x2 v5).bind (fun a6 => (hm_ild h x0 x5).bind (fun v7 => (hm_ild h a6 v7).bind (fun v8 => (hm_ist h a3 v4 v8).bind (fun h9 => k12 x0 x1 x2 x3 x4 (x5 + (1 : Int32)) h9)))))))))
def f_D_copyAmong_12 (F : Nat) (k3 : Nat → Int32 → Nat → Nat → Int32 → hm_T → Option hm_T) : Nat → Nat → Int32 → Nat → Nat → Int32 → Int32 → hm_T → Option hm_T
  | 0 => fun _ _ _ _ _ _ _ => none
  | n + 1 => g_D_copyAmong_12 F k3 (f_D_copyAmong_12 F k3 n)
def g_D_copyAmong_3 (F : Nat) (k3 : Nat → Int32 → Nat → Nat → Int32 → hm_T → Option hm_T) (x0 : Nat) (x1 : Int32) (x2 : Nat) (x3 : Nat) (x4 : Int32) (h : hm_T) : Option hm_T :=
  (if x1 ≤ x4 then some h else f_D_copyAmong_12 F k3 F x0 x1 x2 x3 x4 (0 : Int32) h)
def f_D_copyAmong_3 (F : Nat) : Nat → Nat → Int32 → Nat → Nat → Int32 → hm_T → Option hm_T
  | 0 => fun _ _ _ _ _ _ => none
  | n + 1 => g_D_copyAmong_3 F (f_D_copyAmong_3 F n)
def f_D_copyAmong (F : Nat) (x0 : Nat) (x1 : Int32) (x2 : Nat) (x3 : Nat) (h : hm_T) : Option hm_T :=
  f_D_copyAmong_3 F F x0 x1 x2 x3 (0 : Int32) h
theorem m_f_D_copyAmong_46 {F : Nat} {h h' : hm_T} {x0 : Nat} {x1 : Int32} {x2 : Nat} {x3 : Nat} {x4 : Int32} {k3 : Nat → Int32 → Nat → Nat → Int32 → hm_T → Option hm_T} (hk3 : ∀ (y0 : Nat) (y1 : Int32) (y2 : Nat) (y3 : Nat) (y4 : Int32) (g : hm_T), k3 y0 y1 y2 y3 y4 g = some h' → hm_le g h') (hf : f_D_copyAmong_46 F k3 x0 x1 x2 x3 x4 h = some h') : hm_le h h' := by
  unfold f_D_copyAmong_46 at hf
  exact (hk3 _ _ _ _ _ _ hf)
theorem m_g_D_copyAmong_12 {F : Nat} {h h' : hm_T} {x0 : Nat} {x1 : Int32} {x2 : Nat} {x3 : Nat} {x4 : Int32} {x5 : Int32} {k3 : Nat → Int32 → Nat → Nat → Int32 → hm_T → Option hm_T} {k12 : Nat → Int32 → Nat → Nat → Int32 → Int32 → hm_T → Option hm_T} (hk3 : ∀ (y0 : Nat) (y1 : Int32) (y2 : Nat) (y3 : Nat) (y4 : Int32) (g : hm_T), k3 y0 y1 y2 y3 y4 g = some h' → hm_le g h') (hk12 : ∀ (y0 : Nat) (y1 : Int32) (y2 : Nat) (y3 : Nat) (y4 : Int32) (y5 : Int32) (g : hm_T), k12 y0 y1 y2 y3 y4 y5 g = some h' → hm_le g h') (hf : g_D_copyAmong_12 F k3 k12 x0 x1 x2 x3 x4 x5 h = some h') : hm_le h h' := by
  unfold g_D_copyAmong_12 at hf
  by_cases z1 : x1 ≤ x5
  · have hf := hm_ifp hf z1
    exact (m_f_D_copyAmong_46 hk3 hf)
  · have hf := hm_ifn hf z1
    obtain ⟨v2, ev2, hf⟩ := hm_bind hf
    obtain ⟨a3, ea3, hf⟩ := hm_bind hf
    obtain ⟨v4, ev4, hf⟩ := hm_bind hf
    obtain ⟨v5, ev5, hf⟩ := hm_bind hf
    obtain ⟨a6, ea6, hf⟩ := hm_bind hf
    obtain ⟨v7, ev7, hf⟩ := hm_bind hf
    obtain ⟨v8, ev8, hf⟩ := hm_bind hf
    obtain ⟨h9, eh9, hf⟩ := hm_bind hf
    have mh9 := hm_le.ist eh9
    exact mh9.tr ((hk12 _ _ _ _ _ _ _ hf))
theorem m_D_copyAmong_12L {F : Nat} {h' : hm_T} {k3 : Nat → Int32 → Nat → Nat → Int32 → hm_T → Option hm_T} (hk3 : ∀ (y0 : Nat) (y1 : Int32) (y2 : Nat) (y3 : Nat) (y4 : Int32) (g : hm_T), k3 y0 y1 y2 y3 y4 g = some h' → hm_le g h') : ∀ (N : Nat) (x0 : Nat) (x1 : Int32) (x2 : Nat) (x3 : Nat) (x4 : Int32) (x5 : Int32) (h : hm_T), f_D_copyAmong_12 F k3 N x0 x1 x2 x3 x4 x5 h = some h' → hm_le h h' := by
  intro N
  induction N with
  | zero => intro _ _ _ _ _ _ _ hf; cases hf
  | succ n ih => intro x0 x1 x2 x3 x4 x5 h hf; exact m_g_D_copyAmong_12 hk3 ih hf
theorem m_g_D_copyAmong_3 {F : Nat} {h h' : hm_T} {x0 : Nat} {x1 : Int32} {x2 : Nat} {x3 : Nat} {x4 : Int32} {k3 : Nat → Int32 → Nat → Nat → Int32 → hm_T → Option hm_T} (hk3 : ∀ (y0 : Nat) (y1 : Int32) (y2 : Nat) (y3 : Nat) (y4 : Int32) (g : hm_T), k3 y0 y1 y2 y3 y4 g = some h' → hm_le g h') (hf : g_D_copyAmong_3 F k3 x0 x1 x2 x3 x4 h = some h') : hm_le h h' := by
  unfold g_D_copyAmong_3 at hf
  by_cases z1 : x1 ≤ x4
  · have hf := hm_ifp hf z1
    exact (hm_le.retv hf)
  · have hf := hm_ifn hf z1
    exact (m_D_copyAmong_12L hk3 _ _ _ _ _ _ _ _ hf)
theorem m_D_copyAmong_3L {F : Nat} {h' : hm_T} : ∀ (N : Nat) (x0 : Nat) (x1 : Int32) (x2 : Nat) (x3 : Nat) (x4 : Int32) (h : hm_T), f_D_copyAmong_3 F N x0 x1 x2 x3 x4 h = some h' → hm_le h h' := by
  intro N
  induction N with
  | zero => intro _ _ _ _ _ _ hf; cases hf
  | succ n ih => intro x0 x1 x2 x3 x4 h hf; exact m_g_D_copyAmong_3 ih hf
theorem m_f_D_copyAmong {F : Nat} {h h' : hm_T} {x0 : Nat} {x1 : Int32} {x2 : Nat} {x3 : Nat} (hf : f_D_copyAmong F x0 x1 x2 x3 h = some h') : hm_le h h' := by
  unfold f_D_copyAmong at hf
  exact (m_D_copyAmong_3L _ _ _ _ _ _ _ hf)
set_option maxRecDepth 20000 in
set_option maxHeartbeats 1000000 in
theorem w_f_D_copyAmong_46 {p : Program} {l : Launch} {e : Env} {R : Room} {s : State} {m : MethodId} {args : Array Value} {below : List Frame} {meth : Method} {c : Code} {E : hm_E} {n0 s0 F : Nat} {h h' : hm_T} {x0 : Nat} {x1 : Int32} {x2 : Nat} {x3 : Nat} {x4 : Int32} {k3 : Nat → Int32 → Nat → Nat → Int32 → hm_T → Option hm_T} (C : hm_C E prog_1_method_36_code 6 "DistanceLabels" 0 0 n0 s0 (hm_n h') (hm_s h') p R s m args c) (hr : meth.sig.returnType = none) (hlk : meth.locks = false) (hk3 : ∀ (y0 : Nat) (y1 : Int32) (y2 : Nat) (y3 : Nat) (y4 : Int32) (g : hm_T), k3 y0 y1 y2 y3 y4 g = some h' → hm_G E 6 n0 s0 (hm_n h') (hm_s h') p l e R s m args below meth c (MQ below (hm_Qc E none h') args s (hm_n h' - n0) (hm_s h' - s0) (fun q => E.2.2 ≤ q)) 3 [(0, .ref y0), (1, .int y1), (2, .ref y2), (3, .ref y3), (4, .int y4)] [] g) (hf : f_D_copyAmong_46 F k3 x0 x1 x2 x3 x4 h = some h') : hm_G E 6 n0 s0 (hm_n h') (hm_s h') p l e R s m args below meth c (MQ below (hm_Qc E none h') args s (hm_n h' - n0) (hm_s h' - s0) (fun q => E.2.2 ≤ q)) 46 [(0, .ref x0), (1, .int x1), (2, .ref x2), (3, .ref x3), (4, .int x4)] [] h := by
  unfold f_D_copyAmong_46 at hf
  refine hm_iinc (v := (x4 + (1 : Int32))) (lv' := [(4, .int (x4 + (1 : Int32))), (0, .ref x0), (1, .int x1), (2, .ref x2), (3, .ref x3)]) C d_D_copyAmong_46 4 rfl rfl (by decide) rfl ?_
  refine hm_goto (tgt := 3) C d_D_copyAmong_49 (by decide) ?_
  refine hm_sub (lv' := [(0, .ref x0), (1, .int x1), (2, .ref x2), (3, .ref x3), (4, .int (x4 + (1 : Int32)))]) [1, 2, 3, 4, 0] rfl ?_
  exact hk3 _ _ _ _ _ _ hf
set_option maxRecDepth 20000 in
set_option maxHeartbeats 1000000 in
theorem w_g_D_copyAmong_12 {p : Program} {l : Launch} {e : Env} {R : Room} {s : State} {m : MethodId} {args : Array Value} {below : List Frame} {meth : Method} {c : Code} {E : hm_E} {n0 s0 F : Nat} {h h' : hm_T} {x0 : Nat} {x1 : Int32} {x2 : Nat} {x3 : Nat} {x4 : Int32} {x5 : Int32} {k3 : Nat → Int32 → Nat → Nat → Int32 → hm_T → Option hm_T} {k12 : Nat → Int32 → Nat → Nat → Int32 → Int32 → hm_T → Option hm_T} (C : hm_C E prog_1_method_36_code 6 "DistanceLabels" 0 0 n0 s0 (hm_n h') (hm_s h') p R s m args c) (hr : meth.sig.returnType = none) (hlk : meth.locks = false) (hk3 : ∀ (y0 : Nat) (y1 : Int32) (y2 : Nat) (y3 : Nat) (y4 : Int32) (g : hm_T), k3 y0 y1 y2 y3 y4 g = some h' → hm_G E 6 n0 s0 (hm_n h') (hm_s h') p l e R s m args below meth c (MQ below (hm_Qc E none h') args s (hm_n h' - n0) (hm_s h' - s0) (fun q => E.2.2 ≤ q)) 3 [(0, .ref y0), (1, .int y1), (2, .ref y2), (3, .ref y3), (4, .int y4)] [] g) (hk12 : ∀ (y0 : Nat) (y1 : Int32) (y2 : Nat) (y3 : Nat) (y4 : Int32) (y5 : Int32) (g : hm_T), k12 y0 y1 y2 y3 y4 y5 g = some h' → hm_G E 6 n0 s0 (hm_n h') (hm_s h') p l e R s m args below meth c (MQ below (hm_Qc E none h') args s (hm_n h' - n0) (hm_s h' - s0) (fun q => E.2.2 ≤ q)) 12 [(0, .ref y0), (1, .int y1), (2, .ref y2), (3, .ref y3), (4, .int y4), (5, .int y5)] [] g) (hf : g_D_copyAmong_12 F k3 k12 x0 x1 x2 x3 x4 x5 h = some h') : hm_G E 6 n0 s0 (hm_n h') (hm_s h') p l e R s m args below meth c (MQ below (hm_Qc E none h') args s (hm_n h' - n0) (hm_s h' - s0) (fun q => E.2.2 ≤ q)) 12 [(0, .ref x0), (1, .int x1), (2, .ref x2), (3, .ref x3), (4, .int x4), (5, .int x5)] [] h := by
  unfold g_D_copyAmong_12 at hf
  refine hm_iload C d_D_copyAmong_12 5 rfl ?_
  refine hm_iload_n C d_D_copyAmong_14 rfl 1 rfl ?_
  refine hm_icmp_ge (tgt := 46) C d_D_copyAmong_15 (by decide) (fun z1 => ?_) (fun z1 => ?_)
  · have hf := hm_ifp hf z1
    refine hm_sub (lv' := [(0, .ref x0), (1, .int x1), (2, .ref x2), (3, .ref x3), (4, .int x4)]) [0, 1, 2, 3, 4] rfl ?_
    exact w_f_D_copyAmong_46 C hr hlk hk3 hf
  · have hf := hm_ifn hf z1
    refine hm_aload_n C d_D_copyAmong_18 rfl 3 rfl ?_
    refine hm_aload_n C d_D_copyAmong_19 rfl 0 rfl ?_
    refine hm_iload C d_D_copyAmong_20 4 rfl ?_
    obtain ⟨v2, ev2, hf⟩ := hm_bind hf
    refine hm_iaload C d_D_copyAmong_22 ev2 ?_
    obtain ⟨a3, ea3, hf⟩ := hm_bind hf
    refine hm_aaload C d_D_copyAmong_23 ea3 ?_
    refine hm_aload_n C d_D_copyAmong_24 rfl 0 rfl ?_
    refine hm_iload C d_D_copyAmong_25 5 rfl ?_
    obtain ⟨v4, ev4, hf⟩ := hm_bind hf
    refine hm_iaload C d_D_copyAmong_27 ev4 ?_
    refine hm_aload_n C d_D_copyAmong_28 rfl 2 rfl ?_
    refine hm_aload_n C d_D_copyAmong_29 rfl 0 rfl ?_
    refine hm_iload C d_D_copyAmong_30 4 rfl ?_
    obtain ⟨v5, ev5, hf⟩ := hm_bind hf
    refine hm_iaload C d_D_copyAmong_32 ev5 ?_
    obtain ⟨a6, ea6, hf⟩ := hm_bind hf
    refine hm_aaload C d_D_copyAmong_33 ea6 ?_
    refine hm_aload_n C d_D_copyAmong_34 rfl 0 rfl ?_
    refine hm_iload C d_D_copyAmong_35 5 rfl ?_
    obtain ⟨v7, ev7, hf⟩ := hm_bind hf
    refine hm_iaload C d_D_copyAmong_37 ev7 ?_
    obtain ⟨v8, ev8, hf⟩ := hm_bind hf
    refine hm_iaload C d_D_copyAmong_38 ev8 ?_
    obtain ⟨h9, eh9, hf⟩ := hm_bind hf
    refine hm_iastore C d_D_copyAmong_39 eh9 ?_
    refine hm_iinc (v := (x5 + (1 : Int32))) (lv' := [(5, .int (x5 + (1 : Int32))), (0, .ref x0), (1, .int x1), (2, .ref x2), (3, .ref x3), (4, .int x4)]) C d_D_copyAmong_40 5 rfl rfl (by decide) rfl ?_
    refine hm_goto (tgt := 12) C d_D_copyAmong_43 (by decide) ?_
    refine hm_sub (lv' := [(0, .ref x0), (1, .int x1), (2, .ref x2), (3, .ref x3), (4, .int x4), (5, .int (x5 + (1 : Int32)))]) [1, 2, 3, 4, 5, 0] rfl ?_
    exact hk12 _ _ _ _ _ _ _ hf
theorem w_D_copyAmong_12L {p : Program} {l : Launch} {e : Env} {R : Room} {s : State} {m : MethodId} {args : Array Value} {below : List Frame} {meth : Method} {c : Code} {E : hm_E} {n0 s0 F : Nat} {h' : hm_T} {k3 : Nat → Int32 → Nat → Nat → Int32 → hm_T → Option hm_T} (C : hm_C E prog_1_method_36_code 6 "DistanceLabels" 0 0 n0 s0 (hm_n h') (hm_s h') p R s m args c) (hr : meth.sig.returnType = none) (hlk : meth.locks = false) (hk3 : ∀ (y0 : Nat) (y1 : Int32) (y2 : Nat) (y3 : Nat) (y4 : Int32) (g : hm_T), k3 y0 y1 y2 y3 y4 g = some h' → hm_G E 6 n0 s0 (hm_n h') (hm_s h') p l e R s m args below meth c (MQ below (hm_Qc E none h') args s (hm_n h' - n0) (hm_s h' - s0) (fun q => E.2.2 ≤ q)) 3 [(0, .ref y0), (1, .int y1), (2, .ref y2), (3, .ref y3), (4, .int y4)] [] g) : ∀ (N : Nat) (x0 : Nat) (x1 : Int32) (x2 : Nat) (x3 : Nat) (x4 : Int32) (x5 : Int32) (h : hm_T), f_D_copyAmong_12 F k3 N x0 x1 x2 x3 x4 x5 h = some h' → hm_G E 6 n0 s0 (hm_n h') (hm_s h') p l e R s m args below meth c (MQ below (hm_Qc E none h') args s (hm_n h' - n0) (hm_s h' - s0) (fun q => E.2.2 ≤ q)) 12 [(0, .ref x0), (1, .int x1), (2, .ref x2), (3, .ref x3), (4, .int x4), (5, .int x5)] [] h := by
  intro N
  induction N with
  | zero => intro _ _ _ _ _ _ _ hf; cases hf
  | succ n ih => intro x0 x1 x2 x3 x4 x5 h hf; exact w_g_D_copyAmong_12 C hr hlk hk3 ih hf
set_option maxRecDepth 20000 in
set_option maxHeartbeats 1000000 in
theorem w_g_D_copyAmong_3 {p : Program} {l : Launch} {e : Env} {R : Room} {s : State} {m : MethodId} {args : Array Value} {below : List Frame} {meth : Method} {c : Code} {E : hm_E} {n0 s0 F : Nat} {h h' : hm_T} {x0 : Nat} {x1 : Int32} {x2 : Nat} {x3 : Nat} {x4 : Int32} {k3 : Nat → Int32 → Nat → Nat → Int32 → hm_T → Option hm_T} (C : hm_C E prog_1_method_36_code 6 "DistanceLabels" 0 0 n0 s0 (hm_n h') (hm_s h') p R s m args c) (hr : meth.sig.returnType = none) (hlk : meth.locks = false) (hk3 : ∀ (y0 : Nat) (y1 : Int32) (y2 : Nat) (y3 : Nat) (y4 : Int32) (g : hm_T), k3 y0 y1 y2 y3 y4 g = some h' → hm_G E 6 n0 s0 (hm_n h') (hm_s h') p l e R s m args below meth c (MQ below (hm_Qc E none h') args s (hm_n h' - n0) (hm_s h' - s0) (fun q => E.2.2 ≤ q)) 3 [(0, .ref y0), (1, .int y1), (2, .ref y2), (3, .ref y3), (4, .int y4)] [] g) (hf : g_D_copyAmong_3 F k3 x0 x1 x2 x3 x4 h = some h') : hm_G E 6 n0 s0 (hm_n h') (hm_s h') p l e R s m args below meth c (MQ below (hm_Qc E none h') args s (hm_n h' - n0) (hm_s h' - s0) (fun q => E.2.2 ≤ q)) 3 [(0, .ref x0), (1, .int x1), (2, .ref x2), (3, .ref x3), (4, .int x4)] [] h := by
  unfold g_D_copyAmong_3 at hf
  refine hm_iload C d_D_copyAmong_3 4 rfl ?_
  refine hm_iload_n C d_D_copyAmong_5 rfl 1 rfl ?_
  refine hm_icmp_ge (tgt := 52) C d_D_copyAmong_6 (by decide) (fun z1 => ?_) (fun z1 => ?_)
  · have hf := hm_ifp hf z1
    exact hm_vret C hr hlk d_D_copyAmong_52 hf
  · have hf := hm_ifn hf z1
    refine hm_iconst (v := (0 : Int32)) C d_D_copyAmong_9 (by decide) ?_
    refine hm_istore (lv' := [(5, .int (0 : Int32)), (0, .ref x0), (1, .int x1), (2, .ref x2), (3, .ref x3), (4, .int x4)]) C d_D_copyAmong_10 (by decide) rfl ?_
    refine hm_sub (lv' := [(0, .ref x0), (1, .int x1), (2, .ref x2), (3, .ref x3), (4, .int x4), (5, .int (0 : Int32))]) [1, 2, 3, 4, 5, 0] rfl ?_
    exact w_D_copyAmong_12L C hr hlk hk3 _ _ _ _ _ _ _ _ hf
theorem w_D_copyAmong_3L {p : Program} {l : Launch} {e : Env} {R : Room} {s : State} {m : MethodId} {args : Array Value} {below : List Frame} {meth : Method} {c : Code} {E : hm_E} {n0 s0 F : Nat} {h' : hm_T} (C : hm_C E prog_1_method_36_code 6 "DistanceLabels" 0 0 n0 s0 (hm_n h') (hm_s h') p R s m args c) (hr : meth.sig.returnType = none) (hlk : meth.locks = false) : ∀ (N : Nat) (x0 : Nat) (x1 : Int32) (x2 : Nat) (x3 : Nat) (x4 : Int32) (h : hm_T), f_D_copyAmong_3 F N x0 x1 x2 x3 x4 h = some h' → hm_G E 6 n0 s0 (hm_n h') (hm_s h') p l e R s m args below meth c (MQ below (hm_Qc E none h') args s (hm_n h' - n0) (hm_s h' - s0) (fun q => E.2.2 ≤ q)) 3 [(0, .ref x0), (1, .int x1), (2, .ref x2), (3, .ref x3), (4, .int x4)] [] h := by
  intro N
  induction N with
  | zero => intro _ _ _ _ _ _ hf; cases hf
  | succ n ih => intro x0 x1 x2 x3 x4 h hf; exact w_g_D_copyAmong_3 C hr hlk ih hf
set_option maxRecDepth 20000 in
set_option maxHeartbeats 1000000 in
theorem w_f_D_copyAmong {p : Program} {l : Launch} {e : Env} {R : Room} {s : State} {m : MethodId} {args : Array Value} {below : List Frame} {meth : Method} {c : Code} {E : hm_E} {n0 s0 F : Nat} {h h' : hm_T} {x0 : Nat} {x1 : Int32} {x2 : Nat} {x3 : Nat} (C : hm_C E prog_1_method_36_code 6 "DistanceLabels" 0 0 n0 s0 (hm_n h') (hm_s h') p R s m args c) (hr : meth.sig.returnType = none) (hlk : meth.locks = false) (hf : f_D_copyAmong F x0 x1 x2 x3 h = some h') : hm_G E 6 n0 s0 (hm_n h') (hm_s h') p l e R s m args below meth c (MQ below (hm_Qc E none h') args s (hm_n h' - n0) (hm_s h' - s0) (fun q => E.2.2 ≤ q)) 0 [(0, .ref x0), (1, .int x1), (2, .ref x2), (3, .ref x3)] [] h := by
  unfold f_D_copyAmong at hf
  refine hm_iconst (v := (0 : Int32)) C d_D_copyAmong_0 (by decide) ?_
  refine hm_istore (lv' := [(4, .int (0 : Int32)), (0, .ref x0), (1, .int x1), (2, .ref x2), (3, .ref x3)]) C d_D_copyAmong_1 (by decide) rfl ?_
  refine hm_sub (lv' := [(0, .ref x0), (1, .int x1), (2, .ref x2), (3, .ref x3), (4, .int (0 : Int32))]) [1, 2, 3, 4, 0] rfl ?_
  exact w_D_copyAmong_3L C hr hlk _ _ _ _ _ _ _ hf
set_option maxRecDepth 20000 in
theorem c_D_copyAmong {E : hm_E} {l : Launch} {F : Nat} {h h' : hm_T} {x0 : Nat} {x1 : Int32} {x2 : Nat} {x3 : Nat} (hf : f_D_copyAmong F x0 x1 x2 x3 h = some h') : hm_M E l y_D_copyAmong prog_1_method_36_code 6 none 0 0 [.ref x0, .int x1, .ref x2, .ref x3] h none h' :=
  hm_enter (by decide +kernel) (Nat.le_of_ble_eq_true rfl) (m_f_D_copyAmong hf) (fun p e R s m below meth c C hr hlk hin => w_f_D_copyAmong C hr hlk hf)
def f_D_isLess_15 (F : Nat) (h : hm_T) : Option (Int32 × hm_T) :=
  (hm_zr (1 : Int32)).bind (fun v1 => some (v1, h))
def f_D_isLess (F : Nat) (x0 : Int32) (x1 : Int32) (h : hm_T) : Option (Int32 × hm_T) :=
  (if x0 = (-1 : Int32) then (hm_zr (0 : Int32)).bind (fun v2 => some (v2, h)) else (if x1 = (-1 : Int32) then f_D_isLess_15 F h else (if x1 ≤ x0 then (hm_zr (0 : Int32)).bind (fun v5 => some (v5, h)) else f_D_isLess_15 F h)))
theorem m_f_D_isLess_15 {F : Nat} {r : Int32} {h h' : hm_T} (hf : f_D_isLess_15 F h = some (r, h')) : hm_le h h' := by
  unfold f_D_isLess_15 at hf
  obtain ⟨v1, ev1, hf⟩ := hm_bind hf
  exact (hm_le.ret hf)
theorem m_f_D_isLess {F : Nat} {r : Int32} {h h' : hm_T} {x0 : Int32} {x1 : Int32} (hf : f_D_isLess F x0 x1 h = some (r, h')) : hm_le h h' := by
  unfold f_D_isLess at hf
  by_cases z1 : x0 = (-1 : Int32)
  · have hf := hm_ifp hf z1
    obtain ⟨v2, ev2, hf⟩ := hm_bind hf
    exact (hm_le.ret hf)
  · have hf := hm_ifn hf z1
    by_cases z3 : x1 = (-1 : Int32)
    · have hf := hm_ifp hf z3
      exact (m_f_D_isLess_15 hf)
    · have hf := hm_ifn hf z3
      by_cases z4 : x1 ≤ x0
      · have hf := hm_ifp hf z4
        obtain ⟨v5, ev5, hf⟩ := hm_bind hf
        exact (hm_le.ret hf)
      · have hf := hm_ifn hf z4
        exact (m_f_D_isLess_15 hf)
set_option maxRecDepth 20000 in
set_option maxHeartbeats 1000000 in
theorem w_f_D_isLess_15 {p : Program} {l : Launch} {e : Env} {R : Room} {s : State} {m : MethodId} {args : Array Value} {below : List Frame} {meth : Method} {c : Code} {E : hm_E} {n0 s0 F : Nat} {r : Int32} {h h' : hm_T} (C : hm_C E prog_1_method_32_code 2 "DistanceLabels" 0 0 n0 s0 (hm_n h') (hm_s h') p R s m args c) (hr : meth.sig.returnType = (some .boolean)) (hlk : meth.locks = false) (hf : f_D_isLess_15 F h = some (r, h')) : hm_G E 2 n0 s0 (hm_n h') (hm_s h') p l e R s m args below meth c (MQ below (hm_Qc E (some (.int r)) h') args s (hm_n h' - n0) (hm_s h' - s0) (fun q => E.2.2 ≤ q)) 15 [] [] h := by
  unfold f_D_isLess_15 at hf
  refine hm_iconst (v := (1 : Int32)) C d_D_isLess_15 (by decide) ?_
  refine hm_goto (tgt := 20) C d_D_isLess_16 (by decide) ?_
  obtain ⟨v1, ev1, hf⟩ := hm_bind hf
  exact hm_zret C hr hlk d_D_isLess_20 ev1 hf
set_option maxRecDepth 20000 in
set_option maxHeartbeats 1000000 in
theorem w_f_D_isLess {p : Program} {l : Launch} {e : Env} {R : Room} {s : State} {m : MethodId} {args : Array Value} {below : List Frame} {meth : Method} {c : Code} {E : hm_E} {n0 s0 F : Nat} {r : Int32} {h h' : hm_T} {x0 : Int32} {x1 : Int32} (C : hm_C E prog_1_method_32_code 2 "DistanceLabels" 0 0 n0 s0 (hm_n h') (hm_s h') p R s m args c) (hr : meth.sig.returnType = (some .boolean)) (hlk : meth.locks = false) (hf : f_D_isLess F x0 x1 h = some (r, h')) : hm_G E 2 n0 s0 (hm_n h') (hm_s h') p l e R s m args below meth c (MQ below (hm_Qc E (some (.int r)) h') args s (hm_n h' - n0) (hm_s h' - s0) (fun q => E.2.2 ≤ q)) 0 [(0, .int x0), (1, .int x1)] [] h := by
  unfold f_D_isLess at hf
  refine hm_iload_n C d_D_isLess_0 rfl 0 rfl ?_
  refine hm_iconst (v := (-1 : Int32)) C d_D_isLess_1 (by decide) ?_
  refine hm_icmp_eq (tgt := 19) C d_D_isLess_2 (by decide) (fun z1 => ?_) (fun z1 => ?_)
  · have hf := hm_ifp hf z1
    refine hm_iconst (v := (0 : Int32)) C d_D_isLess_19 (by decide) ?_
    obtain ⟨v2, ev2, hf⟩ := hm_bind hf
    exact hm_zret C hr hlk d_D_isLess_20 ev2 hf
  · have hf := hm_ifn hf z1
    refine hm_iload_n C d_D_isLess_5 rfl 1 rfl ?_
    refine hm_iconst (v := (-1 : Int32)) C d_D_isLess_6 (by decide) ?_
    refine hm_icmp_eq (tgt := 15) C d_D_isLess_7 (by decide) (fun z3 => ?_) (fun z3 => ?_)
    · have hf := hm_ifp hf z3
      refine hm_sub (lv' := []) [] rfl ?_
      exact w_f_D_isLess_15 C hr hlk hf
    · have hf := hm_ifn hf z3
      refine hm_iload_n C d_D_isLess_10 rfl 0 rfl ?_
      refine hm_iload_n C d_D_isLess_11 rfl 1 rfl ?_
      refine hm_icmp_ge (tgt := 19) C d_D_isLess_12 (by decide) (fun z4 => ?_) (fun z4 => ?_)
      · have hf := hm_ifp hf z4
        refine hm_iconst (v := (0 : Int32)) C d_D_isLess_19 (by decide) ?_
        obtain ⟨v5, ev5, hf⟩ := hm_bind hf
        exact hm_zret C hr hlk d_D_isLess_20 ev5 hf
      · have hf := hm_ifn hf z4
        refine hm_sub (lv' := []) [] rfl ?_
        exact w_f_D_isLess_15 C hr hlk hf
set_option maxRecDepth 20000 in
theorem c_D_isLess {E : hm_E} {l : Launch} {F : Nat} {r : Int32} {h h' : hm_T} {x0 : Int32} {x1 : Int32} (hf : f_D_isLess F x0 x1 h = some (r, h')) : hm_M E l y_D_isLess prog_1_method_32_code 2 (some .boolean) 0 0 [.int x0, .int x1] h (some (.int r)) h' :=
  hm_enter (by decide +kernel) (Nat.le_of_ble_eq_true rfl) (m_f_D_isLess hf) (fun p e R s m below meth c C hr hlk hin => w_f_D_isLess C hr hlk hf)
def f_D_shortenRow_51 (F : Nat) (k3 : Nat → Int32 → Int32 → Nat → Nat → Int32 → hm_T → Option hm_T) (x0 : Nat) (x1 : Int32) (x2 : Int32) (x3 : Nat) (x4 : Nat) (x5 : Int32) (h : hm_T) : Option hm_T :=
  k3 x0 x1 x2 x3 x4 (x5 + (1 : Int32)) h
def g_D_shortenRow_3 (F : Nat) (k3 : Nat → Int32 → Int32 → Nat → Nat → Int32 → hm_T → Option hm_T) (x0 : Nat) (x1 : Int32) (x2 : Int32) (x3 : Nat) (x4 : Nat) (x5 : Int32) (h : hm_T) : Option hm_T :=
  (if x1 ≤ x5 then some h else (hm_ild h x0 x5).bind (fun v2 => (hm_ild h x3 v2).bind (fun v3 => (if v3 = (-1 : Int32) then f_D_shortenRow_51 F k3 x0 x1 x2 x3 x4 x5 h else (hm_ild h x4 v2).bind (fun v5 => hm_and (f_D_isLess F (x2 + v3) v5 h) (fun v6 h6 => (if v6 = 0 then f_D_shortenRow_51 F k3 x0 x1 x2 x3 x4 x5 h6 else (hm_ist h6 x4 v2 (x2 + v3)).bind (fun h8 => f_D_shortenRow_51 F k3 x0 x1 x2 x3 x4 x5 h8))))))))
def f_D_shortenRow_3 (F : Nat) : Nat → Nat → Int32 → Int32 → Nat → Nat → Int32 → hm_T → Option hm_T
  | 0 => fun _ _ _ _ _ _ _ => none
  | n + 1 => g_D_shortenRow_3 F (f_D_shortenRow_3 F n)
def f_D_shortenRow (F : Nat) (x0 : Nat) (x1 : Int32) (x2 : Int32) (x3 : Nat) (x4 : Nat) (h : hm_T) : Option hm_T :=
  f_D_shortenRow_3 F F x0 x1 x2 x3 x4 (0 : Int32) h
theorem m_f_D_shortenRow_51 {F : Nat} {h h' : hm_T} {x0 : Nat} {x1 : Int32} {x2 : Int32} {x3 : Nat} {x4 : Nat} {x5 : Int32} {k3 : Nat → Int32 → Int32 → Nat → Nat → Int32 → hm_T → Option hm_T} (hk3 : ∀ (y0 : Nat) (y1 : Int32) (y2 : Int32) (y3 : Nat) (y4 : Nat) (y5 : Int32) (g : hm_T), k3 y0 y1 y2 y3 y4 y5 g = some h' → hm_le g h') (hf : f_D_shortenRow_51 F k3 x0 x1 x2 x3 x4 x5 h = some h') : hm_le h h' := by
  unfold f_D_shortenRow_51 at hf
  exact (hk3 _ _ _ _ _ _ _ hf)
theorem m_g_D_shortenRow_3 {F : Nat} {h h' : hm_T} {x0 : Nat} {x1 : Int32} {x2 : Int32} {x3 : Nat} {x4 : Nat} {x5 : Int32} {k3 : Nat → Int32 → Int32 → Nat → Nat → Int32 → hm_T → Option hm_T} (hk3 : ∀ (y0 : Nat) (y1 : Int32) (y2 : Int32) (y3 : Nat) (y4 : Nat) (y5 : Int32) (g : hm_T), k3 y0 y1 y2 y3 y4 y5 g = some h' → hm_le g h') (hf : g_D_shortenRow_3 F k3 x0 x1 x2 x3 x4 x5 h = some h') : hm_le h h' := by
  unfold g_D_shortenRow_3 at hf
  by_cases z1 : x1 ≤ x5
  · have hf := hm_ifp hf z1
    exact (hm_le.retv hf)
  · have hf := hm_ifn hf z1
    obtain ⟨v2, ev2, hf⟩ := hm_bind hf
    obtain ⟨v3, ev3, hf⟩ := hm_bind hf
    by_cases z4 : v3 = (-1 : Int32)
    · have hf := hm_ifp hf z4
      exact (m_f_D_shortenRow_51 hk3 hf)
    · have hf := hm_ifn hf z4
      obtain ⟨v5, ev5, hf⟩ := hm_bind hf
      obtain ⟨v6, h6, eh6, hf⟩ := hm_and_of hf
      have mh6 := m_f_D_isLess eh6
      by_cases z7 : v6 = 0
      · have hf := hm_ifp hf z7
        exact mh6.tr ((m_f_D_shortenRow_51 hk3 hf))
      · have hf := hm_ifn hf z7
        obtain ⟨h8, eh8, hf⟩ := hm_bind hf
        have mh8 := hm_le.ist eh8
        exact mh6.tr (mh8.tr ((m_f_D_shortenRow_51 hk3 hf)))
theorem m_D_shortenRow_3L {F : Nat} {h' : hm_T} : ∀ (N : Nat) (x0 : Nat) (x1 : Int32) (x2 : Int32) (x3 : Nat) (x4 : Nat) (x5 : Int32) (h : hm_T), f_D_shortenRow_3 F N x0 x1 x2 x3 x4 x5 h = some h' → hm_le h h' := by
  intro N
  induction N with
  | zero => intro _ _ _ _ _ _ _ hf; cases hf
  | succ n ih => intro x0 x1 x2 x3 x4 x5 h hf; exact m_g_D_shortenRow_3 ih hf
theorem m_f_D_shortenRow {F : Nat} {h h' : hm_T} {x0 : Nat} {x1 : Int32} {x2 : Int32} {x3 : Nat} {x4 : Nat} (hf : f_D_shortenRow F x0 x1 x2 x3 x4 h = some h') : hm_le h h' := by
  unfold f_D_shortenRow at hf
  exact (m_D_shortenRow_3L _ _ _ _ _ _ _ _ hf)
set_option maxRecDepth 20000 in
set_option maxHeartbeats 1000000 in
theorem w_f_D_shortenRow_51 {p : Program} {l : Launch} {e : Env} {R : Room} {s : State} {m : MethodId} {args : Array Value} {below : List Frame} {meth : Method} {c : Code} {E : hm_E} {n0 s0 F : Nat} {h h' : hm_T} {x0 : Nat} {x1 : Int32} {x2 : Int32} {x3 : Nat} {x4 : Nat} {x5 : Int32} {k3 : Nat → Int32 → Int32 → Nat → Nat → Int32 → hm_T → Option hm_T} (C : hm_C E prog_1_method_38_code 8 "DistanceLabels" 1 21 n0 s0 (hm_n h') (hm_s h') p R s m args c) (hr : meth.sig.returnType = none) (hlk : meth.locks = false) (hk3 : ∀ (y0 : Nat) (y1 : Int32) (y2 : Int32) (y3 : Nat) (y4 : Nat) (y5 : Int32) (g : hm_T), k3 y0 y1 y2 y3 y4 y5 g = some h' → hm_G E 8 n0 s0 (hm_n h') (hm_s h') p l e R s m args below meth c (MQ below (hm_Qc E none h') args s (hm_n h' - n0) (hm_s h' - s0) (fun q => E.2.2 ≤ q)) 3 [(0, .ref y0), (1, .int y1), (2, .int y2), (3, .ref y3), (4, .ref y4), (5, .int y5)] [] g) (hf : f_D_shortenRow_51 F k3 x0 x1 x2 x3 x4 x5 h = some h') : hm_G E 8 n0 s0 (hm_n h') (hm_s h') p l e R s m args below meth c (MQ below (hm_Qc E none h') args s (hm_n h' - n0) (hm_s h' - s0) (fun q => E.2.2 ≤ q)) 51 [(0, .ref x0), (1, .int x1), (2, .int x2), (3, .ref x3), (4, .ref x4), (5, .int x5)] [] h := by
  unfold f_D_shortenRow_51 at hf
  refine hm_iinc (v := (x5 + (1 : Int32))) (lv' := [(5, .int (x5 + (1 : Int32))), (0, .ref x0), (1, .int x1), (2, .int x2), (3, .ref x3), (4, .ref x4)]) C d_D_shortenRow_51 5 rfl rfl (by decide) rfl ?_
  refine hm_goto (tgt := 3) C d_D_shortenRow_54 (by decide) ?_
  refine hm_sub (lv' := [(0, .ref x0), (1, .int x1), (2, .int x2), (3, .ref x3), (4, .ref x4), (5, .int (x5 + (1 : Int32)))]) [1, 2, 3, 4, 5, 0] rfl ?_
  exact hk3 _ _ _ _ _ _ _ hf
set_option maxRecDepth 20000 in
set_option maxHeartbeats 1000000 in
theorem w_g_D_shortenRow_3 {p : Program} {l : Launch} {e : Env} {R : Room} {s : State} {m : MethodId} {args : Array Value} {below : List Frame} {meth : Method} {c : Code} {E : hm_E} {n0 s0 F : Nat} {h h' : hm_T} {x0 : Nat} {x1 : Int32} {x2 : Int32} {x3 : Nat} {x4 : Nat} {x5 : Int32} {k3 : Nat → Int32 → Int32 → Nat → Nat → Int32 → hm_T → Option hm_T} (C : hm_C E prog_1_method_38_code 8 "DistanceLabels" 1 21 n0 s0 (hm_n h') (hm_s h') p R s m args c) (hr : meth.sig.returnType = none) (hlk : meth.locks = false) (hk3 : ∀ (y0 : Nat) (y1 : Int32) (y2 : Int32) (y3 : Nat) (y4 : Nat) (y5 : Int32) (g : hm_T), k3 y0 y1 y2 y3 y4 y5 g = some h' → hm_G E 8 n0 s0 (hm_n h') (hm_s h') p l e R s m args below meth c (MQ below (hm_Qc E none h') args s (hm_n h' - n0) (hm_s h' - s0) (fun q => E.2.2 ≤ q)) 3 [(0, .ref y0), (1, .int y1), (2, .int y2), (3, .ref y3), (4, .ref y4), (5, .int y5)] [] g) (hf : g_D_shortenRow_3 F k3 x0 x1 x2 x3 x4 x5 h = some h') : hm_G E 8 n0 s0 (hm_n h') (hm_s h') p l e R s m args below meth c (MQ below (hm_Qc E none h') args s (hm_n h' - n0) (hm_s h' - s0) (fun q => E.2.2 ≤ q)) 3 [(0, .ref x0), (1, .int x1), (2, .int x2), (3, .ref x3), (4, .ref x4), (5, .int x5)] [] h := by
  unfold g_D_shortenRow_3 at hf
  refine hm_iload C d_D_shortenRow_3 5 rfl ?_
  refine hm_iload_n C d_D_shortenRow_5 rfl 1 rfl ?_
  refine hm_icmp_ge (tgt := 57) C d_D_shortenRow_6 (by decide) (fun z1 => ?_) (fun z1 => ?_)
  · have hf := hm_ifp hf z1
    exact hm_vret C hr hlk d_D_shortenRow_57 hf
  · have hf := hm_ifn hf z1
    refine hm_aload_n C d_D_shortenRow_9 rfl 0 rfl ?_
    refine hm_iload C d_D_shortenRow_10 5 rfl ?_
    obtain ⟨v2, ev2, hf⟩ := hm_bind hf
    refine hm_iaload C d_D_shortenRow_12 ev2 ?_
    refine hm_istore (lv' := [(6, .int v2), (0, .ref x0), (1, .int x1), (2, .int x2), (3, .ref x3), (4, .ref x4), (5, .int x5)]) C d_D_shortenRow_13 (by decide) rfl ?_
    refine hm_aload_n C d_D_shortenRow_15 rfl 4 rfl ?_
    refine hm_iload C d_D_shortenRow_16 0 rfl ?_
    obtain ⟨v3, ev3, hf⟩ := hm_bind hf
    refine hm_iaload C d_D_shortenRow_18 ev3 ?_
    refine hm_istore (lv' := [(7, .int v3), (6, .int v2), (0, .ref x0), (1, .int x1), (2, .int x2), (3, .ref x3), (4, .ref x4), (5, .int x5)]) C d_D_shortenRow_19 (by decide) rfl ?_
    refine hm_iload C d_D_shortenRow_21 0 rfl ?_
    refine hm_iconst (v := (-1 : Int32)) C d_D_shortenRow_23 (by decide) ?_
    refine hm_icmp_eq (tgt := 51) C d_D_shortenRow_24 (by decide) (fun z4 => ?_) (fun z4 => ?_)
    · have hf := hm_ifp hf z4
      refine hm_sub (lv' := [(0, .ref x0), (1, .int x1), (2, .int x2), (3, .ref x3), (4, .ref x4), (5, .int x5)]) [2, 3, 4, 5, 6, 7] rfl ?_
      exact w_f_D_shortenRow_51 C hr hlk hk3 hf
    · have hf := hm_ifn hf z4
      refine hm_iload_n C d_D_shortenRow_27 rfl 4 rfl ?_
      refine hm_iload C d_D_shortenRow_28 0 rfl ?_
      refine hm_iadd C d_D_shortenRow_30 ?_
      refine hm_aload C d_D_shortenRow_31 6 rfl ?_
      refine hm_iload C d_D_shortenRow_33 1 rfl ?_
      obtain ⟨v5, ev5, hf⟩ := hm_bind hf
      refine hm_iaload C d_D_shortenRow_35 ev5 ?_
      obtain ⟨v6, h6, eh6, hf⟩ := hm_and_of hf
      refine hm_callS (vs := [.int (x2 + v3), .int v5]) (st := []) (sb := [.int v6]) C (c_D_isLess eh6) Y_D_isLess k_61 k_60 (by decide) (by decide) rfl (Nat.le_of_ble_eq_true rfl) d_D_shortenRow_36 rfl rfl ?_
      refine hm_if_eq (tgt := 51) C d_D_shortenRow_39 (by decide) (fun z7 => ?_) (fun z7 => ?_)
      · have hf := hm_ifp hf z7
        refine hm_sub (lv' := [(0, .ref x0), (1, .int x1), (2, .int x2), (3, .ref x3), (4, .ref x4), (5, .int x5)]) [2, 3, 4, 5, 6, 7] rfl ?_
        exact w_f_D_shortenRow_51 C hr hlk hk3 hf
      · have hf := hm_ifn hf z7
        refine hm_aload C d_D_shortenRow_42 6 rfl ?_
        refine hm_iload C d_D_shortenRow_44 1 rfl ?_
        refine hm_iload_n C d_D_shortenRow_46 rfl 4 rfl ?_
        refine hm_iload C d_D_shortenRow_47 0 rfl ?_
        refine hm_iadd C d_D_shortenRow_49 ?_
        obtain ⟨h8, eh8, hf⟩ := hm_bind hf
        refine hm_iastore C d_D_shortenRow_50 eh8 ?_
        refine hm_sub (lv' := [(0, .ref x0), (1, .int x1), (2, .int x2), (3, .ref x3), (4, .ref x4), (5, .int x5)]) [2, 3, 4, 5, 6, 7] rfl ?_
        exact w_f_D_shortenRow_51 C hr hlk hk3 hf
theorem w_D_shortenRow_3L {p : Program} {l : Launch} {e : Env} {R : Room} {s : State} {m : MethodId} {args : Array Value} {below : List Frame} {meth : Method} {c : Code} {E : hm_E} {n0 s0 F : Nat} {h' : hm_T} (C : hm_C E prog_1_method_38_code 8 "DistanceLabels" 1 21 n0 s0 (hm_n h') (hm_s h') p R s m args c) (hr : meth.sig.returnType = none) (hlk : meth.locks = false) : ∀ (N : Nat) (x0 : Nat) (x1 : Int32) (x2 : Int32) (x3 : Nat) (x4 : Nat) (x5 : Int32) (h : hm_T), f_D_shortenRow_3 F N x0 x1 x2 x3 x4 x5 h = some h' → hm_G E 8 n0 s0 (hm_n h') (hm_s h') p l e R s m args below meth c (MQ below (hm_Qc E none h') args s (hm_n h' - n0) (hm_s h' - s0) (fun q => E.2.2 ≤ q)) 3 [(0, .ref x0), (1, .int x1), (2, .int x2), (3, .ref x3), (4, .ref x4), (5, .int x5)] [] h := by
  intro N
  induction N with
  | zero => intro _ _ _ _ _ _ _ hf; cases hf
  | succ n ih => intro x0 x1 x2 x3 x4 x5 h hf; exact w_g_D_shortenRow_3 C hr hlk ih hf
set_option maxRecDepth 20000 in
set_option maxHeartbeats 1000000 in
theorem w_f_D_shortenRow {p : Program} {l : Launch} {e : Env} {R : Room} {s : State} {m : MethodId} {args : Array Value} {below : List Frame} {meth : Method} {c : Code} {E : hm_E} {n0 s0 F : Nat} {h h' : hm_T} {x0 : Nat} {x1 : Int32} {x2 : Int32} {x3 : Nat} {x4 : Nat} (C : hm_C E prog_1_method_38_code 8 "DistanceLabels" 1 21 n0 s0 (hm_n h') (hm_s h') p R s m args c) (hr : meth.sig.returnType = none) (hlk : meth.locks = false) (hf : f_D_shortenRow F x0 x1 x2 x3 x4 h = some h') : hm_G E 8 n0 s0 (hm_n h') (hm_s h') p l e R s m args below meth c (MQ below (hm_Qc E none h') args s (hm_n h' - n0) (hm_s h' - s0) (fun q => E.2.2 ≤ q)) 0 [(0, .ref x0), (1, .int x1), (2, .int x2), (3, .ref x3), (4, .ref x4)] [] h := by
  unfold f_D_shortenRow at hf
  refine hm_iconst (v := (0 : Int32)) C d_D_shortenRow_0 (by decide) ?_
  refine hm_istore (lv' := [(5, .int (0 : Int32)), (0, .ref x0), (1, .int x1), (2, .int x2), (3, .ref x3), (4, .ref x4)]) C d_D_shortenRow_1 (by decide) rfl ?_
  refine hm_sub (lv' := [(0, .ref x0), (1, .int x1), (2, .int x2), (3, .ref x3), (4, .ref x4), (5, .int (0 : Int32))]) [1, 2, 3, 4, 5, 0] rfl ?_
  exact w_D_shortenRow_3L C hr hlk _ _ _ _ _ _ _ _ hf
set_option maxRecDepth 20000 in
theorem c_D_shortenRow {E : hm_E} {l : Launch} {F : Nat} {h h' : hm_T} {x0 : Nat} {x1 : Int32} {x2 : Int32} {x3 : Nat} {x4 : Nat} (hf : f_D_shortenRow F x0 x1 x2 x3 x4 h = some h') : hm_M E l y_D_shortenRow prog_1_method_38_code 8 none 1 21 [.ref x0, .int x1, .int x2, .ref x3, .ref x4] h none h' :=
  hm_enter (by decide +kernel) (Nat.le_of_ble_eq_true rfl) (m_f_D_shortenRow hf) (fun p e R s m below meth c C hr hlk hin => w_f_D_shortenRow C hr hlk hf)
def f_D_shortenAmong_61 (F : Nat) (k2 : Nat → Int32 → Nat → Int32 → hm_T → Option hm_T) (x0 : Nat) (x1 : Int32) (x2 : Nat) (x3 : Int32) (h : hm_T) : Option hm_T :=
  k2 x0 x1 x2 (x3 + (1 : Int32)) h
def f_D_shortenAmong_55 (F : Nat) (k15 : Nat → Int32 → Nat → Int32 → Int32 → Int32 → hm_T → Option hm_T) (x0 : Nat) (x1 : Int32) (x2 : Nat) (x3 : Int32) (x4 : Int32) (x5 : Int32) (h : hm_T) : Option hm_T :=
  k15 x0 x1 x2 x3 x4 (x5 + (1 : Int32)) h
def g_D_shortenAmong_15 (F : Nat) (k2 : Nat → Int32 → Nat → Int32 → hm_T → Option hm_T) (k15 : Nat → Int32 → Nat → Int32 → Int32 → Int32 → hm_T → Option hm_T) (x0 : Nat) (x1 : Int32) (x2 : Nat) (x3 : Int32) (x4 : Int32) (x5 : Int32) (h : hm_T) : Option hm_T :=
  (if x1 ≤ x5 then f_D_shortenAmong_61 F k2 x0 x1 x2 x3 h else (hm_ild h x0 x5).bind (fun v2 => (hm_ald h x2 v2).bind (fun a3 => (hm_ild h a3 x4).bind (fun v4 => (if v4 = (-1 : Int32) then f_D_shortenAmong_55 F k15 x0 x1 x2 x3 x4 x5 h else (hm_ald h x2 x4).bind (fun a6 => (hm_ild h x0 x5).bind (fun v7 => (hm_ald h x2 v7).bind (fun a8 => (f_D_shortenRow F x0 x1 v4 a6 a8 h).bind (fun h9 => f_D_shortenAmong_55 F k15 x0 x1 x2 x3 x4 x5 h9)))))))))
def f_D_shortenAmong_15 (F : Nat) (k2 : Nat → Int32 → Nat → Int32 → hm_T → Option hm_T) : Nat → Nat → Int32 → Nat → Int32 → Int32 → Int32 → hm_T → Option hm_T
  | 0 => fun _ _ _ _ _ _ _ => none
  | n + 1 => g_D_shortenAmong_15 F k2 (f_D_shortenAmong_15 F k2 n)
def g_D_shortenAmong_2 (F : Nat) (k2 : Nat → Int32 → Nat → Int32 → hm_T → Option hm_T) (x0 : Nat) (x1 : Int32) (x2 : Nat) (x3 : Int32) (h : hm_T) : Option hm_T :=
  (if x1 ≤ x3 then some h else (hm_ild h x0 x3).bind (fun v2 => f_D_shortenAmong_15 F k2 F x0 x1 x2 x3 v2 (0 : Int32) h))
def f_D_shortenAmong_2 (F : Nat) : Nat → Nat → Int32 → Nat → Int32 → hm_T → Option hm_T
  | 0 => fun _ _ _ _ _ => none
  | n + 1 => g_D_shortenAmong_2 F (f_D_shortenAmong_2 F n)
def f_D_shortenAmong (F : Nat) (x0 : Nat) (x1 : Int32) (x2 : Nat) (h : hm_T) : Option hm_T :=
  f_D_shortenAmong_2 F F x0 x1 x2 (0 : Int32) h
theorem m_f_D_shortenAmong_61 {F : Nat} {h h' : hm_T} {x0 : Nat} {x1 : Int32} {x2 : Nat} {x3 : Int32} {k2 : Nat → Int32 → Nat → Int32 → hm_T → Option hm_T} (hk2 : ∀ (y0 : Nat) (y1 : Int32) (y2 : Nat) (y3 : Int32) (g : hm_T), k2 y0 y1 y2 y3 g = some h' → hm_le g h') (hf : f_D_shortenAmong_61 F k2 x0 x1 x2 x3 h = some h') : hm_le h h' := by
  unfold f_D_shortenAmong_61 at hf
  exact (hk2 _ _ _ _ _ hf)
theorem m_f_D_shortenAmong_55 {F : Nat} {h h' : hm_T} {x0 : Nat} {x1 : Int32} {x2 : Nat} {x3 : Int32} {x4 : Int32} {x5 : Int32} {k15 : Nat → Int32 → Nat → Int32 → Int32 → Int32 → hm_T → Option hm_T} (hk15 : ∀ (y0 : Nat) (y1 : Int32) (y2 : Nat) (y3 : Int32) (y4 : Int32) (y5 : Int32) (g : hm_T), k15 y0 y1 y2 y3 y4 y5 g = some h' → hm_le g h') (hf : f_D_shortenAmong_55 F k15 x0 x1 x2 x3 x4 x5 h = some h') : hm_le h h' := by
  unfold f_D_shortenAmong_55 at hf
  exact (hk15 _ _ _ _ _ _ _ hf)
theorem m_g_D_shortenAmong_15 {F : Nat} {h h' : hm_T} {x0 : Nat} {x1 : Int32} {x2 : Nat} {x3 : Int32} {x4 : Int32} {x5 : Int32} {k2 : Nat → Int32 → Nat → Int32 → hm_T → Option hm_T} {k15 : Nat → Int32 → Nat → Int32 → Int32 → Int32 → hm_T → Option hm_T} (hk2 : ∀ (y0 : Nat) (y1 : Int32) (y2 : Nat) (y3 : Int32) (g : hm_T), k2 y0 y1 y2 y3 g = some h' → hm_le g h') (hk15 : ∀ (y0 : Nat) (y1 : Int32) (y2 : Nat) (y3 : Int32) (y4 : Int32) (y5 : Int32) (g : hm_T), k15 y0 y1 y2 y3 y4 y5 g = some h' → hm_le g h') (hf : g_D_shortenAmong_15 F k2 k15 x0 x1 x2 x3 x4 x5 h = some h') : hm_le h h' := by
  unfold g_D_shortenAmong_15 at hf
  by_cases z1 : x1 ≤ x5
  · have hf := hm_ifp hf z1
    exact (m_f_D_shortenAmong_61 hk2 hf)
  · have hf := hm_ifn hf z1
    obtain ⟨v2, ev2, hf⟩ := hm_bind hf
    obtain ⟨a3, ea3, hf⟩ := hm_bind hf
    obtain ⟨v4, ev4, hf⟩ := hm_bind hf
    by_cases z5 : v4 = (-1 : Int32)
    · have hf := hm_ifp hf z5
      exact (m_f_D_shortenAmong_55 hk15 hf)
    · have hf := hm_ifn hf z5
      obtain ⟨a6, ea6, hf⟩ := hm_bind hf
      obtain ⟨v7, ev7, hf⟩ := hm_bind hf
      obtain ⟨a8, ea8, hf⟩ := hm_bind hf
      obtain ⟨h9, eh9, hf⟩ := hm_bind hf
      have mh9 := m_f_D_shortenRow eh9
      exact mh9.tr ((m_f_D_shortenAmong_55 hk15 hf))
theorem m_D_shortenAmong_15L {F : Nat} {h' : hm_T} {k2 : Nat → Int32 → Nat → Int32 → hm_T → Option hm_T} (hk2 : ∀ (y0 : Nat) (y1 : Int32) (y2 : Nat) (y3 : Int32) (g : hm_T), k2 y0 y1 y2 y3 g = some h' → hm_le g h') : ∀ (N : Nat) (x0 : Nat) (x1 : Int32) (x2 : Nat) (x3 : Int32) (x4 : Int32) (x5 : Int32) (h : hm_T), f_D_shortenAmong_15 F k2 N x0 x1 x2 x3 x4 x5 h = some h' → hm_le h h' := by
  intro N
  induction N with
  | zero => intro _ _ _ _ _ _ _ hf; cases hf
  | succ n ih => intro x0 x1 x2 x3 x4 x5 h hf; exact m_g_D_shortenAmong_15 hk2 ih hf
theorem m_g_D_shortenAmong_2 {F : Nat} {h h' : hm_T} {x0 : Nat} {x1 : Int32} {x2 : Nat} {x3 : Int32} {k2 : Nat → Int32 → Nat → Int32 → hm_T → Option hm_T} (hk2 : ∀ (y0 : Nat) (y1 : Int32) (y2 : Nat) (y3 : Int32) (g : hm_T), k2 y0 y1 y2 y3 g = some h' → hm_le g h') (hf : g_D_shortenAmong_2 F k2 x0 x1 x2 x3 h = some h') : hm_le h h' := by
  unfold g_D_shortenAmong_2 at hf
  by_cases z1 : x1 ≤ x3
  · have hf := hm_ifp hf z1
    exact (hm_le.retv hf)
  · have hf := hm_ifn hf z1
    obtain ⟨v2, ev2, hf⟩ := hm_bind hf
    exact (m_D_shortenAmong_15L hk2 _ _ _ _ _ _ _ _ hf)
theorem m_D_shortenAmong_2L {F : Nat} {h' : hm_T} : ∀ (N : Nat) (x0 : Nat) (x1 : Int32) (x2 : Nat) (x3 : Int32) (h : hm_T), f_D_shortenAmong_2 F N x0 x1 x2 x3 h = some h' → hm_le h h' := by
  intro N
  induction N with
  | zero => intro _ _ _ _ _ hf; cases hf
  | succ n ih => intro x0 x1 x2 x3 h hf; exact m_g_D_shortenAmong_2 ih hf
theorem m_f_D_shortenAmong {F : Nat} {h h' : hm_T} {x0 : Nat} {x1 : Int32} {x2 : Nat} (hf : f_D_shortenAmong F x0 x1 x2 h = some h') : hm_le h h' := by
  unfold f_D_shortenAmong at hf
  exact (m_D_shortenAmong_2L _ _ _ _ _ _ hf)
set_option maxRecDepth 20000 in
set_option maxHeartbeats 1000000 in
theorem w_f_D_shortenAmong_61 {p : Program} {l : Launch} {e : Env} {R : Room} {s : State} {m : MethodId} {args : Array Value} {below : List Frame} {meth : Method} {c : Code} {E : hm_E} {n0 s0 F : Nat} {h h' : hm_T} {x0 : Nat} {x1 : Int32} {x2 : Nat} {x3 : Int32} {k2 : Nat → Int32 → Nat → Int32 → hm_T → Option hm_T} (C : hm_C E prog_1_method_37_code 7 "DistanceLabels" 2 48 n0 s0 (hm_n h') (hm_s h') p R s m args c) (hr : meth.sig.returnType = none) (hlk : meth.locks = false) (hk2 : ∀ (y0 : Nat) (y1 : Int32) (y2 : Nat) (y3 : Int32) (g : hm_T), k2 y0 y1 y2 y3 g = some h' → hm_G E 7 n0 s0 (hm_n h') (hm_s h') p l e R s m args below meth c (MQ below (hm_Qc E none h') args s (hm_n h' - n0) (hm_s h' - s0) (fun q => E.2.2 ≤ q)) 2 [(0, .ref y0), (1, .int y1), (2, .ref y2), (3, .int y3)] [] g) (hf : f_D_shortenAmong_61 F k2 x0 x1 x2 x3 h = some h') : hm_G E 7 n0 s0 (hm_n h') (hm_s h') p l e R s m args below meth c (MQ below (hm_Qc E none h') args s (hm_n h' - n0) (hm_s h' - s0) (fun q => E.2.2 ≤ q)) 61 [(0, .ref x0), (1, .int x1), (2, .ref x2), (3, .int x3)] [] h := by
  unfold f_D_shortenAmong_61 at hf
  refine hm_iinc (v := (x3 + (1 : Int32))) (lv' := [(3, .int (x3 + (1 : Int32))), (0, .ref x0), (1, .int x1), (2, .ref x2)]) C d_D_shortenAmong_61 3 rfl rfl (by decide) rfl ?_
  refine hm_goto (tgt := 2) C d_D_shortenAmong_64 (by decide) ?_
  refine hm_sub (lv' := [(0, .ref x0), (1, .int x1), (2, .ref x2), (3, .int (x3 + (1 : Int32)))]) [1, 2, 3, 0] rfl ?_
  exact hk2 _ _ _ _ _ hf
set_option maxRecDepth 20000 in
set_option maxHeartbeats 1000000 in
theorem w_f_D_shortenAmong_55 {p : Program} {l : Launch} {e : Env} {R : Room} {s : State} {m : MethodId} {args : Array Value} {below : List Frame} {meth : Method} {c : Code} {E : hm_E} {n0 s0 F : Nat} {h h' : hm_T} {x0 : Nat} {x1 : Int32} {x2 : Nat} {x3 : Int32} {x4 : Int32} {x5 : Int32} {k15 : Nat → Int32 → Nat → Int32 → Int32 → Int32 → hm_T → Option hm_T} (C : hm_C E prog_1_method_37_code 7 "DistanceLabels" 2 48 n0 s0 (hm_n h') (hm_s h') p R s m args c) (hr : meth.sig.returnType = none) (hlk : meth.locks = false) (hk15 : ∀ (y0 : Nat) (y1 : Int32) (y2 : Nat) (y3 : Int32) (y4 : Int32) (y5 : Int32) (g : hm_T), k15 y0 y1 y2 y3 y4 y5 g = some h' → hm_G E 7 n0 s0 (hm_n h') (hm_s h') p l e R s m args below meth c (MQ below (hm_Qc E none h') args s (hm_n h' - n0) (hm_s h' - s0) (fun q => E.2.2 ≤ q)) 15 [(0, .ref y0), (1, .int y1), (2, .ref y2), (3, .int y3), (4, .int y4), (5, .int y5)] [] g) (hf : f_D_shortenAmong_55 F k15 x0 x1 x2 x3 x4 x5 h = some h') : hm_G E 7 n0 s0 (hm_n h') (hm_s h') p l e R s m args below meth c (MQ below (hm_Qc E none h') args s (hm_n h' - n0) (hm_s h' - s0) (fun q => E.2.2 ≤ q)) 55 [(0, .ref x0), (1, .int x1), (2, .ref x2), (3, .int x3), (4, .int x4), (5, .int x5)] [] h := by
  unfold f_D_shortenAmong_55 at hf
  refine hm_iinc (v := (x5 + (1 : Int32))) (lv' := [(5, .int (x5 + (1 : Int32))), (0, .ref x0), (1, .int x1), (2, .ref x2), (3, .int x3), (4, .int x4)]) C d_D_shortenAmong_55 5 rfl rfl (by decide) rfl ?_
  refine hm_goto (tgt := 15) C d_D_shortenAmong_58 (by decide) ?_
  refine hm_sub (lv' := [(0, .ref x0), (1, .int x1), (2, .ref x2), (3, .int x3), (4, .int x4), (5, .int (x5 + (1 : Int32)))]) [1, 2, 3, 4, 5, 0] rfl ?_
  exact hk15 _ _ _ _ _ _ _ hf
set_option maxRecDepth 20000 in
set_option maxHeartbeats 1000000 in
theorem w_g_D_shortenAmong_15 {p : Program} {l : Launch} {e : Env} {R : Room} {s : State} {m : MethodId} {args : Array Value} {below : List Frame} {meth : Method} {c : Code} {E : hm_E} {n0 s0 F : Nat} {h h' : hm_T} {x0 : Nat} {x1 : Int32} {x2 : Nat} {x3 : Int32} {x4 : Int32} {x5 : Int32} {k2 : Nat → Int32 → Nat → Int32 → hm_T → Option hm_T} {k15 : Nat → Int32 → Nat → Int32 → Int32 → Int32 → hm_T → Option hm_T} (C : hm_C E prog_1_method_37_code 7 "DistanceLabels" 2 48 n0 s0 (hm_n h') (hm_s h') p R s m args c) (hr : meth.sig.returnType = none) (hlk : meth.locks = false) (hk2 : ∀ (y0 : Nat) (y1 : Int32) (y2 : Nat) (y3 : Int32) (g : hm_T), k2 y0 y1 y2 y3 g = some h' → hm_G E 7 n0 s0 (hm_n h') (hm_s h') p l e R s m args below meth c (MQ below (hm_Qc E none h') args s (hm_n h' - n0) (hm_s h' - s0) (fun q => E.2.2 ≤ q)) 2 [(0, .ref y0), (1, .int y1), (2, .ref y2), (3, .int y3)] [] g) (hk15 : ∀ (y0 : Nat) (y1 : Int32) (y2 : Nat) (y3 : Int32) (y4 : Int32) (y5 : Int32) (g : hm_T), k15 y0 y1 y2 y3 y4 y5 g = some h' → hm_G E 7 n0 s0 (hm_n h') (hm_s h') p l e R s m args below meth c (MQ below (hm_Qc E none h') args s (hm_n h' - n0) (hm_s h' - s0) (fun q => E.2.2 ≤ q)) 15 [(0, .ref y0), (1, .int y1), (2, .ref y2), (3, .int y3), (4, .int y4), (5, .int y5)] [] g) (hf : g_D_shortenAmong_15 F k2 k15 x0 x1 x2 x3 x4 x5 h = some h') : hm_G E 7 n0 s0 (hm_n h') (hm_s h') p l e R s m args below meth c (MQ below (hm_Qc E none h') args s (hm_n h' - n0) (hm_s h' - s0) (fun q => E.2.2 ≤ q)) 15 [(0, .ref x0), (1, .int x1), (2, .ref x2), (3, .int x3), (4, .int x4), (5, .int x5)] [] h := by
  unfold g_D_shortenAmong_15 at hf
  refine hm_iload C d_D_shortenAmong_15 5 rfl ?_
  refine hm_iload_n C d_D_shortenAmong_17 rfl 1 rfl ?_
  refine hm_icmp_ge (tgt := 61) C d_D_shortenAmong_18 (by decide) (fun z1 => ?_) (fun z1 => ?_)
  · have hf := hm_ifp hf z1
    refine hm_sub (lv' := [(0, .ref x0), (1, .int x1), (2, .ref x2), (3, .int x3)]) [0, 1, 2, 3] rfl ?_
    exact w_f_D_shortenAmong_61 C hr hlk hk2 hf
  · have hf := hm_ifn hf z1
    refine hm_aload_n C d_D_shortenAmong_21 rfl 2 rfl ?_
    refine hm_aload_n C d_D_shortenAmong_22 rfl 0 rfl ?_
    refine hm_iload C d_D_shortenAmong_23 5 rfl ?_
    obtain ⟨v2, ev2, hf⟩ := hm_bind hf
    refine hm_iaload C d_D_shortenAmong_25 ev2 ?_
    obtain ⟨a3, ea3, hf⟩ := hm_bind hf
    refine hm_aaload C d_D_shortenAmong_26 ea3 ?_
    refine hm_iload C d_D_shortenAmong_27 4 rfl ?_
    obtain ⟨v4, ev4, hf⟩ := hm_bind hf
    refine hm_iaload C d_D_shortenAmong_29 ev4 ?_
    refine hm_istore (lv' := [(6, .int v4), (0, .ref x0), (1, .int x1), (2, .ref x2), (3, .int x3), (4, .int x4), (5, .int x5)]) C d_D_shortenAmong_30 (by decide) rfl ?_
    refine hm_iload C d_D_shortenAmong_32 0 rfl ?_
    refine hm_iconst (v := (-1 : Int32)) C d_D_shortenAmong_34 (by decide) ?_
    refine hm_icmp_eq (tgt := 55) C d_D_shortenAmong_35 (by decide) (fun z5 => ?_) (fun z5 => ?_)
    · have hf := hm_ifp hf z5
      refine hm_sub (lv' := [(0, .ref x0), (1, .int x1), (2, .ref x2), (3, .int x3), (4, .int x4), (5, .int x5)]) [1, 2, 3, 4, 5, 6] rfl ?_
      exact w_f_D_shortenAmong_55 C hr hlk hk15 hf
    · have hf := hm_ifn hf z5
      refine hm_aload_n C d_D_shortenAmong_38 rfl 1 rfl ?_
      refine hm_iload_n C d_D_shortenAmong_39 rfl 2 rfl ?_
      refine hm_iload C d_D_shortenAmong_40 0 rfl ?_
      refine hm_aload_n C d_D_shortenAmong_42 rfl 3 rfl ?_
      refine hm_iload C d_D_shortenAmong_43 5 rfl ?_
      obtain ⟨a6, ea6, hf⟩ := hm_bind hf
      refine hm_aaload C d_D_shortenAmong_45 ea6 ?_
      refine hm_aload_n C d_D_shortenAmong_46 rfl 3 rfl ?_
      refine hm_aload_n C d_D_shortenAmong_47 rfl 1 rfl ?_
      refine hm_iload C d_D_shortenAmong_48 6 rfl ?_
      obtain ⟨v7, ev7, hf⟩ := hm_bind hf
      refine hm_iaload C d_D_shortenAmong_50 ev7 ?_
      obtain ⟨a8, ea8, hf⟩ := hm_bind hf
      refine hm_aaload C d_D_shortenAmong_51 ea8 ?_
      obtain ⟨h9, eh9, hf⟩ := hm_bind hf
      refine hm_callS (vs := [.ref x0, .int x1, .int v4, .ref a6, .ref a8]) (st := []) (sb := []) C (c_D_shortenRow eh9) Y_D_shortenRow k_63 k_62 (by decide) (by decide) rfl (Nat.le_of_ble_eq_true rfl) d_D_shortenAmong_52 rfl rfl ?_
      refine hm_sub (lv' := [(0, .ref x0), (1, .int x1), (2, .ref x2), (3, .int x3), (4, .int x4), (5, .int x5)]) [1, 2, 3, 4, 5, 6] rfl ?_
      exact w_f_D_shortenAmong_55 C hr hlk hk15 hf
theorem w_D_shortenAmong_15L {p : Program} {l : Launch} {e : Env} {R : Room} {s : State} {m : MethodId} {args : Array Value} {below : List Frame} {meth : Method} {c : Code} {E : hm_E} {n0 s0 F : Nat} {h' : hm_T} {k2 : Nat → Int32 → Nat → Int32 → hm_T → Option hm_T} (C : hm_C E prog_1_method_37_code 7 "DistanceLabels" 2 48 n0 s0 (hm_n h') (hm_s h') p R s m args c) (hr : meth.sig.returnType = none) (hlk : meth.locks = false) (hk2 : ∀ (y0 : Nat) (y1 : Int32) (y2 : Nat) (y3 : Int32) (g : hm_T), k2 y0 y1 y2 y3 g = some h' → hm_G E 7 n0 s0 (hm_n h') (hm_s h') p l e R s m args below meth c (MQ below (hm_Qc E none h') args s (hm_n h' - n0) (hm_s h' - s0) (fun q => E.2.2 ≤ q)) 2 [(0, .ref y0), (1, .int y1), (2, .ref y2), (3, .int y3)] [] g) : ∀ (N : Nat) (x0 : Nat) (x1 : Int32) (x2 : Nat) (x3 : Int32) (x4 : Int32) (x5 : Int32) (h : hm_T), f_D_shortenAmong_15 F k2 N x0 x1 x2 x3 x4 x5 h = some h' → hm_G E 7 n0 s0 (hm_n h') (hm_s h') p l e R s m args below meth c (MQ below (hm_Qc E none h') args s (hm_n h' - n0) (hm_s h' - s0) (fun q => E.2.2 ≤ q)) 15 [(0, .ref x0), (1, .int x1), (2, .ref x2), (3, .int x3), (4, .int x4), (5, .int x5)] [] h := by
  intro N
  induction N with
  | zero => intro _ _ _ _ _ _ _ hf; cases hf
  | succ n ih => intro x0 x1 x2 x3 x4 x5 h hf; exact w_g_D_shortenAmong_15 C hr hlk hk2 ih hf
set_option maxRecDepth 20000 in
set_option maxHeartbeats 1000000 in
theorem w_g_D_shortenAmong_2 {p : Program} {l : Launch} {e : Env} {R : Room} {s : State} {m : MethodId} {args : Array Value} {below : List Frame} {meth : Method} {c : Code} {E : hm_E} {n0 s0 F : Nat} {h h' : hm_T} {x0 : Nat} {x1 : Int32} {x2 : Nat} {x3 : Int32} {k2 : Nat → Int32 → Nat → Int32 → hm_T → Option hm_T} (C : hm_C E prog_1_method_37_code 7 "DistanceLabels" 2 48 n0 s0 (hm_n h') (hm_s h') p R s m args c) (hr : meth.sig.returnType = none) (hlk : meth.locks = false) (hk2 : ∀ (y0 : Nat) (y1 : Int32) (y2 : Nat) (y3 : Int32) (g : hm_T), k2 y0 y1 y2 y3 g = some h' → hm_G E 7 n0 s0 (hm_n h') (hm_s h') p l e R s m args below meth c (MQ below (hm_Qc E none h') args s (hm_n h' - n0) (hm_s h' - s0) (fun q => E.2.2 ≤ q)) 2 [(0, .ref y0), (1, .int y1), (2, .ref y2), (3, .int y3)] [] g) (hf : g_D_shortenAmong_2 F k2 x0 x1 x2 x3 h = some h') : hm_G E 7 n0 s0 (hm_n h') (hm_s h') p l e R s m args below meth c (MQ below (hm_Qc E none h') args s (hm_n h' - n0) (hm_s h' - s0) (fun q => E.2.2 ≤ q)) 2 [(0, .ref x0), (1, .int x1), (2, .ref x2), (3, .int x3)] [] h := by
  unfold g_D_shortenAmong_2 at hf
  refine hm_iload_n C d_D_shortenAmong_2 rfl 3 rfl ?_
  refine hm_iload_n C d_D_shortenAmong_3 rfl 1 rfl ?_
  refine hm_icmp_ge (tgt := 67) C d_D_shortenAmong_4 (by decide) (fun z1 => ?_) (fun z1 => ?_)
  · have hf := hm_ifp hf z1
    exact hm_vret C hr hlk d_D_shortenAmong_67 hf
  · have hf := hm_ifn hf z1
    refine hm_aload_n C d_D_shortenAmong_7 rfl 0 rfl ?_
    refine hm_iload_n C d_D_shortenAmong_8 rfl 3 rfl ?_
    obtain ⟨v2, ev2, hf⟩ := hm_bind hf
    refine hm_iaload C d_D_shortenAmong_9 ev2 ?_
    refine hm_istore (lv' := [(4, .int v2), (0, .ref x0), (1, .int x1), (2, .ref x2), (3, .int x3)]) C d_D_shortenAmong_10 (by decide) rfl ?_
    refine hm_iconst (v := (0 : Int32)) C d_D_shortenAmong_12 (by decide) ?_
    refine hm_istore (lv' := [(5, .int (0 : Int32)), (4, .int v2), (0, .ref x0), (1, .int x1), (2, .ref x2), (3, .int x3)]) C d_D_shortenAmong_13 (by decide) rfl ?_
    refine hm_sub (lv' := [(0, .ref x0), (1, .int x1), (2, .ref x2), (3, .int x3), (4, .int v2), (5, .int (0 : Int32))]) [2, 3, 4, 5, 1, 0] rfl ?_
    exact w_D_shortenAmong_15L C hr hlk hk2 _ _ _ _ _ _ _ _ hf
theorem w_D_shortenAmong_2L {p : Program} {l : Launch} {e : Env} {R : Room} {s : State} {m : MethodId} {args : Array Value} {below : List Frame} {meth : Method} {c : Code} {E : hm_E} {n0 s0 F : Nat} {h' : hm_T} (C : hm_C E prog_1_method_37_code 7 "DistanceLabels" 2 48 n0 s0 (hm_n h') (hm_s h') p R s m args c) (hr : meth.sig.returnType = none) (hlk : meth.locks = false) : ∀ (N : Nat) (x0 : Nat) (x1 : Int32) (x2 : Nat) (x3 : Int32) (h : hm_T), f_D_shortenAmong_2 F N x0 x1 x2 x3 h = some h' → hm_G E 7 n0 s0 (hm_n h') (hm_s h') p l e R s m args below meth c (MQ below (hm_Qc E none h') args s (hm_n h' - n0) (hm_s h' - s0) (fun q => E.2.2 ≤ q)) 2 [(0, .ref x0), (1, .int x1), (2, .ref x2), (3, .int x3)] [] h := by
  intro N
  induction N with
  | zero => intro _ _ _ _ _ hf; cases hf
  | succ n ih => intro x0 x1 x2 x3 h hf; exact w_g_D_shortenAmong_2 C hr hlk ih hf
set_option maxRecDepth 20000 in
set_option maxHeartbeats 1000000 in
theorem w_f_D_shortenAmong {p : Program} {l : Launch} {e : Env} {R : Room} {s : State} {m : MethodId} {args : Array Value} {below : List Frame} {meth : Method} {c : Code} {E : hm_E} {n0 s0 F : Nat} {h h' : hm_T} {x0 : Nat} {x1 : Int32} {x2 : Nat} (C : hm_C E prog_1_method_37_code 7 "DistanceLabels" 2 48 n0 s0 (hm_n h') (hm_s h') p R s m args c) (hr : meth.sig.returnType = none) (hlk : meth.locks = false) (hf : f_D_shortenAmong F x0 x1 x2 h = some h') : hm_G E 7 n0 s0 (hm_n h') (hm_s h') p l e R s m args below meth c (MQ below (hm_Qc E none h') args s (hm_n h' - n0) (hm_s h' - s0) (fun q => E.2.2 ≤ q)) 0 [(0, .ref x0), (1, .int x1), (2, .ref x2)] [] h := by
  unfold f_D_shortenAmong at hf
  refine hm_iconst (v := (0 : Int32)) C d_D_shortenAmong_0 (by decide) ?_
  refine hm_istore_n (lv' := [(3, .int (0 : Int32)), (0, .ref x0), (1, .int x1), (2, .ref x2)]) C d_D_shortenAmong_1 rfl (by decide) rfl ?_
  refine hm_sub (lv' := [(0, .ref x0), (1, .int x1), (2, .ref x2), (3, .int (0 : Int32))]) [1, 2, 3, 0] rfl ?_
  exact w_D_shortenAmong_2L C hr hlk _ _ _ _ _ _ hf
set_option maxRecDepth 20000 in
theorem c_D_shortenAmong {E : hm_E} {l : Launch} {F : Nat} {h h' : hm_T} {x0 : Nat} {x1 : Int32} {x2 : Nat} (hf : f_D_shortenAmong F x0 x1 x2 h = some h') : hm_M E l y_D_shortenAmong prog_1_method_37_code 7 none 2 48 [.ref x0, .int x1, .ref x2] h none h' :=
  hm_enter (by decide +kernel) (Nat.le_of_ble_eq_true rfl) (m_f_D_shortenAmong hf) (fun p e R s m below meth c C hr hlk hin => w_f_D_shortenAmong C hr hlk hf)
def f_D_layDistances_56 (F : Nat) (x0 : Nat) (h : hm_T) : Option hm_T :=
  (hm_gr 3 9 0 h x0).bind (fun a1 => (hm_gr 2 5 3 h a1).bind (fun a2 => (hm_gr 3 9 0 h x0).bind (fun a3 => (hm_gi 2 5 0 h a3).bind (fun v4 => (hm_gr 3 9 1 h x0).bind (fun a5 => (f_D_shortenAmong F a2 v4 a5 h).bind (fun h6 => some h6))))))
def g_D_layDistances_30 (F : Nat) (k30 : Nat → Int32 → hm_T → Option hm_T) (x0 : Nat) (x1 : Int32) (h : hm_T) : Option hm_T :=
  (hm_gr 3 9 0 h x0).bind (fun a1 => (hm_gi 2 5 0 h a1).bind (fun v2 => (if v2 ≤ x1 then f_D_layDistances_56 F x0 h else (hm_gr 3 9 1 h x0).bind (fun a4 => (hm_ald h a4 x1).bind (fun a5 => (hm_ist h a5 x1 (0 : Int32)).bind (fun h6 => k30 x0 (x1 + (1 : Int32)) h6))))))
def f_D_layDistances_30 (F : Nat) : Nat → Nat → Int32 → hm_T → Option hm_T
  | 0 => fun _ _ _ => none
  | n + 1 => g_D_layDistances_30 F (f_D_layDistances_30 F n)
def f_D_layDistances (F : Nat) (x0 : Nat) (h : hm_T) : Option hm_T :=
  (hm_gr 3 9 0 h x0).bind (fun a1 => (hm_gr 2 5 3 h a1).bind (fun a2 => (hm_gr 3 9 0 h x0).bind (fun a3 => (hm_gi 2 5 0 h a3).bind (fun v4 => (hm_gr 3 9 0 h x0).bind (fun a5 => (hm_gr 2 5 2 h a5).bind (fun a6 => (hm_gr 3 9 1 h x0).bind (fun a7 => (f_D_copyAmong F a2 v4 a6 a7 h).bind (fun h8 => f_D_layDistances_30 F F x0 (0 : Int32) h8))))))))
theorem m_f_D_layDistances_56 {F : Nat} {h h' : hm_T} {x0 : Nat} (hf : f_D_layDistances_56 F x0 h = some h') : hm_le h h' := by
  unfold f_D_layDistances_56 at hf
  obtain ⟨a1, ea1, hf⟩ := hm_bind hf
  obtain ⟨a2, ea2, hf⟩ := hm_bind hf
  obtain ⟨a3, ea3, hf⟩ := hm_bind hf
  obtain ⟨v4, ev4, hf⟩ := hm_bind hf
  obtain ⟨a5, ea5, hf⟩ := hm_bind hf
  obtain ⟨h6, eh6, hf⟩ := hm_bind hf
  have mh6 := m_f_D_shortenAmong eh6
  exact mh6.tr ((hm_le.retv hf))
theorem m_g_D_layDistances_30 {F : Nat} {h h' : hm_T} {x0 : Nat} {x1 : Int32} {k30 : Nat → Int32 → hm_T → Option hm_T} (hk30 : ∀ (y0 : Nat) (y1 : Int32) (g : hm_T), k30 y0 y1 g = some h' → hm_le g h') (hf : g_D_layDistances_30 F k30 x0 x1 h = some h') : hm_le h h' := by
  unfold g_D_layDistances_30 at hf
  obtain ⟨a1, ea1, hf⟩ := hm_bind hf
  obtain ⟨v2, ev2, hf⟩ := hm_bind hf
  by_cases z3 : v2 ≤ x1
  · have hf := hm_ifp hf z3
    exact (m_f_D_layDistances_56 hf)
  · have hf := hm_ifn hf z3
    obtain ⟨a4, ea4, hf⟩ := hm_bind hf
    obtain ⟨a5, ea5, hf⟩ := hm_bind hf
    obtain ⟨h6, eh6, hf⟩ := hm_bind hf
    have mh6 := hm_le.ist eh6
    exact mh6.tr ((hk30 _ _ _ hf))
theorem m_D_layDistances_30L {F : Nat} {h' : hm_T} : ∀ (N : Nat) (x0 : Nat) (x1 : Int32) (h : hm_T), f_D_layDistances_30 F N x0 x1 h = some h' → hm_le h h' := by
  intro N
  induction N with
  | zero => intro _ _ _ hf; cases hf
  | succ n ih => intro x0 x1 h hf; exact m_g_D_layDistances_30 ih hf
theorem m_f_D_layDistances {F : Nat} {h h' : hm_T} {x0 : Nat} (hf : f_D_layDistances F x0 h = some h') : hm_le h h' := by
  unfold f_D_layDistances at hf
  obtain ⟨a1, ea1, hf⟩ := hm_bind hf
  obtain ⟨a2, ea2, hf⟩ := hm_bind hf
  obtain ⟨a3, ea3, hf⟩ := hm_bind hf
  obtain ⟨v4, ev4, hf⟩ := hm_bind hf
  obtain ⟨a5, ea5, hf⟩ := hm_bind hf
  obtain ⟨a6, ea6, hf⟩ := hm_bind hf
  obtain ⟨a7, ea7, hf⟩ := hm_bind hf
  obtain ⟨h8, eh8, hf⟩ := hm_bind hf
  have mh8 := m_f_D_copyAmong eh8
  exact mh8.tr ((m_D_layDistances_30L _ _ _ _ hf))
set_option maxRecDepth 20000 in
set_option maxHeartbeats 1000000 in
theorem w_f_D_layDistances_56 {p : Program} {l : Launch} {e : Env} {R : Room} {s : State} {m : MethodId} {args : Array Value} {below : List Frame} {meth : Method} {c : Code} {E : hm_E} {n0 s0 F : Nat} {h h' : hm_T} {x0 : Nat} (C : hm_C E prog_1_method_24_code 2 "DistanceLabels" 3 74 n0 s0 (hm_n h') (hm_s h') p R s m args c) (hr : meth.sig.returnType = none) (hlk : meth.locks = false) (hf : f_D_layDistances_56 F x0 h = some h') : hm_G E 2 n0 s0 (hm_n h') (hm_s h') p l e R s m args below meth c (MQ below (hm_Qc E none h') args s (hm_n h' - n0) (hm_s h' - s0) (fun q => E.2.2 ≤ q)) 56 [(0, .ref x0)] [] h := by
  unfold f_D_layDistances_56 at hf
  refine hm_aload_n C d_D_layDistances_56 rfl 0 rfl ?_
  obtain ⟨a1, ea1, hf⟩ := hm_bind hf
  refine hm_getR C F_3 0 (by decide) rfl k_26 d_D_layDistances_57 ea1 ?_
  obtain ⟨a2, ea2, hf⟩ := hm_bind hf
  refine hm_getRN C F_2 3 (by decide) rfl kF_1 d_D_layDistances_60 ea2 ?_
  refine hm_aload_n C d_D_layDistances_63 rfl 0 rfl ?_
  obtain ⟨a3, ea3, hf⟩ := hm_bind hf
  refine hm_getR C F_3 0 (by decide) rfl k_26 d_D_layDistances_64 ea3 ?_
  obtain ⟨v4, ev4, hf⟩ := hm_bind hf
  refine hm_getIN C F_2 0 (by decide) rfl kF_0 d_D_layDistances_67 ev4 ?_
  refine hm_aload_n C d_D_layDistances_70 rfl 0 rfl ?_
  obtain ⟨a5, ea5, hf⟩ := hm_bind hf
  refine hm_getR C F_3 1 (by decide) rfl k_28 d_D_layDistances_71 ea5 ?_
  obtain ⟨h6, eh6, hf⟩ := hm_bind hf
  refine hm_callS (vs := [.ref a2, .int v4, .ref a5]) (st := []) (sb := []) C (c_D_shortenAmong eh6) Y_D_shortenAmong k_65 k_64 (by decide) (by decide) rfl (Nat.le_of_ble_eq_true rfl) d_D_layDistances_74 rfl rfl ?_
  exact hm_vret C hr hlk d_D_layDistances_77 hf
set_option maxRecDepth 20000 in
set_option maxHeartbeats 1000000 in
theorem w_g_D_layDistances_30 {p : Program} {l : Launch} {e : Env} {R : Room} {s : State} {m : MethodId} {args : Array Value} {below : List Frame} {meth : Method} {c : Code} {E : hm_E} {n0 s0 F : Nat} {h h' : hm_T} {x0 : Nat} {x1 : Int32} {k30 : Nat → Int32 → hm_T → Option hm_T} (C : hm_C E prog_1_method_24_code 2 "DistanceLabels" 3 74 n0 s0 (hm_n h') (hm_s h') p R s m args c) (hr : meth.sig.returnType = none) (hlk : meth.locks = false) (hk30 : ∀ (y0 : Nat) (y1 : Int32) (g : hm_T), k30 y0 y1 g = some h' → hm_G E 2 n0 s0 (hm_n h') (hm_s h') p l e R s m args below meth c (MQ below (hm_Qc E none h') args s (hm_n h' - n0) (hm_s h' - s0) (fun q => E.2.2 ≤ q)) 30 [(0, .ref y0), (1, .int y1)] [] g) (hf : g_D_layDistances_30 F k30 x0 x1 h = some h') : hm_G E 2 n0 s0 (hm_n h') (hm_s h') p l e R s m args below meth c (MQ below (hm_Qc E none h') args s (hm_n h' - n0) (hm_s h' - s0) (fun q => E.2.2 ≤ q)) 30 [(0, .ref x0), (1, .int x1)] [] h := by
  unfold g_D_layDistances_30 at hf
  refine hm_iload_n C d_D_layDistances_30 rfl 1 rfl ?_
  refine hm_aload_n C d_D_layDistances_31 rfl 0 rfl ?_
  obtain ⟨a1, ea1, hf⟩ := hm_bind hf
  refine hm_getR C F_3 0 (by decide) rfl k_26 d_D_layDistances_32 ea1 ?_
  obtain ⟨v2, ev2, hf⟩ := hm_bind hf
  refine hm_getIN C F_2 0 (by decide) rfl kF_0 d_D_layDistances_35 ev2 ?_
  refine hm_icmp_ge (tgt := 56) C d_D_layDistances_38 (by decide) (fun z3 => ?_) (fun z3 => ?_)
  · have hf := hm_ifp hf z3
    refine hm_sub (lv' := [(0, .ref x0)]) [0] rfl ?_
    exact w_f_D_layDistances_56 C hr hlk hf
  · have hf := hm_ifn hf z3
    refine hm_aload_n C d_D_layDistances_41 rfl 0 rfl ?_
    obtain ⟨a4, ea4, hf⟩ := hm_bind hf
    refine hm_getR C F_3 1 (by decide) rfl k_28 d_D_layDistances_42 ea4 ?_
    refine hm_iload_n C d_D_layDistances_45 rfl 1 rfl ?_
    obtain ⟨a5, ea5, hf⟩ := hm_bind hf
    refine hm_aaload C d_D_layDistances_46 ea5 ?_
    refine hm_iload_n C d_D_layDistances_47 rfl 1 rfl ?_
    refine hm_iconst (v := (0 : Int32)) C d_D_layDistances_48 (by decide) ?_
    obtain ⟨h6, eh6, hf⟩ := hm_bind hf
    refine hm_iastore C d_D_layDistances_49 eh6 ?_
    refine hm_iinc (v := (x1 + (1 : Int32))) (lv' := [(1, .int (x1 + (1 : Int32))), (0, .ref x0)]) C d_D_layDistances_50 1 rfl rfl (by decide) rfl ?_
    refine hm_goto (tgt := 30) C d_D_layDistances_53 (by decide) ?_
    refine hm_sub (lv' := [(0, .ref x0), (1, .int (x1 + (1 : Int32)))]) [1, 0] rfl ?_
    exact hk30 _ _ _ hf
theorem w_D_layDistances_30L {p : Program} {l : Launch} {e : Env} {R : Room} {s : State} {m : MethodId} {args : Array Value} {below : List Frame} {meth : Method} {c : Code} {E : hm_E} {n0 s0 F : Nat} {h' : hm_T} (C : hm_C E prog_1_method_24_code 2 "DistanceLabels" 3 74 n0 s0 (hm_n h') (hm_s h') p R s m args c) (hr : meth.sig.returnType = none) (hlk : meth.locks = false) : ∀ (N : Nat) (x0 : Nat) (x1 : Int32) (h : hm_T), f_D_layDistances_30 F N x0 x1 h = some h' → hm_G E 2 n0 s0 (hm_n h') (hm_s h') p l e R s m args below meth c (MQ below (hm_Qc E none h') args s (hm_n h' - n0) (hm_s h' - s0) (fun q => E.2.2 ≤ q)) 30 [(0, .ref x0), (1, .int x1)] [] h := by
  intro N
  induction N with
  | zero => intro _ _ _ hf; cases hf
  | succ n ih => intro x0 x1 h hf; exact w_g_D_layDistances_30 C hr hlk ih hf
set_option maxRecDepth 20000 in
set_option maxHeartbeats 1000000 in
theorem w_f_D_layDistances {p : Program} {l : Launch} {e : Env} {R : Room} {s : State} {m : MethodId} {args : Array Value} {below : List Frame} {meth : Method} {c : Code} {E : hm_E} {n0 s0 F : Nat} {h h' : hm_T} {x0 : Nat} (C : hm_C E prog_1_method_24_code 2 "DistanceLabels" 3 74 n0 s0 (hm_n h') (hm_s h') p R s m args c) (hr : meth.sig.returnType = none) (hlk : meth.locks = false) (hf : f_D_layDistances F x0 h = some h') : hm_G E 2 n0 s0 (hm_n h') (hm_s h') p l e R s m args below meth c (MQ below (hm_Qc E none h') args s (hm_n h' - n0) (hm_s h' - s0) (fun q => E.2.2 ≤ q)) 0 [(0, .ref x0)] [] h := by
  unfold f_D_layDistances at hf
  refine hm_aload_n C d_D_layDistances_0 rfl 0 rfl ?_
  obtain ⟨a1, ea1, hf⟩ := hm_bind hf
  refine hm_getR C F_3 0 (by decide) rfl k_26 d_D_layDistances_1 ea1 ?_
  obtain ⟨a2, ea2, hf⟩ := hm_bind hf
  refine hm_getRN C F_2 3 (by decide) rfl kF_1 d_D_layDistances_4 ea2 ?_
  refine hm_aload_n C d_D_layDistances_7 rfl 0 rfl ?_
  obtain ⟨a3, ea3, hf⟩ := hm_bind hf
  refine hm_getR C F_3 0 (by decide) rfl k_26 d_D_layDistances_8 ea3 ?_
  obtain ⟨v4, ev4, hf⟩ := hm_bind hf
  refine hm_getIN C F_2 0 (by decide) rfl kF_0 d_D_layDistances_11 ev4 ?_
  refine hm_aload_n C d_D_layDistances_14 rfl 0 rfl ?_
  obtain ⟨a5, ea5, hf⟩ := hm_bind hf
  refine hm_getR C F_3 0 (by decide) rfl k_26 d_D_layDistances_15 ea5 ?_
  obtain ⟨a6, ea6, hf⟩ := hm_bind hf
  refine hm_getRN C F_2 2 (by decide) rfl kF_2 d_D_layDistances_18 ea6 ?_
  refine hm_aload_n C d_D_layDistances_21 rfl 0 rfl ?_
  obtain ⟨a7, ea7, hf⟩ := hm_bind hf
  refine hm_getR C F_3 1 (by decide) rfl k_28 d_D_layDistances_22 ea7 ?_
  obtain ⟨h8, eh8, hf⟩ := hm_bind hf
  refine hm_callS (vs := [.ref a2, .int v4, .ref a6, .ref a7]) (st := []) (sb := []) C (c_D_copyAmong eh8) Y_D_copyAmong k_67 k_66 (by decide) (by decide) rfl (Nat.le_of_ble_eq_true rfl) d_D_layDistances_25 rfl rfl ?_
  refine hm_iconst (v := (0 : Int32)) C d_D_layDistances_28 (by decide) ?_
  refine hm_istore_n (lv' := [(1, .int (0 : Int32)), (0, .ref x0)]) C d_D_layDistances_29 rfl (by decide) rfl ?_
  refine hm_sub (lv' := [(0, .ref x0), (1, .int (0 : Int32))]) [1, 0] rfl ?_
  exact w_D_layDistances_30L C hr hlk _ _ _ _ hf
set_option maxRecDepth 20000 in
theorem c_D_layDistances {E : hm_E} {l : Launch} {F : Nat} {h h' : hm_T} {x0 : Nat} (hf : f_D_layDistances F x0 h = some h') : hm_M E l y_D_layDistances prog_1_method_24_code 2 none 3 74 [.ref x0] h none h' :=
  hm_enter (by decide +kernel) (Nat.le_of_ble_eq_true rfl) (m_f_D_layDistances hf) (fun p e R s m below meth c C hr hlk hin => w_f_D_layDistances C hr hlk hf)
def f_D_sum_10 (F : Nat) (h : hm_T) : Option (Int32 × hm_T) :=
  some ((-1 : Int32), h)
def f_D_sum (F : Nat) (x0 : Int32) (x1 : Int32) (h : hm_T) : Option (Int32 × hm_T) :=
  (if x0 = (-1 : Int32) then f_D_sum_10 F h else (if x1 = (-1 : Int32) then f_D_sum_10 F h else some ((x0 + x1), h)))
theorem m_f_D_sum_10 {F : Nat} {r : Int32} {h h' : hm_T} (hf : f_D_sum_10 F h = some (r, h')) : hm_le h h' := by
  unfold f_D_sum_10 at hf
  exact (hm_le.ret hf)
theorem m_f_D_sum {F : Nat} {r : Int32} {h h' : hm_T} {x0 : Int32} {x1 : Int32} (hf : f_D_sum F x0 x1 h = some (r, h')) : hm_le h h' := by
  unfold f_D_sum at hf
  by_cases z1 : x0 = (-1 : Int32)
  · have hf := hm_ifp hf z1
    exact (m_f_D_sum_10 hf)
  · have hf := hm_ifn hf z1
    by_cases z2 : x1 = (-1 : Int32)
    · have hf := hm_ifp hf z2
      exact (m_f_D_sum_10 hf)
    · have hf := hm_ifn hf z2
      exact (hm_le.ret hf)
set_option maxRecDepth 20000 in
set_option maxHeartbeats 1000000 in
theorem w_f_D_sum_10 {p : Program} {l : Launch} {e : Env} {R : Room} {s : State} {m : MethodId} {args : Array Value} {below : List Frame} {meth : Method} {c : Code} {E : hm_E} {n0 s0 F : Nat} {r : Int32} {h h' : hm_T} (C : hm_C E prog_1_method_31_code 2 "DistanceLabels" 0 0 n0 s0 (hm_n h') (hm_s h') p R s m args c) (hr : meth.sig.returnType = (some .int)) (hlk : meth.locks = false) (hf : f_D_sum_10 F h = some (r, h')) : hm_G E 2 n0 s0 (hm_n h') (hm_s h') p l e R s m args below meth c (MQ below (hm_Qc E (some (.int r)) h') args s (hm_n h' - n0) (hm_s h' - s0) (fun q => E.2.2 ≤ q)) 10 [] [] h := by
  unfold f_D_sum_10 at hf
  refine hm_iconst (v := (-1 : Int32)) C d_D_sum_10 (by decide) ?_
  refine hm_goto (tgt := 17) C d_D_sum_11 (by decide) ?_
  exact hm_iret C hr hlk d_D_sum_17 hf
set_option maxRecDepth 20000 in
set_option maxHeartbeats 1000000 in
theorem w_f_D_sum {p : Program} {l : Launch} {e : Env} {R : Room} {s : State} {m : MethodId} {args : Array Value} {below : List Frame} {meth : Method} {c : Code} {E : hm_E} {n0 s0 F : Nat} {r : Int32} {h h' : hm_T} {x0 : Int32} {x1 : Int32} (C : hm_C E prog_1_method_31_code 2 "DistanceLabels" 0 0 n0 s0 (hm_n h') (hm_s h') p R s m args c) (hr : meth.sig.returnType = (some .int)) (hlk : meth.locks = false) (hf : f_D_sum F x0 x1 h = some (r, h')) : hm_G E 2 n0 s0 (hm_n h') (hm_s h') p l e R s m args below meth c (MQ below (hm_Qc E (some (.int r)) h') args s (hm_n h' - n0) (hm_s h' - s0) (fun q => E.2.2 ≤ q)) 0 [(0, .int x0), (1, .int x1)] [] h := by
  unfold f_D_sum at hf
  refine hm_iload_n C d_D_sum_0 rfl 0 rfl ?_
  refine hm_iconst (v := (-1 : Int32)) C d_D_sum_1 (by decide) ?_
  refine hm_icmp_eq (tgt := 10) C d_D_sum_2 (by decide) (fun z1 => ?_) (fun z1 => ?_)
  · have hf := hm_ifp hf z1
    refine hm_sub (lv' := []) [] rfl ?_
    exact w_f_D_sum_10 C hr hlk hf
  · have hf := hm_ifn hf z1
    refine hm_iload_n C d_D_sum_5 rfl 1 rfl ?_
    refine hm_iconst (v := (-1 : Int32)) C d_D_sum_6 (by decide) ?_
    refine hm_icmp_ne (tgt := 14) C d_D_sum_7 (by decide) (fun z2 => ?_) (fun z2 => ?_)
    · have hf := hm_ifn hf z2
      refine hm_iload_n C d_D_sum_14 rfl 0 rfl ?_
      refine hm_iload_n C d_D_sum_15 rfl 1 rfl ?_
      refine hm_iadd C d_D_sum_16 ?_
      exact hm_iret C hr hlk d_D_sum_17 hf
    · have hf := hm_ifp hf z2
      refine hm_sub (lv' := []) [] rfl ?_
      exact w_f_D_sum_10 C hr hlk hf
set_option maxRecDepth 20000 in
theorem c_D_sum {E : hm_E} {l : Launch} {F : Nat} {r : Int32} {h h' : hm_T} {x0 : Int32} {x1 : Int32} (hf : f_D_sum F x0 x1 h = some (r, h')) : hm_M E l y_D_sum prog_1_method_31_code 2 (some .int) 0 0 [.int x0, .int x1] h (some (.int r)) h' :=
  hm_enter (by decide +kernel) (Nat.le_of_ble_eq_true rfl) (m_f_D_sum hf) (fun p e R s m below meth c C hr hlk hin => w_f_D_sum C hr hlk hf)
def g_D_firstOnLeastWays_16 (F : Nat) (k16 : Nat → Int32 → Int32 → Int32 → hm_T → Option (Int32 × hm_T)) (x0 : Nat) (x1 : Int32) (x2 : Int32) (x3 : Int32) (h : hm_T) : Option (Int32 × hm_T) :=
  (hm_gr 3 9 0 h x0).bind (fun a1 => (hm_gi 2 5 0 h a1).bind (fun v2 => (if v2 ≤ x3 then some ((-1 : Int32), h) else (hm_gr 3 9 0 h x0).bind (fun a4 => (hm_gr 2 5 3 h a4).bind (fun a5 => (hm_ild h a5 x3).bind (fun v6 => (hm_gr 3 9 1 h x0).bind (fun a7 => (hm_ald h a7 x1).bind (fun a8 => (hm_ild h a8 v6).bind (fun v9 => (hm_gr 3 9 1 h x0).bind (fun a10 => (hm_ald h a10 v6).bind (fun a11 => (hm_ild h a11 x2).bind (fun v12 => hm_and (f_D_sum F v9 v12 h) (fun v13 h13 => (hm_gr 3 9 1 h13 x0).bind (fun a14 => (hm_ald h13 a14 x1).bind (fun a15 => (hm_ild h13 a15 x2).bind (fun v16 => (if v13 = v16 then some (v6, h13) else k16 x0 x1 x2 (x3 + (1 : Int32)) h13)))))))))))))))))
def f_D_firstOnLeastWays_16 (F : Nat) : Nat → Nat → Int32 → Int32 → Int32 → hm_T → Option (Int32 × hm_T)
  | 0 => fun _ _ _ _ _ => none
  | n + 1 => g_D_firstOnLeastWays_16 F (f_D_firstOnLeastWays_16 F n)
def f_D_firstOnLeastWays (F : Nat) (x0 : Nat) (x1 : Int32) (x2 : Int32) (h : hm_T) : Option (Int32 × hm_T) :=
  (hm_gr 3 9 1 h x0).bind (fun a1 => (hm_ald h a1 x1).bind (fun a2 => (hm_ild h a2 x2).bind (fun v3 => (if v3 = (-1 : Int32) then some ((-1 : Int32), h) else f_D_firstOnLeastWays_16 F F x0 x1 x2 (0 : Int32) h))))
theorem m_g_D_firstOnLeastWays_16 {F : Nat} {r : Int32} {h h' : hm_T} {x0 : Nat} {x1 : Int32} {x2 : Int32} {x3 : Int32} {k16 : Nat → Int32 → Int32 → Int32 → hm_T → Option (Int32 × hm_T)} (hk16 : ∀ (y0 : Nat) (y1 : Int32) (y2 : Int32) (y3 : Int32) (g : hm_T), k16 y0 y1 y2 y3 g = some (r, h') → hm_le g h') (hf : g_D_firstOnLeastWays_16 F k16 x0 x1 x2 x3 h = some (r, h')) : hm_le h h' := by
  unfold g_D_firstOnLeastWays_16 at hf
  obtain ⟨a1, ea1, hf⟩ := hm_bind hf
  obtain ⟨v2, ev2, hf⟩ := hm_bind hf
  by_cases z3 : v2 ≤ x3
  · have hf := hm_ifp hf z3
    exact (hm_le.ret hf)
  · have hf := hm_ifn hf z3
    obtain ⟨a4, ea4, hf⟩ := hm_bind hf
    obtain ⟨a5, ea5, hf⟩ := hm_bind hf
    obtain ⟨v6, ev6, hf⟩ := hm_bind hf
    obtain ⟨a7, ea7, hf⟩ := hm_bind hf
    obtain ⟨a8, ea8, hf⟩ := hm_bind hf
    obtain ⟨v9, ev9, hf⟩ := hm_bind hf
    obtain ⟨a10, ea10, hf⟩ := hm_bind hf
    obtain ⟨a11, ea11, hf⟩ := hm_bind hf
    obtain ⟨v12, ev12, hf⟩ := hm_bind hf
    obtain ⟨v13, h13, eh13, hf⟩ := hm_and_of hf
    have mh13 := m_f_D_sum eh13
    obtain ⟨a14, ea14, hf⟩ := hm_bind hf
    obtain ⟨a15, ea15, hf⟩ := hm_bind hf
    obtain ⟨v16, ev16, hf⟩ := hm_bind hf
    by_cases z17 : v13 = v16
    · have hf := hm_ifp hf z17
      exact mh13.tr ((hm_le.ret hf))
    · have hf := hm_ifn hf z17
      exact mh13.tr ((hk16 _ _ _ _ _ hf))
theorem m_D_firstOnLeastWays_16L {F : Nat} {r : Int32} {h' : hm_T} : ∀ (N : Nat) (x0 : Nat) (x1 : Int32) (x2 : Int32) (x3 : Int32) (h : hm_T), f_D_firstOnLeastWays_16 F N x0 x1 x2 x3 h = some (r, h') → hm_le h h' := by
  intro N
  induction N with
  | zero => intro _ _ _ _ _ hf; cases hf
  | succ n ih => intro x0 x1 x2 x3 h hf; exact m_g_D_firstOnLeastWays_16 ih hf
theorem m_f_D_firstOnLeastWays {F : Nat} {r : Int32} {h h' : hm_T} {x0 : Nat} {x1 : Int32} {x2 : Int32} (hf : f_D_firstOnLeastWays F x0 x1 x2 h = some (r, h')) : hm_le h h' := by
  unfold f_D_firstOnLeastWays at hf
  obtain ⟨a1, ea1, hf⟩ := hm_bind hf
  obtain ⟨a2, ea2, hf⟩ := hm_bind hf
  obtain ⟨v3, ev3, hf⟩ := hm_bind hf
  by_cases z4 : v3 = (-1 : Int32)
  · have hf := hm_ifp hf z4
    exact (hm_le.ret hf)
  · have hf := hm_ifn hf z4
    exact (m_D_firstOnLeastWays_16L _ _ _ _ _ _ hf)
set_option maxRecDepth 20000 in
set_option maxHeartbeats 1000000 in
theorem w_g_D_firstOnLeastWays_16 {p : Program} {l : Launch} {e : Env} {R : Room} {s : State} {m : MethodId} {args : Array Value} {below : List Frame} {meth : Method} {c : Code} {E : hm_E} {n0 s0 F : Nat} {r : Int32} {h h' : hm_T} {x0 : Nat} {x1 : Int32} {x2 : Int32} {x3 : Int32} {k16 : Nat → Int32 → Int32 → Int32 → hm_T → Option (Int32 × hm_T)} (C : hm_C E prog_1_method_26_code 5 "DistanceLabels" 1 21 n0 s0 (hm_n h') (hm_s h') p R s m args c) (hr : meth.sig.returnType = (some .int)) (hlk : meth.locks = false) (hk16 : ∀ (y0 : Nat) (y1 : Int32) (y2 : Int32) (y3 : Int32) (g : hm_T), k16 y0 y1 y2 y3 g = some (r, h') → hm_G E 5 n0 s0 (hm_n h') (hm_s h') p l e R s m args below meth c (MQ below (hm_Qc E (some (.int r)) h') args s (hm_n h' - n0) (hm_s h' - s0) (fun q => E.2.2 ≤ q)) 16 [(0, .ref y0), (1, .int y1), (2, .int y2), (3, .int y3)] [] g) (hf : g_D_firstOnLeastWays_16 F k16 x0 x1 x2 x3 h = some (r, h')) : hm_G E 5 n0 s0 (hm_n h') (hm_s h') p l e R s m args below meth c (MQ below (hm_Qc E (some (.int r)) h') args s (hm_n h' - n0) (hm_s h' - s0) (fun q => E.2.2 ≤ q)) 16 [(0, .ref x0), (1, .int x1), (2, .int x2), (3, .int x3)] [] h := by
  unfold g_D_firstOnLeastWays_16 at hf
  refine hm_iload_n C d_D_firstOnLeastWays_16 rfl 3 rfl ?_
  refine hm_aload_n C d_D_firstOnLeastWays_17 rfl 0 rfl ?_
  obtain ⟨a1, ea1, hf⟩ := hm_bind hf
  refine hm_getR C F_3 0 (by decide) rfl k_26 d_D_firstOnLeastWays_18 ea1 ?_
  obtain ⟨v2, ev2, hf⟩ := hm_bind hf
  refine hm_getIN C F_2 0 (by decide) rfl kF_0 d_D_firstOnLeastWays_21 ev2 ?_
  refine hm_icmp_ge (tgt := 79) C d_D_firstOnLeastWays_24 (by decide) (fun z3 => ?_) (fun z3 => ?_)
  · have hf := hm_ifp hf z3
    refine hm_iconst (v := (-1 : Int32)) C d_D_firstOnLeastWays_79 (by decide) ?_
    exact hm_iret C hr hlk d_D_firstOnLeastWays_80 hf
  · have hf := hm_ifn hf z3
    refine hm_aload_n C d_D_firstOnLeastWays_27 rfl 0 rfl ?_
    obtain ⟨a4, ea4, hf⟩ := hm_bind hf
    refine hm_getR C F_3 0 (by decide) rfl k_26 d_D_firstOnLeastWays_28 ea4 ?_
    obtain ⟨a5, ea5, hf⟩ := hm_bind hf
    refine hm_getRN C F_2 3 (by decide) rfl kF_1 d_D_firstOnLeastWays_31 ea5 ?_
    refine hm_iload_n C d_D_firstOnLeastWays_34 rfl 3 rfl ?_
    obtain ⟨v6, ev6, hf⟩ := hm_bind hf
    refine hm_iaload C d_D_firstOnLeastWays_35 ev6 ?_
    refine hm_istore (lv' := [(4, .int v6), (0, .ref x0), (1, .int x1), (2, .int x2), (3, .int x3)]) C d_D_firstOnLeastWays_36 (by decide) rfl ?_
    refine hm_aload_n C d_D_firstOnLeastWays_38 rfl 1 rfl ?_
    obtain ⟨a7, ea7, hf⟩ := hm_bind hf
    refine hm_getR C F_3 1 (by decide) rfl k_28 d_D_firstOnLeastWays_39 ea7 ?_
    refine hm_iload_n C d_D_firstOnLeastWays_42 rfl 2 rfl ?_
    obtain ⟨a8, ea8, hf⟩ := hm_bind hf
    refine hm_aaload C d_D_firstOnLeastWays_43 ea8 ?_
    refine hm_iload C d_D_firstOnLeastWays_44 0 rfl ?_
    obtain ⟨v9, ev9, hf⟩ := hm_bind hf
    refine hm_iaload C d_D_firstOnLeastWays_46 ev9 ?_
    refine hm_aload_n C d_D_firstOnLeastWays_47 rfl 1 rfl ?_
    obtain ⟨a10, ea10, hf⟩ := hm_bind hf
    refine hm_getR C F_3 1 (by decide) rfl k_28 d_D_firstOnLeastWays_48 ea10 ?_
    refine hm_iload C d_D_firstOnLeastWays_51 0 rfl ?_
    obtain ⟨a11, ea11, hf⟩ := hm_bind hf
    refine hm_aaload C d_D_firstOnLeastWays_53 ea11 ?_
    refine hm_iload_n C d_D_firstOnLeastWays_54 rfl 3 rfl ?_
    obtain ⟨v12, ev12, hf⟩ := hm_bind hf
    refine hm_iaload C d_D_firstOnLeastWays_55 ev12 ?_
    obtain ⟨v13, h13, eh13, hf⟩ := hm_and_of hf
    refine hm_callS (vs := [.int v9, .int v12]) (st := []) (sb := [.int v13]) C (c_D_sum eh13) Y_D_sum k_69 k_68 (by decide) (by decide) rfl (Nat.le_of_ble_eq_true rfl) d_D_firstOnLeastWays_56 rfl rfl ?_
    refine hm_aload_n C d_D_firstOnLeastWays_59 rfl 1 rfl ?_
    obtain ⟨a14, ea14, hf⟩ := hm_bind hf
    refine hm_getR C F_3 1 (by decide) rfl k_28 d_D_firstOnLeastWays_60 ea14 ?_
    refine hm_iload_n C d_D_firstOnLeastWays_63 rfl 2 rfl ?_
    obtain ⟨a15, ea15, hf⟩ := hm_bind hf
    refine hm_aaload C d_D_firstOnLeastWays_64 ea15 ?_
    refine hm_iload_n C d_D_firstOnLeastWays_65 rfl 3 rfl ?_
    obtain ⟨v16, ev16, hf⟩ := hm_bind hf
    refine hm_iaload C d_D_firstOnLeastWays_66 ev16 ?_
    refine hm_icmp_ne (tgt := 73) C d_D_firstOnLeastWays_67 (by decide) (fun z17 => ?_) (fun z17 => ?_)
    · have hf := hm_ifn hf z17
      refine hm_iinc (v := (x3 + (1 : Int32))) (lv' := [(3, .int (x3 + (1 : Int32))), (4, .int v6), (0, .ref x0), (1, .int x1), (2, .int x2)]) C d_D_firstOnLeastWays_73 4 rfl rfl (by decide) rfl ?_
      refine hm_goto (tgt := 16) C d_D_firstOnLeastWays_76 (by decide) ?_
      refine hm_sub (lv' := [(0, .ref x0), (1, .int x1), (2, .int x2), (3, .int (x3 + (1 : Int32)))]) [2, 3, 4, 0] rfl ?_
      exact hk16 _ _ _ _ _ hf
    · have hf := hm_ifp hf z17
      refine hm_iload C d_D_firstOnLeastWays_70 0 rfl ?_
      exact hm_iret C hr hlk d_D_firstOnLeastWays_72 hf
theorem w_D_firstOnLeastWays_16L {p : Program} {l : Launch} {e : Env} {R : Room} {s : State} {m : MethodId} {args : Array Value} {below : List Frame} {meth : Method} {c : Code} {E : hm_E} {n0 s0 F : Nat} {r : Int32} {h' : hm_T} (C : hm_C E prog_1_method_26_code 5 "DistanceLabels" 1 21 n0 s0 (hm_n h') (hm_s h') p R s m args c) (hr : meth.sig.returnType = (some .int)) (hlk : meth.locks = false) : ∀ (N : Nat) (x0 : Nat) (x1 : Int32) (x2 : Int32) (x3 : Int32) (h : hm_T), f_D_firstOnLeastWays_16 F N x0 x1 x2 x3 h = some (r, h') → hm_G E 5 n0 s0 (hm_n h') (hm_s h') p l e R s m args below meth c (MQ below (hm_Qc E (some (.int r)) h') args s (hm_n h' - n0) (hm_s h' - s0) (fun q => E.2.2 ≤ q)) 16 [(0, .ref x0), (1, .int x1), (2, .int x2), (3, .int x3)] [] h := by
  intro N
  induction N with
  | zero => intro _ _ _ _ _ hf; cases hf
  | succ n ih => intro x0 x1 x2 x3 h hf; exact w_g_D_firstOnLeastWays_16 C hr hlk ih hf
set_option maxRecDepth 20000 in
set_option maxHeartbeats 1000000 in
theorem w_f_D_firstOnLeastWays {p : Program} {l : Launch} {e : Env} {R : Room} {s : State} {m : MethodId} {args : Array Value} {below : List Frame} {meth : Method} {c : Code} {E : hm_E} {n0 s0 F : Nat} {r : Int32} {h h' : hm_T} {x0 : Nat} {x1 : Int32} {x2 : Int32} (C : hm_C E prog_1_method_26_code 5 "DistanceLabels" 1 21 n0 s0 (hm_n h') (hm_s h') p R s m args c) (hr : meth.sig.returnType = (some .int)) (hlk : meth.locks = false) (hf : f_D_firstOnLeastWays F x0 x1 x2 h = some (r, h')) : hm_G E 5 n0 s0 (hm_n h') (hm_s h') p l e R s m args below meth c (MQ below (hm_Qc E (some (.int r)) h') args s (hm_n h' - n0) (hm_s h' - s0) (fun q => E.2.2 ≤ q)) 0 [(0, .ref x0), (1, .int x1), (2, .int x2)] [] h := by
  unfold f_D_firstOnLeastWays at hf
  refine hm_aload_n C d_D_firstOnLeastWays_0 rfl 0 rfl ?_
  obtain ⟨a1, ea1, hf⟩ := hm_bind hf
  refine hm_getR C F_3 1 (by decide) rfl k_28 d_D_firstOnLeastWays_1 ea1 ?_
  refine hm_iload_n C d_D_firstOnLeastWays_4 rfl 1 rfl ?_
  obtain ⟨a2, ea2, hf⟩ := hm_bind hf
  refine hm_aaload C d_D_firstOnLeastWays_5 ea2 ?_
  refine hm_iload_n C d_D_firstOnLeastWays_6 rfl 2 rfl ?_
  obtain ⟨v3, ev3, hf⟩ := hm_bind hf
  refine hm_iaload C d_D_firstOnLeastWays_7 ev3 ?_
  refine hm_iconst (v := (-1 : Int32)) C d_D_firstOnLeastWays_8 (by decide) ?_
  refine hm_icmp_ne (tgt := 14) C d_D_firstOnLeastWays_9 (by decide) (fun z4 => ?_) (fun z4 => ?_)
  · have hf := hm_ifn hf z4
    refine hm_iconst (v := (0 : Int32)) C d_D_firstOnLeastWays_14 (by decide) ?_
    refine hm_istore_n (lv' := [(3, .int (0 : Int32)), (0, .ref x0), (1, .int x1), (2, .int x2)]) C d_D_firstOnLeastWays_15 rfl (by decide) rfl ?_
    refine hm_sub (lv' := [(0, .ref x0), (1, .int x1), (2, .int x2), (3, .int (0 : Int32))]) [1, 2, 3, 0] rfl ?_
    exact w_D_firstOnLeastWays_16L C hr hlk _ _ _ _ _ _ hf
  · have hf := hm_ifp hf z4
    refine hm_iconst (v := (-1 : Int32)) C d_D_firstOnLeastWays_12 (by decide) ?_
    exact hm_iret C hr hlk d_D_firstOnLeastWays_13 hf
set_option maxRecDepth 20000 in
theorem c_D_firstOnLeastWays {E : hm_E} {l : Launch} {F : Nat} {r : Int32} {h h' : hm_T} {x0 : Nat} {x1 : Int32} {x2 : Int32} (hf : f_D_firstOnLeastWays F x0 x1 x2 h = some (r, h')) : hm_M E l y_D_firstOnLeastWays prog_1_method_26_code 5 (some .int) 1 21 [.ref x0, .int x1, .int x2] h (some (.int r)) h' :=
  hm_enter (by decide +kernel) (Nat.le_of_ble_eq_true rfl) (m_f_D_firstOnLeastWays hf) (fun p e R s m below meth c C hr hlk hin => w_f_D_firstOnLeastWays C hr hlk hf)
def f_L_lay_47 (F : Nat) (h : hm_T) : Option (Int32 × hm_T) :=
  some ((1 : Int32), h)
def f_L_lay (F : Nat) (x0 : Nat) (x1 : Int32) (x2 : Int32) (x3 : Int32) (h : hm_T) : Option (Int32 × hm_T) :=
  (hm_gr 1 2 0 h x0).bind (fun a1 => (hm_ald h a1 x1).bind (fun a2 => (hm_ild h a2 x2).bind (fun v3 => (hm_gr 1 2 0 h x0).bind (fun a4 => (hm_ald h a4 x1).bind (fun a5 => (hm_ist h a5 x2 x3).bind (fun h6 => (hm_gr 1 2 1 h6 x0).bind (fun a7 => (hm_ald h6 a7 x1).bind (fun a8 => (hm_ist h6 a8 x2 x3).bind (fun h9 => (if v3 = x3 then some ((0 : Int32), h9) else (if v3 = (-1 : Int32) then f_L_lay_47 F h9 else (if x3 = (-1 : Int32) then f_L_lay_47 F h9 else some ((2 : Int32), h9)))))))))))))
theorem m_f_L_lay_47 {F : Nat} {r : Int32} {h h' : hm_T} (hf : f_L_lay_47 F h = some (r, h')) : hm_le h h' := by
  unfold f_L_lay_47 at hf
  exact (hm_le.ret hf)
theorem m_f_L_lay {F : Nat} {r : Int32} {h h' : hm_T} {x0 : Nat} {x1 : Int32} {x2 : Int32} {x3 : Int32} (hf : f_L_lay F x0 x1 x2 x3 h = some (r, h')) : hm_le h h' := by
  unfold f_L_lay at hf
  obtain ⟨a1, ea1, hf⟩ := hm_bind hf
  obtain ⟨a2, ea2, hf⟩ := hm_bind hf
  obtain ⟨v3, ev3, hf⟩ := hm_bind hf
  obtain ⟨a4, ea4, hf⟩ := hm_bind hf
  obtain ⟨a5, ea5, hf⟩ := hm_bind hf
  obtain ⟨h6, eh6, hf⟩ := hm_bind hf
  have mh6 := hm_le.ist eh6
  obtain ⟨a7, ea7, hf⟩ := hm_bind hf
  obtain ⟨a8, ea8, hf⟩ := hm_bind hf
  obtain ⟨h9, eh9, hf⟩ := hm_bind hf
  have mh9 := hm_le.ist eh9
  by_cases z10 : v3 = x3
  · have hf := hm_ifp hf z10
    exact mh6.tr (mh9.tr ((hm_le.ret hf)))
  · have hf := hm_ifn hf z10
    by_cases z11 : v3 = (-1 : Int32)
    · have hf := hm_ifp hf z11
      exact mh6.tr (mh9.tr ((m_f_L_lay_47 hf)))
    · have hf := hm_ifn hf z11
      by_cases z12 : x3 = (-1 : Int32)
      · have hf := hm_ifp hf z12
        exact mh6.tr (mh9.tr ((m_f_L_lay_47 hf)))
      · have hf := hm_ifn hf z12
        exact mh6.tr (mh9.tr ((hm_le.ret hf)))
set_option maxRecDepth 20000 in
set_option maxHeartbeats 1000000 in
theorem w_f_L_lay_47 {p : Program} {l : Launch} {e : Env} {R : Room} {s : State} {m : MethodId} {args : Array Value} {below : List Frame} {meth : Method} {c : Code} {E : hm_E} {n0 s0 F : Nat} {r : Int32} {h h' : hm_T} (C : hm_C E prog_3_method_2_code 5 "DistanceLabels$Labels" 0 0 n0 s0 (hm_n h') (hm_s h') p R s m args c) (hr : meth.sig.returnType = (some .int)) (hlk : meth.locks = false) (hf : f_L_lay_47 F h = some (r, h')) : hm_G E 5 n0 s0 (hm_n h') (hm_s h') p l e R s m args below meth c (MQ below (hm_Qc E (some (.int r)) h') args s (hm_n h' - n0) (hm_s h' - s0) (fun q => E.2.2 ≤ q)) 47 [] [] h := by
  unfold f_L_lay_47 at hf
  refine hm_iconst (v := (1 : Int32)) C d_L_lay_47 (by decide) ?_
  refine hm_goto (tgt := 52) C d_L_lay_48 (by decide) ?_
  exact hm_iret C hr hlk d_L_lay_52 hf
set_option maxRecDepth 20000 in
set_option maxHeartbeats 1000000 in
theorem w_f_L_lay {p : Program} {l : Launch} {e : Env} {R : Room} {s : State} {m : MethodId} {args : Array Value} {below : List Frame} {meth : Method} {c : Code} {E : hm_E} {n0 s0 F : Nat} {r : Int32} {h h' : hm_T} {x0 : Nat} {x1 : Int32} {x2 : Int32} {x3 : Int32} (C : hm_C E prog_3_method_2_code 5 "DistanceLabels$Labels" 0 0 n0 s0 (hm_n h') (hm_s h') p R s m args c) (hr : meth.sig.returnType = (some .int)) (hlk : meth.locks = false) (hf : f_L_lay F x0 x1 x2 x3 h = some (r, h')) : hm_G E 5 n0 s0 (hm_n h') (hm_s h') p l e R s m args below meth c (MQ below (hm_Qc E (some (.int r)) h') args s (hm_n h' - n0) (hm_s h' - s0) (fun q => E.2.2 ≤ q)) 0 [(0, .ref x0), (1, .int x1), (2, .int x2), (3, .int x3)] [] h := by
  unfold f_L_lay at hf
  refine hm_aload_n C d_L_lay_0 rfl 0 rfl ?_
  obtain ⟨a1, ea1, hf⟩ := hm_bind hf
  refine hm_getR C F_1 0 (by decide) rfl k_11 d_L_lay_1 ea1 ?_
  refine hm_iload_n C d_L_lay_4 rfl 1 rfl ?_
  obtain ⟨a2, ea2, hf⟩ := hm_bind hf
  refine hm_aaload C d_L_lay_5 ea2 ?_
  refine hm_iload_n C d_L_lay_6 rfl 2 rfl ?_
  obtain ⟨v3, ev3, hf⟩ := hm_bind hf
  refine hm_iaload C d_L_lay_7 ev3 ?_
  refine hm_istore (lv' := [(4, .int v3), (0, .ref x0), (1, .int x1), (2, .int x2), (3, .int x3)]) C d_L_lay_8 (by decide) rfl ?_
  refine hm_aload_n C d_L_lay_10 rfl 1 rfl ?_
  obtain ⟨a4, ea4, hf⟩ := hm_bind hf
  refine hm_getR C F_1 0 (by decide) rfl k_11 d_L_lay_11 ea4 ?_
  refine hm_iload_n C d_L_lay_14 rfl 2 rfl ?_
  obtain ⟨a5, ea5, hf⟩ := hm_bind hf
  refine hm_aaload C d_L_lay_15 ea5 ?_
  refine hm_iload_n C d_L_lay_16 rfl 3 rfl ?_
  refine hm_iload_n C d_L_lay_17 rfl 4 rfl ?_
  obtain ⟨h6, eh6, hf⟩ := hm_bind hf
  refine hm_iastore C d_L_lay_18 eh6 ?_
  refine hm_aload_n C d_L_lay_19 rfl 1 rfl ?_
  obtain ⟨a7, ea7, hf⟩ := hm_bind hf
  refine hm_getR C F_1 1 (by decide) rfl k_12 d_L_lay_20 ea7 ?_
  refine hm_iload_n C d_L_lay_23 rfl 2 rfl ?_
  obtain ⟨a8, ea8, hf⟩ := hm_bind hf
  refine hm_aaload C d_L_lay_24 ea8 ?_
  refine hm_iload_n C d_L_lay_25 rfl 3 rfl ?_
  refine hm_iload_n C d_L_lay_26 rfl 4 rfl ?_
  obtain ⟨h9, eh9, hf⟩ := hm_bind hf
  refine hm_iastore C d_L_lay_27 eh9 ?_
  refine hm_iload C d_L_lay_28 0 rfl ?_
  refine hm_iload_n C d_L_lay_30 rfl 4 rfl ?_
  refine hm_icmp_ne (tgt := 36) C d_L_lay_31 (by decide) (fun z10 => ?_) (fun z10 => ?_)
  · have hf := hm_ifn hf z10
    refine hm_iload C d_L_lay_36 0 rfl ?_
    refine hm_iconst (v := (-1 : Int32)) C d_L_lay_38 (by decide) ?_
    refine hm_icmp_eq (tgt := 47) C d_L_lay_39 (by decide) (fun z11 => ?_) (fun z11 => ?_)
    · have hf := hm_ifp hf z11
      refine hm_sub (lv' := []) [] rfl ?_
      exact w_f_L_lay_47 C hr hlk hf
    · have hf := hm_ifn hf z11
      refine hm_iload_n C d_L_lay_42 rfl 4 rfl ?_
      refine hm_iconst (v := (-1 : Int32)) C d_L_lay_43 (by decide) ?_
      refine hm_icmp_ne (tgt := 51) C d_L_lay_44 (by decide) (fun z12 => ?_) (fun z12 => ?_)
      · have hf := hm_ifn hf z12
        refine hm_iconst (v := (2 : Int32)) C d_L_lay_51 (by decide) ?_
        exact hm_iret C hr hlk d_L_lay_52 hf
      · have hf := hm_ifp hf z12
        refine hm_sub (lv' := []) [] rfl ?_
        exact w_f_L_lay_47 C hr hlk hf
  · have hf := hm_ifp hf z10
    refine hm_iconst (v := (0 : Int32)) C d_L_lay_34 (by decide) ?_
    exact hm_iret C hr hlk d_L_lay_35 hf
set_option maxRecDepth 20000 in
theorem c_L_lay {E : hm_E} {l : Launch} {F : Nat} {r : Int32} {h h' : hm_T} {x0 : Nat} {x1 : Int32} {x2 : Int32} {x3 : Int32} (hf : f_L_lay F x0 x1 x2 x3 h = some (r, h')) : hm_M E l y_L_lay prog_3_method_2_code 5 (some .int) 0 0 [.ref x0, .int x1, .int x2, .int x3] h (some (.int r)) h' :=
  hm_enter (by decide +kernel) (Nat.le_of_ble_eq_true rfl) (m_f_L_lay hf) (fun p e R s m below meth c C hr hlk hin => w_f_L_lay C hr hlk hf)
def f_D_layPair_88 (F : Nat) (x5 : Int32) (t0 : Int32) (h : hm_T) : Option (Int32 × hm_T) :=
  (if x5 = (-1 : Int32) then some ((t0 + (0 : Int32)), h) else some ((t0 + (1 : Int32)), h))
def f_D_layPair_43 (F : Nat) (x0 : Nat) (x1 : Int32) (x2 : Int32) (x4 : Int32) (t0 : Int32) (h : hm_T) : Option (Int32 × hm_T) :=
  (hm_gi 3 9 8 h x0).bind (fun v1 => (hm_gr 3 9 2 h x0).bind (fun a2 => (hm_is 1 2 h a2).bind (fun u3 => hm_and (f_L_lay F a2 x1 x2 x4 h) (fun v4 h4 => (hm_gr 3 9 3 h4 x0).bind (fun a5 => (hm_is 1 2 h4 a5).bind (fun u6 => hm_and (f_L_lay F a5 x2 x1 t0 h4) (fun v7 h7 => (hm_pi 3 9 8 h7 x0 (v1 + (v4 + v7))).bind (fun h8 => (if x4 = (-1 : Int32) then f_D_layPair_88 F t0 (0 : Int32) h8 else f_D_layPair_88 F t0 (1 : Int32) h8)))))))))
def f_D_layPair_24 (F : Nat) (x0 : Nat) (x1 : Int32) (x2 : Int32) (x3 : Int32) (t0 : Int32) (h : hm_T) : Option (Int32 × hm_T) :=
  (if x3 = x1 then (hm_gr 3 9 1 h x0).bind (fun a2 => (hm_ald h a2 x1).bind (fun a3 => (hm_ild h a3 x2).bind (fun v4 => f_D_layPair_43 F x0 x1 x2 t0 v4 h))) else f_D_layPair_43 F x0 x1 x2 t0 (-1 : Int32) h)
def f_D_layPair (F : Nat) (x0 : Nat) (x1 : Int32) (x2 : Int32) (h : hm_T) : Option (Int32 × hm_T) :=
  (hm_is 3 9 h x0).bind (fun u1 => hm_and (f_D_firstOnLeastWays F x0 x1 x2 h) (fun v2 h2 => (if v2 = x2 then (hm_gr 3 9 1 h2 x0).bind (fun a4 => (hm_ald h2 a4 x1).bind (fun a5 => (hm_ild h2 a5 x2).bind (fun v6 => f_D_layPair_24 F x0 x1 x2 v2 v6 h2))) else f_D_layPair_24 F x0 x1 x2 v2 (-1 : Int32) h2)))
theorem m_f_D_layPair_88 {F : Nat} {r : Int32} {h h' : hm_T} {x5 : Int32} {t0 : Int32} (hf : f_D_layPair_88 F x5 t0 h = some (r, h')) : hm_le h h' := by
  unfold f_D_layPair_88 at hf
  by_cases z1 : x5 = (-1 : Int32)
  · have hf := hm_ifp hf z1
    exact (hm_le.ret hf)
  · have hf := hm_ifn hf z1
    exact (hm_le.ret hf)
theorem m_f_D_layPair_43 {F : Nat} {r : Int32} {h h' : hm_T} {x0 : Nat} {x1 : Int32} {x2 : Int32} {x4 : Int32} {t0 : Int32} (hf : f_D_layPair_43 F x0 x1 x2 x4 t0 h = some (r, h')) : hm_le h h' := by
  unfold f_D_layPair_43 at hf
  obtain ⟨v1, ev1, hf⟩ := hm_bind hf
  obtain ⟨a2, ea2, hf⟩ := hm_bind hf
  obtain ⟨u3, eu3, hf⟩ := hm_bind hf
  obtain ⟨v4, h4, eh4, hf⟩ := hm_and_of hf
  have mh4 := m_f_L_lay eh4
  obtain ⟨a5, ea5, hf⟩ := hm_bind hf
  obtain ⟨u6, eu6, hf⟩ := hm_bind hf
  obtain ⟨v7, h7, eh7, hf⟩ := hm_and_of hf
  have mh7 := m_f_L_lay eh7
  obtain ⟨h8, eh8, hf⟩ := hm_bind hf
  have mh8 := hm_le.pi eh8
  by_cases z9 : x4 = (-1 : Int32)
  · have hf := hm_ifp hf z9
    exact mh4.tr (mh7.tr (mh8.tr ((m_f_D_layPair_88 hf))))
  · have hf := hm_ifn hf z9
    exact mh4.tr (mh7.tr (mh8.tr ((m_f_D_layPair_88 hf))))
theorem m_f_D_layPair_24 {F : Nat} {r : Int32} {h h' : hm_T} {x0 : Nat} {x1 : Int32} {x2 : Int32} {x3 : Int32} {t0 : Int32} (hf : f_D_layPair_24 F x0 x1 x2 x3 t0 h = some (r, h')) : hm_le h h' := by
  unfold f_D_layPair_24 at hf
  by_cases z1 : x3 = x1
  · have hf := hm_ifp hf z1
    obtain ⟨a2, ea2, hf⟩ := hm_bind hf
    obtain ⟨a3, ea3, hf⟩ := hm_bind hf
    obtain ⟨v4, ev4, hf⟩ := hm_bind hf
    exact (m_f_D_layPair_43 hf)
  · have hf := hm_ifn hf z1
    exact (m_f_D_layPair_43 hf)
theorem m_f_D_layPair {F : Nat} {r : Int32} {h h' : hm_T} {x0 : Nat} {x1 : Int32} {x2 : Int32} (hf : f_D_layPair F x0 x1 x2 h = some (r, h')) : hm_le h h' := by
  unfold f_D_layPair at hf
  obtain ⟨u1, eu1, hf⟩ := hm_bind hf
  obtain ⟨v2, h2, eh2, hf⟩ := hm_and_of hf
  have mh2 := m_f_D_firstOnLeastWays eh2
  by_cases z3 : v2 = x2
  · have hf := hm_ifp hf z3
    obtain ⟨a4, ea4, hf⟩ := hm_bind hf
    obtain ⟨a5, ea5, hf⟩ := hm_bind hf
    obtain ⟨v6, ev6, hf⟩ := hm_bind hf
    exact mh2.tr ((m_f_D_layPair_24 hf))
  · have hf := hm_ifn hf z3
    exact mh2.tr ((m_f_D_layPair_24 hf))
set_option maxRecDepth 20000 in
set_option maxHeartbeats 1000000 in
theorem w_f_D_layPair_88 {p : Program} {l : Launch} {e : Env} {R : Room} {s : State} {m : MethodId} {args : Array Value} {below : List Frame} {meth : Method} {c : Code} {E : hm_E} {n0 s0 F : Nat} {r : Int32} {h h' : hm_T} {x5 : Int32} {t0 : Int32} (C : hm_C E prog_1_method_25_code 6 "DistanceLabels" 2 45 n0 s0 (hm_n h') (hm_s h') p R s m args c) (hr : meth.sig.returnType = (some .int)) (hlk : meth.locks = false) (hf : f_D_layPair_88 F x5 t0 h = some (r, h')) : hm_G E 6 n0 s0 (hm_n h') (hm_s h') p l e R s m args below meth c (MQ below (hm_Qc E (some (.int r)) h') args s (hm_n h' - n0) (hm_s h' - s0) (fun q => E.2.2 ≤ q)) 88 [(5, .int x5)] [.int t0] h := by
  unfold f_D_layPair_88 at hf
  refine hm_iload C d_D_layPair_88 0 rfl ?_
  refine hm_iconst (v := (-1 : Int32)) C d_D_layPair_90 (by decide) ?_
  refine hm_icmp_eq (tgt := 98) C d_D_layPair_91 (by decide) (fun z1 => ?_) (fun z1 => ?_)
  · have hf := hm_ifp hf z1
    refine hm_iconst (v := (0 : Int32)) C d_D_layPair_98 (by decide) ?_
    refine hm_iadd C d_D_layPair_99 ?_
    exact hm_iret C hr hlk d_D_layPair_100 hf
  · have hf := hm_ifn hf z1
    refine hm_iconst (v := (1 : Int32)) C d_D_layPair_94 (by decide) ?_
    refine hm_goto (tgt := 99) C d_D_layPair_95 (by decide) ?_
    refine hm_iadd C d_D_layPair_99 ?_
    exact hm_iret C hr hlk d_D_layPair_100 hf
set_option maxRecDepth 20000 in
set_option maxHeartbeats 1000000 in
theorem w_f_D_layPair_43 {p : Program} {l : Launch} {e : Env} {R : Room} {s : State} {m : MethodId} {args : Array Value} {below : List Frame} {meth : Method} {c : Code} {E : hm_E} {n0 s0 F : Nat} {r : Int32} {h h' : hm_T} {x0 : Nat} {x1 : Int32} {x2 : Int32} {x4 : Int32} {t0 : Int32} (C : hm_C E prog_1_method_25_code 6 "DistanceLabels" 2 45 n0 s0 (hm_n h') (hm_s h') p R s m args c) (hr : meth.sig.returnType = (some .int)) (hlk : meth.locks = false) (hf : f_D_layPair_43 F x0 x1 x2 x4 t0 h = some (r, h')) : hm_G E 6 n0 s0 (hm_n h') (hm_s h') p l e R s m args below meth c (MQ below (hm_Qc E (some (.int r)) h') args s (hm_n h' - n0) (hm_s h' - s0) (fun q => E.2.2 ≤ q)) 43 [(0, .ref x0), (1, .int x1), (2, .int x2), (4, .int x4)] [.int t0] h := by
  unfold f_D_layPair_43 at hf
  refine hm_istore (lv' := [(5, .int t0), (0, .ref x0), (1, .int x1), (2, .int x2), (4, .int x4)]) C d_D_layPair_43 (by decide) rfl ?_
  refine hm_aload_n C d_D_layPair_45 rfl 1 rfl ?_
  refine hm_dup C d_D_layPair_46 rfl ?_
  obtain ⟨v1, ev1, hf⟩ := hm_bind hf
  refine hm_getI C F_3 8 (by decide) rfl k_43 d_D_layPair_47 ev1 ?_
  refine hm_aload_n C d_D_layPair_50 rfl 1 rfl ?_
  obtain ⟨a2, ea2, hf⟩ := hm_bind hf
  refine hm_getR C F_3 2 (by decide) rfl k_33 d_D_layPair_51 ea2 ?_
  refine hm_iload_n C d_D_layPair_54 rfl 2 rfl ?_
  refine hm_iload_n C d_D_layPair_55 rfl 3 rfl ?_
  refine hm_iload C d_D_layPair_56 4 rfl ?_
  obtain ⟨u3, eu3, hf⟩ := hm_bind hf
  obtain ⟨v4, h4, eh4, hf⟩ := hm_and_of hf
  refine hm_callVN (vs := [.int x1, .int x2, .int x4]) (st := [.int v1, .ref x0]) (sb := [.int v4, .int v1, .ref x0]) C (c_L_lay eh4) Y_L_lay F_1 eu3 k_70 k_71 kM_12 (by decide) (by decide) rfl (Nat.le_of_ble_eq_true rfl) d_D_layPair_58 rfl rfl ?_
  refine hm_aload_n C d_D_layPair_61 rfl 1 rfl ?_
  obtain ⟨a5, ea5, hf⟩ := hm_bind hf
  refine hm_getR C F_3 3 (by decide) rfl k_34 d_D_layPair_62 ea5 ?_
  refine hm_iload_n C d_D_layPair_65 rfl 3 rfl ?_
  refine hm_iload_n C d_D_layPair_66 rfl 2 rfl ?_
  refine hm_iload C d_D_layPair_67 0 rfl ?_
  obtain ⟨u6, eu6, hf⟩ := hm_bind hf
  obtain ⟨v7, h7, eh7, hf⟩ := hm_and_of hf
  refine hm_callVN (vs := [.int x2, .int x1, .int t0]) (st := [.int v4, .int v1, .ref x0]) (sb := [.int v7, .int v4, .int v1, .ref x0]) C (c_L_lay eh7) Y_L_lay F_1 eu6 k_70 k_71 kM_12 (by decide) (by decide) rfl (Nat.le_of_ble_eq_true rfl) d_D_layPair_69 rfl rfl ?_
  refine hm_iadd C d_D_layPair_72 ?_
  refine hm_iadd C d_D_layPair_73 ?_
  obtain ⟨h8, eh8, hf⟩ := hm_bind hf
  refine hm_putI C F_3 8 (by decide) rfl k_43 (Or.inl rfl) rfl d_D_layPair_74 eh8 ?_
  refine hm_iload C d_D_layPair_77 4 rfl ?_
  refine hm_iconst (v := (-1 : Int32)) C d_D_layPair_79 (by decide) ?_
  refine hm_icmp_eq (tgt := 87) C d_D_layPair_80 (by decide) (fun z9 => ?_) (fun z9 => ?_)
  · have hf := hm_ifp hf z9
    refine hm_iconst (v := (0 : Int32)) C d_D_layPair_87 (by decide) ?_
    refine hm_sub (lv' := [(5, .int t0)]) [0] rfl ?_
    exact w_f_D_layPair_88 C hr hlk hf
  · have hf := hm_ifn hf z9
    refine hm_iconst (v := (1 : Int32)) C d_D_layPair_83 (by decide) ?_
    refine hm_goto (tgt := 88) C d_D_layPair_84 (by decide) ?_
    refine hm_sub (lv' := [(5, .int t0)]) [0] rfl ?_
    exact w_f_D_layPair_88 C hr hlk hf
set_option maxRecDepth 20000 in
set_option maxHeartbeats 1000000 in
theorem w_f_D_layPair_24 {p : Program} {l : Launch} {e : Env} {R : Room} {s : State} {m : MethodId} {args : Array Value} {below : List Frame} {meth : Method} {c : Code} {E : hm_E} {n0 s0 F : Nat} {r : Int32} {h h' : hm_T} {x0 : Nat} {x1 : Int32} {x2 : Int32} {x3 : Int32} {t0 : Int32} (C : hm_C E prog_1_method_25_code 6 "DistanceLabels" 2 45 n0 s0 (hm_n h') (hm_s h') p R s m args c) (hr : meth.sig.returnType = (some .int)) (hlk : meth.locks = false) (hf : f_D_layPair_24 F x0 x1 x2 x3 t0 h = some (r, h')) : hm_G E 6 n0 s0 (hm_n h') (hm_s h') p l e R s m args below meth c (MQ below (hm_Qc E (some (.int r)) h') args s (hm_n h' - n0) (hm_s h' - s0) (fun q => E.2.2 ≤ q)) 24 [(0, .ref x0), (1, .int x1), (2, .int x2), (3, .int x3)] [.int t0] h := by
  unfold f_D_layPair_24 at hf
  refine hm_istore (lv' := [(4, .int t0), (0, .ref x0), (1, .int x1), (2, .int x2), (3, .int x3)]) C d_D_layPair_24 (by decide) rfl ?_
  refine hm_iload_n C d_D_layPair_26 rfl 4 rfl ?_
  refine hm_iload_n C d_D_layPair_27 rfl 2 rfl ?_
  refine hm_icmp_ne (tgt := 42) C d_D_layPair_28 (by decide) (fun z1 => ?_) (fun z1 => ?_)
  · have hf := hm_ifn hf z1
    refine hm_iconst (v := (-1 : Int32)) C d_D_layPair_42 (by decide) ?_
    refine hm_sub (lv' := [(0, .ref x0), (1, .int x1), (2, .int x2), (4, .int t0)]) [1, 2, 3, 0] rfl ?_
    exact w_f_D_layPair_43 C hr hlk hf
  · have hf := hm_ifp hf z1
    refine hm_aload_n C d_D_layPair_31 rfl 1 rfl ?_
    obtain ⟨a2, ea2, hf⟩ := hm_bind hf
    refine hm_getR C F_3 1 (by decide) rfl k_28 d_D_layPair_32 ea2 ?_
    refine hm_iload_n C d_D_layPair_35 rfl 2 rfl ?_
    obtain ⟨a3, ea3, hf⟩ := hm_bind hf
    refine hm_aaload C d_D_layPair_36 ea3 ?_
    refine hm_iload_n C d_D_layPair_37 rfl 3 rfl ?_
    obtain ⟨v4, ev4, hf⟩ := hm_bind hf
    refine hm_iaload C d_D_layPair_38 ev4 ?_
    refine hm_goto (tgt := 43) C d_D_layPair_39 (by decide) ?_
    refine hm_sub (lv' := [(0, .ref x0), (1, .int x1), (2, .int x2), (4, .int t0)]) [1, 2, 3, 0] rfl ?_
    exact w_f_D_layPair_43 C hr hlk hf
set_option maxRecDepth 20000 in
set_option maxHeartbeats 1000000 in
theorem w_f_D_layPair {p : Program} {l : Launch} {e : Env} {R : Room} {s : State} {m : MethodId} {args : Array Value} {below : List Frame} {meth : Method} {c : Code} {E : hm_E} {n0 s0 F : Nat} {r : Int32} {h h' : hm_T} {x0 : Nat} {x1 : Int32} {x2 : Int32} (C : hm_C E prog_1_method_25_code 6 "DistanceLabels" 2 45 n0 s0 (hm_n h') (hm_s h') p R s m args c) (hr : meth.sig.returnType = (some .int)) (hlk : meth.locks = false) (hf : f_D_layPair F x0 x1 x2 h = some (r, h')) : hm_G E 6 n0 s0 (hm_n h') (hm_s h') p l e R s m args below meth c (MQ below (hm_Qc E (some (.int r)) h') args s (hm_n h' - n0) (hm_s h' - s0) (fun q => E.2.2 ≤ q)) 0 [(0, .ref x0), (1, .int x1), (2, .int x2)] [] h := by
  unfold f_D_layPair at hf
  refine hm_aload_n C d_D_layPair_0 rfl 0 rfl ?_
  refine hm_iload_n C d_D_layPair_1 rfl 1 rfl ?_
  refine hm_iload_n C d_D_layPair_2 rfl 2 rfl ?_
  obtain ⟨u1, eu1, hf⟩ := hm_bind hf
  obtain ⟨v2, h2, eh2, hf⟩ := hm_and_of hf
  refine hm_callV (vs := [.int x1, .int x2]) (st := []) (sb := [.int v2]) C (c_D_firstOnLeastWays eh2) Y_D_firstOnLeastWays F_3 eu1 k_73 k_74 k_72 (by decide) (by decide) rfl (Nat.le_of_ble_eq_true rfl) d_D_layPair_3 rfl rfl ?_
  refine hm_istore_n (lv' := [(3, .int v2), (0, .ref x0), (1, .int x1), (2, .int x2)]) C d_D_layPair_6 rfl (by decide) rfl ?_
  refine hm_iload_n C d_D_layPair_7 rfl 0 rfl ?_
  refine hm_iload_n C d_D_layPair_8 rfl 3 rfl ?_
  refine hm_icmp_ne (tgt := 23) C d_D_layPair_9 (by decide) (fun z3 => ?_) (fun z3 => ?_)
  · have hf := hm_ifn hf z3
    refine hm_iconst (v := (-1 : Int32)) C d_D_layPair_23 (by decide) ?_
    refine hm_sub (lv' := [(0, .ref x0), (1, .int x1), (2, .int x2), (3, .int v2)]) [1, 2, 3, 0] rfl ?_
    exact w_f_D_layPair_24 C hr hlk hf
  · have hf := hm_ifp hf z3
    refine hm_aload_n C d_D_layPair_12 rfl 1 rfl ?_
    obtain ⟨a4, ea4, hf⟩ := hm_bind hf
    refine hm_getR C F_3 1 (by decide) rfl k_28 d_D_layPair_13 ea4 ?_
    refine hm_iload_n C d_D_layPair_16 rfl 2 rfl ?_
    obtain ⟨a5, ea5, hf⟩ := hm_bind hf
    refine hm_aaload C d_D_layPair_17 ea5 ?_
    refine hm_iload_n C d_D_layPair_18 rfl 3 rfl ?_
    obtain ⟨v6, ev6, hf⟩ := hm_bind hf
    refine hm_iaload C d_D_layPair_19 ev6 ?_
    refine hm_goto (tgt := 24) C d_D_layPair_20 (by decide) ?_
    refine hm_sub (lv' := [(0, .ref x0), (1, .int x1), (2, .int x2), (3, .int v2)]) [1, 2, 3, 0] rfl ?_
    exact w_f_D_layPair_24 C hr hlk hf
set_option maxRecDepth 20000 in
theorem c_D_layPair {E : hm_E} {l : Launch} {F : Nat} {r : Int32} {h h' : hm_T} {x0 : Nat} {x1 : Int32} {x2 : Int32} (hf : f_D_layPair F x0 x1 x2 h = some (r, h')) : hm_M E l y_D_layPair prog_1_method_25_code 6 (some .int) 2 45 [.ref x0, .int x1, .int x2] h (some (.int r)) h' :=
  hm_enter (by decide +kernel) (Nat.le_of_ble_eq_true rfl) (m_f_D_layPair hf) (fun p e R s m below meth c C hr hlk hin => w_f_D_layPair C hr hlk hf)
def f_K_bring (F : Nat) (x0 : Nat) (x1 : Int32) (x2 : Int32) (x3 : Int32) (x4 : Int32) (h : hm_T) : Option hm_T :=
  (hm_gr 0 7 0 h x0).bind (fun a1 => (hm_ald h a1 x1).bind (fun a2 => (hm_ist h a2 x2 x3).bind (fun h3 => (hm_gi 0 7 4 h3 x0).bind (fun v4 => (if (1120 : Int32) ≤ v4 then some h3 else (hm_gr 0 7 2 h3 x0).bind (fun a6 => (hm_gi 0 7 4 h3 x0).bind (fun v7 => (hm_ist h3 a6 v7 ((((x1 * (16 : Int32)) + x2) * (16 : Int32)) + x4)).bind (fun h8 => (hm_gr 0 7 3 h8 x0).bind (fun a9 => (hm_gi 0 7 4 h8 x0).bind (fun v10 => (hm_ist h8 a9 v10 x3).bind (fun h11 => (hm_gi 0 7 4 h11 x0).bind (fun v12 => (hm_pi 0 7 4 h11 x0 (v12 + (1 : Int32))).bind (fun h13 => some h13)))))))))))))
theorem m_f_K_bring {F : Nat} {h h' : hm_T} {x0 : Nat} {x1 : Int32} {x2 : Int32} {x3 : Int32} {x4 : Int32} (hf : f_K_bring F x0 x1 x2 x3 x4 h = some h') : hm_le h h' := by
  unfold f_K_bring at hf
  obtain ⟨a1, ea1, hf⟩ := hm_bind hf
  obtain ⟨a2, ea2, hf⟩ := hm_bind hf
  obtain ⟨h3, eh3, hf⟩ := hm_bind hf
  have mh3 := hm_le.ist eh3
  obtain ⟨v4, ev4, hf⟩ := hm_bind hf
  by_cases z5 : (1120 : Int32) ≤ v4
  · have hf := hm_ifp hf z5
    exact mh3.tr ((hm_le.retv hf))
  · have hf := hm_ifn hf z5
    obtain ⟨a6, ea6, hf⟩ := hm_bind hf
    obtain ⟨v7, ev7, hf⟩ := hm_bind hf
    obtain ⟨h8, eh8, hf⟩ := hm_bind hf
    have mh8 := hm_le.ist eh8
    obtain ⟨a9, ea9, hf⟩ := hm_bind hf
    obtain ⟨v10, ev10, hf⟩ := hm_bind hf
    obtain ⟨h11, eh11, hf⟩ := hm_bind hf
    have mh11 := hm_le.ist eh11
    obtain ⟨v12, ev12, hf⟩ := hm_bind hf
    obtain ⟨h13, eh13, hf⟩ := hm_bind hf
    have mh13 := hm_le.pi eh13
    exact mh3.tr (mh8.tr (mh11.tr (mh13.tr ((hm_le.retv hf)))))
set_option maxRecDepth 20000 in
set_option maxHeartbeats 1000000 in
theorem w_f_K_bring {p : Program} {l : Launch} {e : Env} {R : Room} {s : State} {m : MethodId} {args : Array Value} {below : List Frame} {meth : Method} {c : Code} {E : hm_E} {n0 s0 F : Nat} {h h' : hm_T} {x0 : Nat} {x1 : Int32} {x2 : Int32} {x3 : Int32} {x4 : Int32} (C : hm_C E prog_2_method_4_code 5 "DistanceLabels$Contraction" 0 0 n0 s0 (hm_n h') (hm_s h') p R s m args c) (hr : meth.sig.returnType = none) (hlk : meth.locks = false) (hf : f_K_bring F x0 x1 x2 x3 x4 h = some h') : hm_G E 5 n0 s0 (hm_n h') (hm_s h') p l e R s m args below meth c (MQ below (hm_Qc E none h') args s (hm_n h' - n0) (hm_s h' - s0) (fun q => E.2.2 ≤ q)) 0 [(0, .ref x0), (1, .int x1), (2, .int x2), (3, .int x3), (4, .int x4)] [] h := by
  unfold f_K_bring at hf
  refine hm_aload_n C d_K_bring_0 rfl 0 rfl ?_
  obtain ⟨a1, ea1, hf⟩ := hm_bind hf
  refine hm_getR C F_0 0 (by decide) rfl k_14 d_K_bring_1 ea1 ?_
  refine hm_iload_n C d_K_bring_4 rfl 1 rfl ?_
  obtain ⟨a2, ea2, hf⟩ := hm_bind hf
  refine hm_aaload C d_K_bring_5 ea2 ?_
  refine hm_iload_n C d_K_bring_6 rfl 2 rfl ?_
  refine hm_iload_n C d_K_bring_7 rfl 3 rfl ?_
  obtain ⟨h3, eh3, hf⟩ := hm_bind hf
  refine hm_iastore C d_K_bring_8 eh3 ?_
  refine hm_aload_n C d_K_bring_9 rfl 0 rfl ?_
  obtain ⟨v4, ev4, hf⟩ := hm_bind hf
  refine hm_getI C F_0 4 (by decide) rfl k_18 d_K_bring_10 ev4 ?_
  refine hm_sipush (v := (1120 : Int32)) C d_K_bring_13 (by decide) ?_
  refine hm_icmp_ge (tgt := 60) C d_K_bring_16 (by decide) (fun z5 => ?_) (fun z5 => ?_)
  · have hf := hm_ifp hf z5
    exact hm_vret C hr hlk d_K_bring_60 hf
  · have hf := hm_ifn hf z5
    refine hm_aload_n C d_K_bring_19 rfl 0 rfl ?_
    obtain ⟨a6, ea6, hf⟩ := hm_bind hf
    refine hm_getR C F_0 2 (by decide) rfl k_16 d_K_bring_20 ea6 ?_
    refine hm_aload_n C d_K_bring_23 rfl 0 rfl ?_
    obtain ⟨v7, ev7, hf⟩ := hm_bind hf
    refine hm_getI C F_0 4 (by decide) rfl k_18 d_K_bring_24 ev7 ?_
    refine hm_iload_n C d_K_bring_27 rfl 1 rfl ?_
    refine hm_bipush (v := (16 : Int32)) C d_K_bring_28 (by decide) ?_
    refine hm_imul C d_K_bring_30 ?_
    refine hm_iload_n C d_K_bring_31 rfl 2 rfl ?_
    refine hm_iadd C d_K_bring_32 ?_
    refine hm_bipush (v := (16 : Int32)) C d_K_bring_33 (by decide) ?_
    refine hm_imul C d_K_bring_35 ?_
    refine hm_iload C d_K_bring_36 4 rfl ?_
    refine hm_iadd C d_K_bring_38 ?_
    obtain ⟨h8, eh8, hf⟩ := hm_bind hf
    refine hm_iastore C d_K_bring_39 eh8 ?_
    refine hm_aload_n C d_K_bring_40 rfl 0 rfl ?_
    obtain ⟨a9, ea9, hf⟩ := hm_bind hf
    refine hm_getR C F_0 3 (by decide) rfl k_17 d_K_bring_41 ea9 ?_
    refine hm_aload_n C d_K_bring_44 rfl 0 rfl ?_
    obtain ⟨v10, ev10, hf⟩ := hm_bind hf
    refine hm_getI C F_0 4 (by decide) rfl k_18 d_K_bring_45 ev10 ?_
    refine hm_iload_n C d_K_bring_48 rfl 3 rfl ?_
    obtain ⟨h11, eh11, hf⟩ := hm_bind hf
    refine hm_iastore C d_K_bring_49 eh11 ?_
    refine hm_aload_n C d_K_bring_50 rfl 0 rfl ?_
    refine hm_dup C d_K_bring_51 rfl ?_
    obtain ⟨v12, ev12, hf⟩ := hm_bind hf
    refine hm_getI C F_0 4 (by decide) rfl k_18 d_K_bring_52 ev12 ?_
    refine hm_iconst (v := (1 : Int32)) C d_K_bring_55 (by decide) ?_
    refine hm_iadd C d_K_bring_56 ?_
    obtain ⟨h13, eh13, hf⟩ := hm_bind hf
    refine hm_putI C F_0 4 (by decide) rfl k_18 (Or.inl rfl) rfl d_K_bring_57 eh13 ?_
    exact hm_vret C hr hlk d_K_bring_60 hf
set_option maxRecDepth 20000 in
theorem c_K_bring {E : hm_E} {l : Launch} {F : Nat} {h h' : hm_T} {x0 : Nat} {x1 : Int32} {x2 : Int32} {x3 : Int32} {x4 : Int32} (hf : f_K_bring F x0 x1 x2 x3 x4 h = some h') : hm_M E l y_K_bring prog_2_method_4_code 5 none 0 0 [.ref x0, .int x1, .int x2, .int x3, .int x4] h none h' :=
  hm_enter (by decide +kernel) (Nat.le_of_ble_eq_true rfl) (m_f_K_bring hf) (fun p e R s m below meth c C hr hlk hin => w_f_K_bring C hr hlk hf)
def f_K_letGo_146 (F : Nat) (k38 : Nat → Nat → Int32 → Int32 → Int32 → hm_T → Option hm_T) (x0 : Nat) (x1 : Nat) (x2 : Int32) (x3 : Int32) (x4 : Int32) (h : hm_T) : Option hm_T :=
  k38 x0 x1 x2 x3 (x4 + (1 : Int32)) h
def f_K_letGo_140 (F : Nat) (k50 : Nat → Nat → Int32 → Int32 → Int32 → Int32 → hm_T → Option hm_T) (x0 : Nat) (x1 : Nat) (x2 : Int32) (x3 : Int32) (x4 : Int32) (x5 : Int32) (h : hm_T) : Option hm_T :=
  k50 x0 x1 x2 x3 x4 (x5 + (1 : Int32)) h
def g_K_letGo_50 (F : Nat) (k38 : Nat → Nat → Int32 → Int32 → Int32 → hm_T → Option hm_T) (k50 : Nat → Nat → Int32 → Int32 → Int32 → Int32 → hm_T → Option hm_T) (x0 : Nat) (x1 : Nat) (x2 : Int32) (x3 : Int32) (x4 : Int32) (x5 : Int32) (h : hm_T) : Option hm_T :=
  (hm_gi 2 5 0 h x1).bind (fun v1 => (if v1 ≤ x5 then f_K_letGo_146 F k38 x0 x1 x2 x3 x4 h else (if x4 = x5 then f_K_letGo_140 F k50 x0 x1 x2 x3 x4 x5 h else (hm_gr 2 5 4 h x1).bind (fun a4 => (hm_ild h a4 x4).bind (fun v5 => (if x2 ≤ v5 then f_K_letGo_140 F k50 x0 x1 x2 x3 x4 x5 h else (hm_gr 2 5 4 h x1).bind (fun a7 => (hm_ild h a7 x5).bind (fun v8 => (if x2 ≤ v8 then f_K_letGo_140 F k50 x0 x1 x2 x3 x4 x5 h else (hm_gr 0 7 0 h x0).bind (fun a10 => (hm_ald h a10 x4).bind (fun a11 => (hm_ild h a11 x3).bind (fun v12 => (hm_gr 0 7 0 h x0).bind (fun a13 => (hm_ald h a13 x3).bind (fun a14 => (hm_ild h a14 x5).bind (fun v15 => hm_and (f_D_sum F v12 v15 h) (fun v16 h16 => (hm_gr 0 7 1 h16 x0).bind (fun a17 => (hm_ald h16 a17 x4).bind (fun a18 => (hm_ild h16 a18 x5).bind (fun v19 => hm_and (f_D_isLess F v16 v19 h16) (fun v20 h20 => (if v20 = 0 then f_K_letGo_140 F k50 x0 x1 x2 x3 x4 x5 h20 else (hm_is 0 7 h20 x0).bind (fun u22 => (f_K_bring F x0 x4 x5 v16 x3 h20).bind (fun h23 => f_K_letGo_140 F k50 x0 x1 x2 x3 x4 x5 h23)))))))))))))))))))))))
def f_K_letGo_50 (F : Nat) (k38 : Nat → Nat → Int32 → Int32 → Int32 → hm_T → Option hm_T) : Nat → Nat → Nat → Int32 → Int32 → Int32 → Int32 → hm_T → Option hm_T
  | 0 => fun _ _ _ _ _ _ _ => none
  | n + 1 => g_K_letGo_50 F k38 (f_K_letGo_50 F k38 n)
def g_K_letGo_38 (F : Nat) (k38 : Nat → Nat → Int32 → Int32 → Int32 → hm_T → Option hm_T) (x0 : Nat) (x1 : Nat) (x2 : Int32) (x3 : Int32) (x4 : Int32) (h : hm_T) : Option hm_T :=
  (hm_gi 2 5 0 h x1).bind (fun v1 => (if v1 ≤ x4 then some h else f_K_letGo_50 F k38 F x0 x1 x2 x3 x4 (0 : Int32) h))
def f_K_letGo_38 (F : Nat) : Nat → Nat → Nat → Int32 → Int32 → Int32 → hm_T → Option hm_T
  | 0 => fun _ _ _ _ _ _ => none
  | n + 1 => g_K_letGo_38 F (f_K_letGo_38 F n)
def f_K_letGo (F : Nat) (x0 : Nat) (x1 : Nat) (x2 : Int32) (h : hm_T) : Option hm_T :=
  (hm_gr 2 5 3 h x1).bind (fun a1 => (hm_gr 0 7 0 h x0).bind (fun a2 => (hm_gr 0 7 1 h x0).bind (fun a3 => (f_D_copyAmong F a1 x2 a2 a3 h).bind (fun h4 => (hm_gr 2 5 3 h4 x1).bind (fun a5 => (hm_gr 0 7 1 h4 x0).bind (fun a6 => (f_D_shortenAmong F a5 x2 a6 h4).bind (fun h7 => (hm_gr 2 5 3 h7 x1).bind (fun a8 => (hm_ild h7 a8 x2).bind (fun v9 => f_K_letGo_38 F F x0 x1 x2 v9 (0 : Int32) h7)))))))))
theorem m_f_K_letGo_146 {F : Nat} {h h' : hm_T} {x0 : Nat} {x1 : Nat} {x2 : Int32} {x3 : Int32} {x4 : Int32} {k38 : Nat → Nat → Int32 → Int32 → Int32 → hm_T → Option hm_T} (hk38 : ∀ (y0 : Nat) (y1 : Nat) (y2 : Int32) (y3 : Int32) (y4 : Int32) (g : hm_T), k38 y0 y1 y2 y3 y4 g = some h' → hm_le g h') (hf : f_K_letGo_146 F k38 x0 x1 x2 x3 x4 h = some h') : hm_le h h' := by
  unfold f_K_letGo_146 at hf
  exact (hk38 _ _ _ _ _ _ hf)
theorem m_f_K_letGo_140 {F : Nat} {h h' : hm_T} {x0 : Nat} {x1 : Nat} {x2 : Int32} {x3 : Int32} {x4 : Int32} {x5 : Int32} {k50 : Nat → Nat → Int32 → Int32 → Int32 → Int32 → hm_T → Option hm_T} (hk50 : ∀ (y0 : Nat) (y1 : Nat) (y2 : Int32) (y3 : Int32) (y4 : Int32) (y5 : Int32) (g : hm_T), k50 y0 y1 y2 y3 y4 y5 g = some h' → hm_le g h') (hf : f_K_letGo_140 F k50 x0 x1 x2 x3 x4 x5 h = some h') : hm_le h h' := by
  unfold f_K_letGo_140 at hf
  exact (hk50 _ _ _ _ _ _ _ hf)
theorem m_g_K_letGo_50 {F : Nat} {h h' : hm_T} {x0 : Nat} {x1 : Nat} {x2 : Int32} {x3 : Int32} {x4 : Int32} {x5 : Int32} {k38 : Nat → Nat → Int32 → Int32 → Int32 → hm_T → Option hm_T} {k50 : Nat → Nat → Int32 → Int32 → Int32 → Int32 → hm_T → Option hm_T} (hk38 : ∀ (y0 : Nat) (y1 : Nat) (y2 : Int32) (y3 : Int32) (y4 : Int32) (g : hm_T), k38 y0 y1 y2 y3 y4 g = some h' → hm_le g h') (hk50 : ∀ (y0 : Nat) (y1 : Nat) (y2 : Int32) (y3 : Int32) (y4 : Int32) (y5 : Int32) (g : hm_T), k50 y0 y1 y2 y3 y4 y5 g = some h' → hm_le g h') (hf : g_K_letGo_50 F k38 k50 x0 x1 x2 x3 x4 x5 h = some h') : hm_le h h' := by
  unfold g_K_letGo_50 at hf
  obtain ⟨v1, ev1, hf⟩ := hm_bind hf
  by_cases z2 : v1 ≤ x5
  · have hf := hm_ifp hf z2
    exact (m_f_K_letGo_146 hk38 hf)
  · have hf := hm_ifn hf z2
    by_cases z3 : x4 = x5
    · have hf := hm_ifp hf z3
      exact (m_f_K_letGo_140 hk50 hf)
    · have hf := hm_ifn hf z3
      obtain ⟨a4, ea4, hf⟩ := hm_bind hf
      obtain ⟨v5, ev5, hf⟩ := hm_bind hf
      by_cases z6 : x2 ≤ v5
      · have hf := hm_ifp hf z6
        exact (m_f_K_letGo_140 hk50 hf)
      · have hf := hm_ifn hf z6
        obtain ⟨a7, ea7, hf⟩ := hm_bind hf
        obtain ⟨v8, ev8, hf⟩ := hm_bind hf
        by_cases z9 : x2 ≤ v8
        · have hf := hm_ifp hf z9
          exact (m_f_K_letGo_140 hk50 hf)
        · have hf := hm_ifn hf z9
          obtain ⟨a10, ea10, hf⟩ := hm_bind hf
          obtain ⟨a11, ea11, hf⟩ := hm_bind hf
          obtain ⟨v12, ev12, hf⟩ := hm_bind hf
          obtain ⟨a13, ea13, hf⟩ := hm_bind hf
          obtain ⟨a14, ea14, hf⟩ := hm_bind hf
          obtain ⟨v15, ev15, hf⟩ := hm_bind hf
          obtain ⟨v16, h16, eh16, hf⟩ := hm_and_of hf
          have mh16 := m_f_D_sum eh16
          obtain ⟨a17, ea17, hf⟩ := hm_bind hf
          obtain ⟨a18, ea18, hf⟩ := hm_bind hf
          obtain ⟨v19, ev19, hf⟩ := hm_bind hf
          obtain ⟨v20, h20, eh20, hf⟩ := hm_and_of hf
          have mh20 := m_f_D_isLess eh20
          by_cases z21 : v20 = 0
          · have hf := hm_ifp hf z21
            exact mh16.tr (mh20.tr ((m_f_K_letGo_140 hk50 hf)))
          · have hf := hm_ifn hf z21
            obtain ⟨u22, eu22, hf⟩ := hm_bind hf
            obtain ⟨h23, eh23, hf⟩ := hm_bind hf
            have mh23 := m_f_K_bring eh23
            exact mh16.tr (mh20.tr (mh23.tr ((m_f_K_letGo_140 hk50 hf))))
theorem m_K_letGo_50L {F : Nat} {h' : hm_T} {k38 : Nat → Nat → Int32 → Int32 → Int32 → hm_T → Option hm_T} (hk38 : ∀ (y0 : Nat) (y1 : Nat) (y2 : Int32) (y3 : Int32) (y4 : Int32) (g : hm_T), k38 y0 y1 y2 y3 y4 g = some h' → hm_le g h') : ∀ (N : Nat) (x0 : Nat) (x1 : Nat) (x2 : Int32) (x3 : Int32) (x4 : Int32) (x5 : Int32) (h : hm_T), f_K_letGo_50 F k38 N x0 x1 x2 x3 x4 x5 h = some h' → hm_le h h' := by
  intro N
  induction N with
  | zero => intro _ _ _ _ _ _ _ hf; cases hf
  | succ n ih => intro x0 x1 x2 x3 x4 x5 h hf; exact m_g_K_letGo_50 hk38 ih hf
theorem m_g_K_letGo_38 {F : Nat} {h h' : hm_T} {x0 : Nat} {x1 : Nat} {x2 : Int32} {x3 : Int32} {x4 : Int32} {k38 : Nat → Nat → Int32 → Int32 → Int32 → hm_T → Option hm_T} (hk38 : ∀ (y0 : Nat) (y1 : Nat) (y2 : Int32) (y3 : Int32) (y4 : Int32) (g : hm_T), k38 y0 y1 y2 y3 y4 g = some h' → hm_le g h') (hf : g_K_letGo_38 F k38 x0 x1 x2 x3 x4 h = some h') : hm_le h h' := by
  unfold g_K_letGo_38 at hf
  obtain ⟨v1, ev1, hf⟩ := hm_bind hf
  by_cases z2 : v1 ≤ x4
  · have hf := hm_ifp hf z2
    exact (hm_le.retv hf)
  · have hf := hm_ifn hf z2
    exact (m_K_letGo_50L hk38 _ _ _ _ _ _ _ _ hf)
theorem m_K_letGo_38L {F : Nat} {h' : hm_T} : ∀ (N : Nat) (x0 : Nat) (x1 : Nat) (x2 : Int32) (x3 : Int32) (x4 : Int32) (h : hm_T), f_K_letGo_38 F N x0 x1 x2 x3 x4 h = some h' → hm_le h h' := by
  intro N
  induction N with
  | zero => intro _ _ _ _ _ _ hf; cases hf
  | succ n ih => intro x0 x1 x2 x3 x4 h hf; exact m_g_K_letGo_38 ih hf
theorem m_f_K_letGo {F : Nat} {h h' : hm_T} {x0 : Nat} {x1 : Nat} {x2 : Int32} (hf : f_K_letGo F x0 x1 x2 h = some h') : hm_le h h' := by
  unfold f_K_letGo at hf
  obtain ⟨a1, ea1, hf⟩ := hm_bind hf
  obtain ⟨a2, ea2, hf⟩ := hm_bind hf
  obtain ⟨a3, ea3, hf⟩ := hm_bind hf
  obtain ⟨h4, eh4, hf⟩ := hm_bind hf
  have mh4 := m_f_D_copyAmong eh4
  obtain ⟨a5, ea5, hf⟩ := hm_bind hf
  obtain ⟨a6, ea6, hf⟩ := hm_bind hf
  obtain ⟨h7, eh7, hf⟩ := hm_bind hf
  have mh7 := m_f_D_shortenAmong eh7
  obtain ⟨a8, ea8, hf⟩ := hm_bind hf
  obtain ⟨v9, ev9, hf⟩ := hm_bind hf
  exact mh4.tr (mh7.tr ((m_K_letGo_38L _ _ _ _ _ _ _ hf)))
set_option maxRecDepth 20000 in
set_option maxHeartbeats 1000000 in
theorem w_f_K_letGo_146 {p : Program} {l : Launch} {e : Env} {R : Room} {s : State} {m : MethodId} {args : Array Value} {below : List Frame} {meth : Method} {c : Code} {E : hm_E} {n0 s0 F : Nat} {h h' : hm_T} {x0 : Nat} {x1 : Nat} {x2 : Int32} {x3 : Int32} {x4 : Int32} {k38 : Nat → Nat → Int32 → Int32 → Int32 → hm_T → Option hm_T} (C : hm_C E prog_2_method_3_code 7 "DistanceLabels$Contraction" 3 74 n0 s0 (hm_n h') (hm_s h') p R s m args c) (hr : meth.sig.returnType = none) (hlk : meth.locks = false) (hk38 : ∀ (y0 : Nat) (y1 : Nat) (y2 : Int32) (y3 : Int32) (y4 : Int32) (g : hm_T), k38 y0 y1 y2 y3 y4 g = some h' → hm_G E 7 n0 s0 (hm_n h') (hm_s h') p l e R s m args below meth c (MQ below (hm_Qc E none h') args s (hm_n h' - n0) (hm_s h' - s0) (fun q => E.2.2 ≤ q)) 38 [(0, .ref y0), (1, .ref y1), (2, .int y2), (3, .int y3), (4, .int y4)] [] g) (hf : f_K_letGo_146 F k38 x0 x1 x2 x3 x4 h = some h') : hm_G E 7 n0 s0 (hm_n h') (hm_s h') p l e R s m args below meth c (MQ below (hm_Qc E none h') args s (hm_n h' - n0) (hm_s h' - s0) (fun q => E.2.2 ≤ q)) 146 [(0, .ref x0), (1, .ref x1), (2, .int x2), (3, .int x3), (4, .int x4)] [] h := by
  unfold f_K_letGo_146 at hf
  refine hm_iinc (v := (x4 + (1 : Int32))) (lv' := [(4, .int (x4 + (1 : Int32))), (0, .ref x0), (1, .ref x1), (2, .int x2), (3, .int x3)]) C d_K_letGo_146 4 rfl rfl (by decide) rfl ?_
  refine hm_goto (tgt := 38) C d_K_letGo_149 (by decide) ?_
  refine hm_sub (lv' := [(0, .ref x0), (1, .ref x1), (2, .int x2), (3, .int x3), (4, .int (x4 + (1 : Int32)))]) [1, 2, 3, 4, 0] rfl ?_
  exact hk38 _ _ _ _ _ _ hf
set_option maxRecDepth 20000 in
set_option maxHeartbeats 1000000 in
theorem w_f_K_letGo_140 {p : Program} {l : Launch} {e : Env} {R : Room} {s : State} {m : MethodId} {args : Array Value} {below : List Frame} {meth : Method} {c : Code} {E : hm_E} {n0 s0 F : Nat} {h h' : hm_T} {x0 : Nat} {x1 : Nat} {x2 : Int32} {x3 : Int32} {x4 : Int32} {x5 : Int32} {k50 : Nat → Nat → Int32 → Int32 → Int32 → Int32 → hm_T → Option hm_T} (C : hm_C E prog_2_method_3_code 7 "DistanceLabels$Contraction" 3 74 n0 s0 (hm_n h') (hm_s h') p R s m args c) (hr : meth.sig.returnType = none) (hlk : meth.locks = false) (hk50 : ∀ (y0 : Nat) (y1 : Nat) (y2 : Int32) (y3 : Int32) (y4 : Int32) (y5 : Int32) (g : hm_T), k50 y0 y1 y2 y3 y4 y5 g = some h' → hm_G E 7 n0 s0 (hm_n h') (hm_s h') p l e R s m args below meth c (MQ below (hm_Qc E none h') args s (hm_n h' - n0) (hm_s h' - s0) (fun q => E.2.2 ≤ q)) 50 [(0, .ref y0), (1, .ref y1), (2, .int y2), (3, .int y3), (4, .int y4), (5, .int y5)] [] g) (hf : f_K_letGo_140 F k50 x0 x1 x2 x3 x4 x5 h = some h') : hm_G E 7 n0 s0 (hm_n h') (hm_s h') p l e R s m args below meth c (MQ below (hm_Qc E none h') args s (hm_n h' - n0) (hm_s h' - s0) (fun q => E.2.2 ≤ q)) 140 [(0, .ref x0), (1, .ref x1), (2, .int x2), (3, .int x3), (4, .int x4), (5, .int x5)] [] h := by
  unfold f_K_letGo_140 at hf
  refine hm_iinc (v := (x5 + (1 : Int32))) (lv' := [(5, .int (x5 + (1 : Int32))), (0, .ref x0), (1, .ref x1), (2, .int x2), (3, .int x3), (4, .int x4)]) C d_K_letGo_140 5 rfl rfl (by decide) rfl ?_
  refine hm_goto (tgt := 50) C d_K_letGo_143 (by decide) ?_
  refine hm_sub (lv' := [(0, .ref x0), (1, .ref x1), (2, .int x2), (3, .int x3), (4, .int x4), (5, .int (x5 + (1 : Int32)))]) [1, 2, 3, 4, 5, 0] rfl ?_
  exact hk50 _ _ _ _ _ _ _ hf
set_option maxRecDepth 20000 in
set_option maxHeartbeats 1000000 in
theorem w_g_K_letGo_50 {p : Program} {l : Launch} {e : Env} {R : Room} {s : State} {m : MethodId} {args : Array Value} {below : List Frame} {meth : Method} {c : Code} {E : hm_E} {n0 s0 F : Nat} {h h' : hm_T} {x0 : Nat} {x1 : Nat} {x2 : Int32} {x3 : Int32} {x4 : Int32} {x5 : Int32} {k38 : Nat → Nat → Int32 → Int32 → Int32 → hm_T → Option hm_T} {k50 : Nat → Nat → Int32 → Int32 → Int32 → Int32 → hm_T → Option hm_T} (C : hm_C E prog_2_method_3_code 7 "DistanceLabels$Contraction" 3 74 n0 s0 (hm_n h') (hm_s h') p R s m args c) (hr : meth.sig.returnType = none) (hlk : meth.locks = false) (hk38 : ∀ (y0 : Nat) (y1 : Nat) (y2 : Int32) (y3 : Int32) (y4 : Int32) (g : hm_T), k38 y0 y1 y2 y3 y4 g = some h' → hm_G E 7 n0 s0 (hm_n h') (hm_s h') p l e R s m args below meth c (MQ below (hm_Qc E none h') args s (hm_n h' - n0) (hm_s h' - s0) (fun q => E.2.2 ≤ q)) 38 [(0, .ref y0), (1, .ref y1), (2, .int y2), (3, .int y3), (4, .int y4)] [] g) (hk50 : ∀ (y0 : Nat) (y1 : Nat) (y2 : Int32) (y3 : Int32) (y4 : Int32) (y5 : Int32) (g : hm_T), k50 y0 y1 y2 y3 y4 y5 g = some h' → hm_G E 7 n0 s0 (hm_n h') (hm_s h') p l e R s m args below meth c (MQ below (hm_Qc E none h') args s (hm_n h' - n0) (hm_s h' - s0) (fun q => E.2.2 ≤ q)) 50 [(0, .ref y0), (1, .ref y1), (2, .int y2), (3, .int y3), (4, .int y4), (5, .int y5)] [] g) (hf : g_K_letGo_50 F k38 k50 x0 x1 x2 x3 x4 x5 h = some h') : hm_G E 7 n0 s0 (hm_n h') (hm_s h') p l e R s m args below meth c (MQ below (hm_Qc E none h') args s (hm_n h' - n0) (hm_s h' - s0) (fun q => E.2.2 ≤ q)) 50 [(0, .ref x0), (1, .ref x1), (2, .int x2), (3, .int x3), (4, .int x4), (5, .int x5)] [] h := by
  unfold g_K_letGo_50 at hf
  refine hm_iload C d_K_letGo_50 5 rfl ?_
  refine hm_aload_n C d_K_letGo_52 rfl 1 rfl ?_
  obtain ⟨v1, ev1, hf⟩ := hm_bind hf
  refine hm_getIN C F_2 0 (by decide) rfl kF_3 d_K_letGo_53 ev1 ?_
  refine hm_icmp_ge (tgt := 146) C d_K_letGo_56 (by decide) (fun z2 => ?_) (fun z2 => ?_)
  · have hf := hm_ifp hf z2
    refine hm_sub (lv' := [(0, .ref x0), (1, .ref x1), (2, .int x2), (3, .int x3), (4, .int x4)]) [0, 1, 2, 3, 4] rfl ?_
    exact w_f_K_letGo_146 C hr hlk hk38 hf
  · have hf := hm_ifn hf z2
    refine hm_iload C d_K_letGo_59 4 rfl ?_
    refine hm_iload C d_K_letGo_61 5 rfl ?_
    refine hm_icmp_eq (tgt := 140) C d_K_letGo_63 (by decide) (fun z3 => ?_) (fun z3 => ?_)
    · have hf := hm_ifp hf z3
      exact w_f_K_letGo_140 C hr hlk hk50 hf
    · have hf := hm_ifn hf z3
      refine hm_aload_n C d_K_letGo_66 rfl 1 rfl ?_
      obtain ⟨a4, ea4, hf⟩ := hm_bind hf
      refine hm_getRN C F_2 4 (by decide) rfl kF_4 d_K_letGo_67 ea4 ?_
      refine hm_iload C d_K_letGo_70 4 rfl ?_
      obtain ⟨v5, ev5, hf⟩ := hm_bind hf
      refine hm_iaload C d_K_letGo_72 ev5 ?_
      refine hm_iload_n C d_K_letGo_73 rfl 2 rfl ?_
      refine hm_icmp_ge (tgt := 140) C d_K_letGo_74 (by decide) (fun z6 => ?_) (fun z6 => ?_)
      · have hf := hm_ifp hf z6
        exact w_f_K_letGo_140 C hr hlk hk50 hf
      · have hf := hm_ifn hf z6
        refine hm_aload_n C d_K_letGo_77 rfl 1 rfl ?_
        obtain ⟨a7, ea7, hf⟩ := hm_bind hf
        refine hm_getRN C F_2 4 (by decide) rfl kF_4 d_K_letGo_78 ea7 ?_
        refine hm_iload C d_K_letGo_81 5 rfl ?_
        obtain ⟨v8, ev8, hf⟩ := hm_bind hf
        refine hm_iaload C d_K_letGo_83 ev8 ?_
        refine hm_iload_n C d_K_letGo_84 rfl 2 rfl ?_
        refine hm_icmp_ge (tgt := 140) C d_K_letGo_85 (by decide) (fun z9 => ?_) (fun z9 => ?_)
        · have hf := hm_ifp hf z9
          exact w_f_K_letGo_140 C hr hlk hk50 hf
        · have hf := hm_ifn hf z9
          refine hm_aload_n C d_K_letGo_88 rfl 0 rfl ?_
          obtain ⟨a10, ea10, hf⟩ := hm_bind hf
          refine hm_getR C F_0 0 (by decide) rfl k_14 d_K_letGo_89 ea10 ?_
          refine hm_iload C d_K_letGo_92 4 rfl ?_
          obtain ⟨a11, ea11, hf⟩ := hm_bind hf
          refine hm_aaload C d_K_letGo_94 ea11 ?_
          refine hm_iload_n C d_K_letGo_95 rfl 3 rfl ?_
          obtain ⟨v12, ev12, hf⟩ := hm_bind hf
          refine hm_iaload C d_K_letGo_96 ev12 ?_
          refine hm_aload_n C d_K_letGo_97 rfl 0 rfl ?_
          obtain ⟨a13, ea13, hf⟩ := hm_bind hf
          refine hm_getR C F_0 0 (by decide) rfl k_14 d_K_letGo_98 ea13 ?_
          refine hm_iload_n C d_K_letGo_101 rfl 3 rfl ?_
          obtain ⟨a14, ea14, hf⟩ := hm_bind hf
          refine hm_aaload C d_K_letGo_102 ea14 ?_
          refine hm_iload C d_K_letGo_103 5 rfl ?_
          obtain ⟨v15, ev15, hf⟩ := hm_bind hf
          refine hm_iaload C d_K_letGo_105 ev15 ?_
          obtain ⟨v16, h16, eh16, hf⟩ := hm_and_of hf
          refine hm_callSN (vs := [.int v12, .int v15]) (st := []) (sb := [.int v16]) C (c_D_sum eh16) Y_D_sum k_69 kM_13 (by decide) (by decide) rfl (Nat.le_of_ble_eq_true rfl) d_K_letGo_106 rfl rfl ?_
          refine hm_istore (lv' := [(6, .int v16), (0, .ref x0), (1, .ref x1), (2, .int x2), (3, .int x3), (4, .int x4), (5, .int x5)]) C d_K_letGo_109 (by decide) rfl ?_
          refine hm_iload C d_K_letGo_111 0 rfl ?_
          refine hm_aload_n C d_K_letGo_113 rfl 1 rfl ?_
          obtain ⟨a17, ea17, hf⟩ := hm_bind hf
          refine hm_getR C F_0 1 (by decide) rfl k_15 d_K_letGo_114 ea17 ?_
          refine hm_iload C d_K_letGo_117 5 rfl ?_
          obtain ⟨a18, ea18, hf⟩ := hm_bind hf
          refine hm_aaload C d_K_letGo_119 ea18 ?_
          refine hm_iload C d_K_letGo_120 6 rfl ?_
          obtain ⟨v19, ev19, hf⟩ := hm_bind hf
          refine hm_iaload C d_K_letGo_122 ev19 ?_
          obtain ⟨v20, h20, eh20, hf⟩ := hm_and_of hf
          refine hm_callSN (vs := [.int v16, .int v19]) (st := []) (sb := [.int v20]) C (c_D_isLess eh20) Y_D_isLess k_61 kM_14 (by decide) (by decide) rfl (Nat.le_of_ble_eq_true rfl) d_K_letGo_123 rfl rfl ?_
          refine hm_if_eq (tgt := 140) C d_K_letGo_126 (by decide) (fun z21 => ?_) (fun z21 => ?_)
          · have hf := hm_ifp hf z21
            refine hm_sub (lv' := [(0, .ref x0), (1, .ref x1), (2, .int x2), (3, .int x3), (4, .int x4), (5, .int x5)]) [1, 2, 3, 4, 5, 6] rfl ?_
            exact w_f_K_letGo_140 C hr hlk hk50 hf
          · have hf := hm_ifn hf z21
            refine hm_aload_n C d_K_letGo_129 rfl 1 rfl ?_
            refine hm_iload C d_K_letGo_130 5 rfl ?_
            refine hm_iload C d_K_letGo_132 6 rfl ?_
            refine hm_iload C d_K_letGo_134 0 rfl ?_
            refine hm_iload_n C d_K_letGo_136 rfl 4 rfl ?_
            obtain ⟨u22, eu22, hf⟩ := hm_bind hf
            obtain ⟨h23, eh23, hf⟩ := hm_bind hf
            refine hm_callV (vs := [.int x4, .int x5, .int v16, .int x3]) (st := []) (sb := []) C (c_K_bring eh23) Y_K_bring F_0 eu22 k_76 k_77 k_75 (by decide) (by decide) rfl (Nat.le_of_ble_eq_true rfl) d_K_letGo_137 rfl rfl ?_
            refine hm_sub (lv' := [(0, .ref x0), (1, .ref x1), (2, .int x2), (3, .int x3), (4, .int x4), (5, .int x5)]) [1, 2, 3, 4, 5, 6] rfl ?_
            exact w_f_K_letGo_140 C hr hlk hk50 hf
theorem w_K_letGo_50L {p : Program} {l : Launch} {e : Env} {R : Room} {s : State} {m : MethodId} {args : Array Value} {below : List Frame} {meth : Method} {c : Code} {E : hm_E} {n0 s0 F : Nat} {h' : hm_T} {k38 : Nat → Nat → Int32 → Int32 → Int32 → hm_T → Option hm_T} (C : hm_C E prog_2_method_3_code 7 "DistanceLabels$Contraction" 3 74 n0 s0 (hm_n h') (hm_s h') p R s m args c) (hr : meth.sig.returnType = none) (hlk : meth.locks = false) (hk38 : ∀ (y0 : Nat) (y1 : Nat) (y2 : Int32) (y3 : Int32) (y4 : Int32) (g : hm_T), k38 y0 y1 y2 y3 y4 g = some h' → hm_G E 7 n0 s0 (hm_n h') (hm_s h') p l e R s m args below meth c (MQ below (hm_Qc E none h') args s (hm_n h' - n0) (hm_s h' - s0) (fun q => E.2.2 ≤ q)) 38 [(0, .ref y0), (1, .ref y1), (2, .int y2), (3, .int y3), (4, .int y4)] [] g) : ∀ (N : Nat) (x0 : Nat) (x1 : Nat) (x2 : Int32) (x3 : Int32) (x4 : Int32) (x5 : Int32) (h : hm_T), f_K_letGo_50 F k38 N x0 x1 x2 x3 x4 x5 h = some h' → hm_G E 7 n0 s0 (hm_n h') (hm_s h') p l e R s m args below meth c (MQ below (hm_Qc E none h') args s (hm_n h' - n0) (hm_s h' - s0) (fun q => E.2.2 ≤ q)) 50 [(0, .ref x0), (1, .ref x1), (2, .int x2), (3, .int x3), (4, .int x4), (5, .int x5)] [] h := by
  intro N
  induction N with
  | zero => intro _ _ _ _ _ _ _ hf; cases hf
  | succ n ih => intro x0 x1 x2 x3 x4 x5 h hf; exact w_g_K_letGo_50 C hr hlk hk38 ih hf
set_option maxRecDepth 20000 in
set_option maxHeartbeats 1000000 in
theorem w_g_K_letGo_38 {p : Program} {l : Launch} {e : Env} {R : Room} {s : State} {m : MethodId} {args : Array Value} {below : List Frame} {meth : Method} {c : Code} {E : hm_E} {n0 s0 F : Nat} {h h' : hm_T} {x0 : Nat} {x1 : Nat} {x2 : Int32} {x3 : Int32} {x4 : Int32} {k38 : Nat → Nat → Int32 → Int32 → Int32 → hm_T → Option hm_T} (C : hm_C E prog_2_method_3_code 7 "DistanceLabels$Contraction" 3 74 n0 s0 (hm_n h') (hm_s h') p R s m args c) (hr : meth.sig.returnType = none) (hlk : meth.locks = false) (hk38 : ∀ (y0 : Nat) (y1 : Nat) (y2 : Int32) (y3 : Int32) (y4 : Int32) (g : hm_T), k38 y0 y1 y2 y3 y4 g = some h' → hm_G E 7 n0 s0 (hm_n h') (hm_s h') p l e R s m args below meth c (MQ below (hm_Qc E none h') args s (hm_n h' - n0) (hm_s h' - s0) (fun q => E.2.2 ≤ q)) 38 [(0, .ref y0), (1, .ref y1), (2, .int y2), (3, .int y3), (4, .int y4)] [] g) (hf : g_K_letGo_38 F k38 x0 x1 x2 x3 x4 h = some h') : hm_G E 7 n0 s0 (hm_n h') (hm_s h') p l e R s m args below meth c (MQ below (hm_Qc E none h') args s (hm_n h' - n0) (hm_s h' - s0) (fun q => E.2.2 ≤ q)) 38 [(0, .ref x0), (1, .ref x1), (2, .int x2), (3, .int x3), (4, .int x4)] [] h := by
  unfold g_K_letGo_38 at hf
  refine hm_iload C d_K_letGo_38 4 rfl ?_
  refine hm_aload_n C d_K_letGo_40 rfl 1 rfl ?_
  obtain ⟨v1, ev1, hf⟩ := hm_bind hf
  refine hm_getIN C F_2 0 (by decide) rfl kF_3 d_K_letGo_41 ev1 ?_
  refine hm_icmp_ge (tgt := 152) C d_K_letGo_44 (by decide) (fun z2 => ?_) (fun z2 => ?_)
  · have hf := hm_ifp hf z2
    exact hm_vret C hr hlk d_K_letGo_152 hf
  · have hf := hm_ifn hf z2
    refine hm_iconst (v := (0 : Int32)) C d_K_letGo_47 (by decide) ?_
    refine hm_istore (lv' := [(5, .int (0 : Int32)), (0, .ref x0), (1, .ref x1), (2, .int x2), (3, .int x3), (4, .int x4)]) C d_K_letGo_48 (by decide) rfl ?_
    refine hm_sub (lv' := [(0, .ref x0), (1, .ref x1), (2, .int x2), (3, .int x3), (4, .int x4), (5, .int (0 : Int32))]) [1, 2, 3, 4, 5, 0] rfl ?_
    exact w_K_letGo_50L C hr hlk hk38 _ _ _ _ _ _ _ _ hf
theorem w_K_letGo_38L {p : Program} {l : Launch} {e : Env} {R : Room} {s : State} {m : MethodId} {args : Array Value} {below : List Frame} {meth : Method} {c : Code} {E : hm_E} {n0 s0 F : Nat} {h' : hm_T} (C : hm_C E prog_2_method_3_code 7 "DistanceLabels$Contraction" 3 74 n0 s0 (hm_n h') (hm_s h') p R s m args c) (hr : meth.sig.returnType = none) (hlk : meth.locks = false) : ∀ (N : Nat) (x0 : Nat) (x1 : Nat) (x2 : Int32) (x3 : Int32) (x4 : Int32) (h : hm_T), f_K_letGo_38 F N x0 x1 x2 x3 x4 h = some h' → hm_G E 7 n0 s0 (hm_n h') (hm_s h') p l e R s m args below meth c (MQ below (hm_Qc E none h') args s (hm_n h' - n0) (hm_s h' - s0) (fun q => E.2.2 ≤ q)) 38 [(0, .ref x0), (1, .ref x1), (2, .int x2), (3, .int x3), (4, .int x4)] [] h := by
  intro N
  induction N with
  | zero => intro _ _ _ _ _ _ hf; cases hf
  | succ n ih => intro x0 x1 x2 x3 x4 h hf; exact w_g_K_letGo_38 C hr hlk ih hf
set_option maxRecDepth 20000 in
set_option maxHeartbeats 1000000 in
theorem w_f_K_letGo {p : Program} {l : Launch} {e : Env} {R : Room} {s : State} {m : MethodId} {args : Array Value} {below : List Frame} {meth : Method} {c : Code} {E : hm_E} {n0 s0 F : Nat} {h h' : hm_T} {x0 : Nat} {x1 : Nat} {x2 : Int32} (C : hm_C E prog_2_method_3_code 7 "DistanceLabels$Contraction" 3 74 n0 s0 (hm_n h') (hm_s h') p R s m args c) (hr : meth.sig.returnType = none) (hlk : meth.locks = false) (hf : f_K_letGo F x0 x1 x2 h = some h') : hm_G E 7 n0 s0 (hm_n h') (hm_s h') p l e R s m args below meth c (MQ below (hm_Qc E none h') args s (hm_n h' - n0) (hm_s h' - s0) (fun q => E.2.2 ≤ q)) 0 [(0, .ref x0), (1, .ref x1), (2, .int x2)] [] h := by
  unfold f_K_letGo at hf
  refine hm_aload_n C d_K_letGo_0 rfl 1 rfl ?_
  obtain ⟨a1, ea1, hf⟩ := hm_bind hf
  refine hm_getRN C F_2 3 (by decide) rfl kF_5 d_K_letGo_1 ea1 ?_
  refine hm_iload_n C d_K_letGo_4 rfl 2 rfl ?_
  refine hm_aload_n C d_K_letGo_5 rfl 0 rfl ?_
  obtain ⟨a2, ea2, hf⟩ := hm_bind hf
  refine hm_getR C F_0 0 (by decide) rfl k_14 d_K_letGo_6 ea2 ?_
  refine hm_aload_n C d_K_letGo_9 rfl 0 rfl ?_
  obtain ⟨a3, ea3, hf⟩ := hm_bind hf
  refine hm_getR C F_0 1 (by decide) rfl k_15 d_K_letGo_10 ea3 ?_
  obtain ⟨h4, eh4, hf⟩ := hm_bind hf
  refine hm_callSN (vs := [.ref a1, .int x2, .ref a2, .ref a3]) (st := []) (sb := []) C (c_D_copyAmong eh4) Y_D_copyAmong k_67 kM_15 (by decide) (by decide) rfl (Nat.le_of_ble_eq_true rfl) d_K_letGo_13 rfl rfl ?_
  refine hm_aload_n C d_K_letGo_16 rfl 1 rfl ?_
  obtain ⟨a5, ea5, hf⟩ := hm_bind hf
  refine hm_getRN C F_2 3 (by decide) rfl kF_5 d_K_letGo_17 ea5 ?_
  refine hm_iload_n C d_K_letGo_20 rfl 2 rfl ?_
  refine hm_aload_n C d_K_letGo_21 rfl 0 rfl ?_
  obtain ⟨a6, ea6, hf⟩ := hm_bind hf
  refine hm_getR C F_0 1 (by decide) rfl k_15 d_K_letGo_22 ea6 ?_
  obtain ⟨h7, eh7, hf⟩ := hm_bind hf
  refine hm_callSN (vs := [.ref a5, .int x2, .ref a6]) (st := []) (sb := []) C (c_D_shortenAmong eh7) Y_D_shortenAmong k_65 kM_16 (by decide) (by decide) rfl (Nat.le_of_ble_eq_true rfl) d_K_letGo_25 rfl rfl ?_
  refine hm_aload_n C d_K_letGo_28 rfl 1 rfl ?_
  obtain ⟨a8, ea8, hf⟩ := hm_bind hf
  refine hm_getRN C F_2 3 (by decide) rfl kF_5 d_K_letGo_29 ea8 ?_
  refine hm_iload_n C d_K_letGo_32 rfl 2 rfl ?_
  obtain ⟨v9, ev9, hf⟩ := hm_bind hf
  refine hm_iaload C d_K_letGo_33 ev9 ?_
  refine hm_istore_n (lv' := [(3, .int v9), (0, .ref x0), (1, .ref x1), (2, .int x2)]) C d_K_letGo_34 rfl (by decide) rfl ?_
  refine hm_iconst (v := (0 : Int32)) C d_K_letGo_35 (by decide) ?_
  refine hm_istore (lv' := [(4, .int (0 : Int32)), (3, .int v9), (0, .ref x0), (1, .ref x1), (2, .int x2)]) C d_K_letGo_36 (by decide) rfl ?_
  refine hm_sub (lv' := [(0, .ref x0), (1, .ref x1), (2, .int x2), (3, .int v9), (4, .int (0 : Int32))]) [2, 3, 4, 1, 0] rfl ?_
  exact w_K_letGo_38L C hr hlk _ _ _ _ _ _ _ hf
set_option maxRecDepth 20000 in
theorem c_K_letGo {E : hm_E} {l : Launch} {F : Nat} {h h' : hm_T} {x0 : Nat} {x1 : Nat} {x2 : Int32} (hf : f_K_letGo F x0 x1 x2 h = some h') : hm_M E l y_K_letGo prog_2_method_3_code 7 none 3 74 [.ref x0, .ref x1, .int x2] h none h' :=
  hm_enter (by decide +kernel) (Nat.le_of_ble_eq_true rfl) (m_f_K_letGo hf) (fun p e R s m below meth c C hr hlk hin => w_f_K_letGo C hr hlk hf)
