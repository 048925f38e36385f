def f_D_most_69 (F : Nat) (k19 : Nat → Int32 → Int32 → Int32 → Int32 → hm_T → Option (Int32 × hm_T)) (x0 : Nat) (x1 : Int32) (x2 : Int32) (x4 : Int32) (x5 : Int32) (h : hm_T) : Option (Int32 × hm_T) :=
  k19 x0 x1 x2 x4 (x5 + (1 : Int32)) h
def g_D_most_19 (F : Nat) (k19 : Nat → Int32 → Int32 → Int32 → Int32 → hm_T → Option (Int32 × hm_T)) (x0 : Nat) (x1 : Int32) (x2 : Int32) (x4 : Int32) (x5 : Int32) (h : hm_T) : Option (Int32 × hm_T) :=
  (hm_gr 3 9 0 h x0).bind (fun a1 => (hm_gi 2 5 0 h a1).bind (fun v2 => (if v2 ≤ x5 then some (x4, h) else (hm_gr 3 9 5 h x0).bind (fun a4 => (hm_zld h a4 x5).bind (fun v5 => (if v5 = 0 then f_D_most_69 F k19 x0 x1 x2 x4 x5 h else (hm_gr 3 9 1 h x0).bind (fun a7 => (hm_ald h a7 x1).bind (fun a8 => (hm_ild h a8 x5).bind (fun v9 => (hm_gr 3 9 1 h x0).bind (fun a10 => (hm_ald h a10 x5).bind (fun a11 => (hm_ild h a11 x2).bind (fun v12 => hm_and (f_D_sum F v9 v12 h) (fun v13 h13 => hm_and (f_D_lesser F x4 v13 h13) (fun v14 h14 => f_D_most_69 F k19 x0 x1 x2 v14 x5 h14))))))))))))))
def f_D_most_19 (F : Nat) : Nat → Nat → Int32 → Int32 → Int32 → Int32 → hm_T → Option (Int32 × hm_T)
  | 0 => fun _ _ _ _ _ _ => none
  | n + 1 => g_D_most_19 F (f_D_most_19 F n)
def f_D_most (F : Nat) (x0 : Nat) (x1 : Int32) (x2 : Int32) (h : hm_T) : Option (Int32 × hm_T) :=
  (hm_is 3 9 h x0).bind (fun u1 => hm_and (f_D_refusalOf F x0 x1 x2 h) (fun v2 h2 => (if v2 = 0 then f_D_most_19 F F x0 x1 x2 (-1 : Int32) (0 : Int32) h2 else some (v2, h2))))
theorem m_f_D_most_69 {F : Nat} {r : Int32} {h h' : hm_T} {x0 : Nat} {x1 : Int32} {x2 : Int32} {x4 : Int32} {x5 : Int32} {k19 : Nat → Int32 → Int32 → Int32 → Int32 → hm_T → Option (Int32 × hm_T)} (hk19 : ∀ (y0 : Nat) (y1 : Int32) (y2 : Int32) (y4 : Int32) (y5 : Int32) (g : hm_T), k19 y0 y1 y2 y4 y5 g = some (r, h') → hm_le g h') (hf : f_D_most_69 F k19 x0 x1 x2 x4 x5 h = some (r, h')) : hm_le h h' := by
  unfold f_D_most_69 at hf
  exact (hk19 _ _ _ _ _ _ hf)
theorem m_g_D_most_19 {F : Nat} {r : Int32} {h h' : hm_T} {x0 : Nat} {x1 : Int32} {x2 : Int32} {x4 : Int32} {x5 : Int32} {k19 : Nat → Int32 → Int32 → Int32 → Int32 → hm_T → Option (Int32 × hm_T)} (hk19 : ∀ (y0 : Nat) (y1 : Int32) (y2 : Int32) (y4 : Int32) (y5 : Int32) (g : hm_T), k19 y0 y1 y2 y4 y5 g = some (r, h') → hm_le g h') (hf : g_D_most_19 F k19 x0 x1 x2 x4 x5 h = some (r, h')) : hm_le h h' := by
  unfold g_D_most_19 at hf
  obtain ⟨a1, ea1, hf⟩ := hm_bind hf
  obtain ⟨v2, ev2, hf⟩ := hm_bind hf
  by_cases z3 : v2 ≤ x5
  · have hf := hm_ifp hf z3
    exact (hm_le.ret hf)
  · have hf := hm_ifn hf z3
    obtain ⟨a4, ea4, hf⟩ := hm_bind hf
    obtain ⟨v5, ev5, hf⟩ := hm_bind hf
    by_cases z6 : v5 = 0
    · have hf := hm_ifp hf z6
      exact (m_f_D_most_69 hk19 hf)
    · have hf := hm_ifn hf z6
      obtain ⟨a7, ea7, hf⟩ := hm_bind hf
      obtain ⟨a8, ea8, hf⟩ := hm_bind hf
      obtain ⟨v9, ev9, hf⟩ := hm_bind hf
      obtain ⟨a10, ea10, hf⟩ := hm_bind hf
      obtain ⟨a11, ea11, hf⟩ := hm_bind hf
      obtain ⟨v12, ev12, hf⟩ := hm_bind hf
      obtain ⟨v13, h13, eh13, hf⟩ := hm_and_of hf
      have mh13 := m_f_D_sum eh13
      obtain ⟨v14, h14, eh14, hf⟩ := hm_and_of hf
      have mh14 := m_f_D_lesser eh14
      exact mh13.tr (mh14.tr ((m_f_D_most_69 hk19 hf)))
theorem m_D_most_19L {F : Nat} {r : Int32} {h' : hm_T} : ∀ (N : Nat) (x0 : Nat) (x1 : Int32) (x2 : Int32) (x4 : Int32) (x5 : Int32) (h : hm_T), f_D_most_19 F N x0 x1 x2 x4 x5 h = some (r, h') → hm_le h h' := by
  intro N
  induction N with
  | zero => intro _ _ _ _ _ _ hf; cases hf
  | succ n ih => intro x0 x1 x2 x4 x5 h hf; exact m_g_D_most_19 ih hf
theorem m_f_D_most {F : Nat} {r : Int32} {h h' : hm_T} {x0 : Nat} {x1 : Int32} {x2 : Int32} (hf : f_D_most F x0 x1 x2 h = some (r, h')) : hm_le h h' := by
  unfold f_D_most at hf
  obtain ⟨u1, eu1, hf⟩ := hm_bind hf
  obtain ⟨v2, h2, eh2, hf⟩ := hm_and_of hf
  have mh2 := m_f_D_refusalOf eh2
  by_cases z3 : v2 = 0
  · have hf := hm_ifp hf z3
    exact mh2.tr ((m_D_most_19L _ _ _ _ _ _ _ hf))
  · have hf := hm_ifn hf z3
    exact mh2.tr ((hm_le.ret hf))
set_option maxRecDepth 20000 in
set_option maxHeartbeats 1000000 in
theorem w_f_D_most_69 {p : Program} {l : Launch} {e : Env} {R : Room} {s : State} {m : MethodId} {args : Array Value} {below : List Frame} {meth : Method} {c : Code} {E : hm_E} {n0 s0 F : Nat} {r : Int32} {h h' : hm_T} {x0 : Nat} {x1 : Int32} {x2 : Int32} {x4 : Int32} {x5 : Int32} {k19 : Nat → Int32 → Int32 → Int32 → Int32 → hm_T → Option (Int32 × hm_T)} (C : hm_C E prog_1_method_19_code 6 "DistanceLabels" 2 43 n0 s0 (hm_n h') (hm_s h') p R s m args c) (hr : meth.sig.returnType = (some .int)) (hlk : meth.locks = false) (hk19 : ∀ (y0 : Nat) (y1 : Int32) (y2 : Int32) (y4 : Int32) (y5 : Int32) (g : hm_T), k19 y0 y1 y2 y4 y5 g = some (r, h') → hm_G E 6 n0 s0 (hm_n h') (hm_s h') p l e R s m args below meth c (MQ below (hm_Qc E (some (.int r)) h') args s (hm_n h' - n0) (hm_s h' - s0) (fun q => E.2.2 ≤ q)) 19 [(0, .ref y0), (1, .int y1), (2, .int y2), (4, .int y4), (5, .int y5)] [] g) (hf : f_D_most_69 F k19 x0 x1 x2 x4 x5 h = some (r, h')) : hm_G E 6 n0 s0 (hm_n h') (hm_s h') p l e R s m args below meth c (MQ below (hm_Qc E (some (.int r)) h') args s (hm_n h' - n0) (hm_s h' - s0) (fun q => E.2.2 ≤ q)) 69 [(0, .ref x0), (1, .int x1), (2, .int x2), (4, .int x4), (5, .int x5)] [] h := by
  unfold f_D_most_69 at hf
  refine hm_iinc (v := (x5 + (1 : Int32))) (lv' := [(5, .int (x5 + (1 : Int32))), (0, .ref x0), (1, .int x1), (2, .int x2), (4, .int x4)]) C d_D_most_69 4 rfl rfl (by decide) rfl ?_
  refine hm_goto (tgt := 19) C d_D_most_72 (by decide) ?_
  refine hm_sub (lv' := [(0, .ref x0), (1, .int x1), (2, .int x2), (4, .int x4), (5, .int (x5 + (1 : Int32)))]) [1, 2, 3, 4, 0] rfl ?_
  exact hk19 _ _ _ _ _ _ hf
set_option maxRecDepth 20000 in
set_option maxHeartbeats 1000000 in
theorem w_g_D_most_19 {p : Program} {l : Launch} {e : Env} {R : Room} {s : State} {m : MethodId} {args : Array Value} {below : List Frame} {meth : Method} {c : Code} {E : hm_E} {n0 s0 F : Nat} {r : Int32} {h h' : hm_T} {x0 : Nat} {x1 : Int32} {x2 : Int32} {x4 : Int32} {x5 : Int32} {k19 : Nat → Int32 → Int32 → Int32 → Int32 → hm_T → Option (Int32 × hm_T)} (C : hm_C E prog_1_method_19_code 6 "DistanceLabels" 2 43 n0 s0 (hm_n h') (hm_s h') p R s m args c) (hr : meth.sig.returnType = (some .int)) (hlk : meth.locks = false) (hk19 : ∀ (y0 : Nat) (y1 : Int32) (y2 : Int32) (y4 : Int32) (y5 : Int32) (g : hm_T), k19 y0 y1 y2 y4 y5 g = some (r, h') → hm_G E 6 n0 s0 (hm_n h') (hm_s h') p l e R s m args below meth c (MQ below (hm_Qc E (some (.int r)) h') args s (hm_n h' - n0) (hm_s h' - s0) (fun q => E.2.2 ≤ q)) 19 [(0, .ref y0), (1, .int y1), (2, .int y2), (4, .int y4), (5, .int y5)] [] g) (hf : g_D_most_19 F k19 x0 x1 x2 x4 x5 h = some (r, h')) : hm_G E 6 n0 s0 (hm_n h') (hm_s h') p l e R s m args below meth c (MQ below (hm_Qc E (some (.int r)) h') args s (hm_n h' - n0) (hm_s h' - s0) (fun q => E.2.2 ≤ q)) 19 [(0, .ref x0), (1, .int x1), (2, .int x2), (4, .int x4), (5, .int x5)] [] h := by
  unfold g_D_most_19 at hf
  refine hm_iload C d_D_most_19 4 rfl ?_
  refine hm_aload_n C d_D_most_21 rfl 0 rfl ?_
  obtain ⟨a1, ea1, hf⟩ := hm_bind hf
  refine hm_getR C F_3 0 (by decide) rfl k_26 d_D_most_22 ea1 ?_
  obtain ⟨v2, ev2, hf⟩ := hm_bind hf
  refine hm_getIN C F_2 0 (by decide) rfl kF_0 d_D_most_25 ev2 ?_
  refine hm_icmp_ge (tgt := 75) C d_D_most_28 (by decide) (fun z3 => ?_) (fun z3 => ?_)
  · have hf := hm_ifp hf z3
    refine hm_iload C d_D_most_75 3 rfl ?_
    exact hm_iret C hr hlk d_D_most_77 hf
  · have hf := hm_ifn hf z3
    refine hm_aload_n C d_D_most_31 rfl 0 rfl ?_
    obtain ⟨a4, ea4, hf⟩ := hm_bind hf
    refine hm_getR C F_3 5 (by decide) rfl k_40 d_D_most_32 ea4 ?_
    refine hm_iload C d_D_most_35 4 rfl ?_
    obtain ⟨v5, ev5, hf⟩ := hm_bind hf
    refine hm_baload C d_D_most_37 ev5 ?_
    refine hm_if_eq (tgt := 69) C d_D_most_38 (by decide) (fun z6 => ?_) (fun z6 => ?_)
    · have hf := hm_ifp hf z6
      exact w_f_D_most_69 C hr hlk hk19 hf
    · have hf := hm_ifn hf z6
      refine hm_iload C d_D_most_41 3 rfl ?_
      refine hm_aload_n C d_D_most_43 rfl 0 rfl ?_
      obtain ⟨a7, ea7, hf⟩ := hm_bind hf
      refine hm_getR C F_3 1 (by decide) rfl k_28 d_D_most_44 ea7 ?_
      refine hm_iload_n C d_D_most_47 rfl 1 rfl ?_
      obtain ⟨a8, ea8, hf⟩ := hm_bind hf
      refine hm_aaload C d_D_most_48 ea8 ?_
      refine hm_iload C d_D_most_49 4 rfl ?_
      obtain ⟨v9, ev9, hf⟩ := hm_bind hf
      refine hm_iaload C d_D_most_51 ev9 ?_
      refine hm_aload_n C d_D_most_52 rfl 0 rfl ?_
      obtain ⟨a10, ea10, hf⟩ := hm_bind hf
      refine hm_getR C F_3 1 (by decide) rfl k_28 d_D_most_53 ea10 ?_
      refine hm_iload C d_D_most_56 4 rfl ?_
      obtain ⟨a11, ea11, hf⟩ := hm_bind hf
      refine hm_aaload C d_D_most_58 ea11 ?_
      refine hm_iload_n C d_D_most_59 rfl 2 rfl ?_
      obtain ⟨v12, ev12, hf⟩ := hm_bind hf
      refine hm_iaload C d_D_most_60 ev12 ?_
      obtain ⟨v13, h13, eh13, hf⟩ := hm_and_of hf
      refine hm_callS (vs := [.int v9, .int v12]) (st := [.int x4]) (sb := [.int v13, .int x4]) C (c_D_sum eh13) Y_D_sum k_69 k_68 (by decide) (by decide) rfl (Nat.le_of_ble_eq_true rfl) d_D_most_61 rfl rfl ?_
      obtain ⟨v14, h14, eh14, hf⟩ := hm_and_of hf
      refine hm_callS (vs := [.int x4, .int v13]) (st := []) (sb := [.int v14]) C (c_D_lesser eh14) Y_D_lesser k_114 k_137 (by decide) (by decide) rfl (Nat.le_of_ble_eq_true rfl) d_D_most_64 rfl rfl ?_
      refine hm_istore (lv' := [(4, .int v14), (0, .ref x0), (1, .int x1), (2, .int x2), (5, .int x5)]) C d_D_most_67 (by decide) rfl ?_
      refine hm_sub (lv' := [(0, .ref x0), (1, .int x1), (2, .int x2), (4, .int v14), (5, .int x5)]) [1, 2, 3, 0, 4] rfl ?_
      exact w_f_D_most_69 C hr hlk hk19 hf
theorem w_D_most_19L {p : Program} {l : Launch} {e : Env} {R : Room} {s : State} {m : MethodId} {args : Array Value} {below : List Frame} {meth : Method} {c : Code} {E : hm_E} {n0 s0 F : Nat} {r : Int32} {h' : hm_T} (C : hm_C E prog_1_method_19_code 6 "DistanceLabels" 2 43 n0 s0 (hm_n h') (hm_s h') p R s m args c) (hr : meth.sig.returnType = (some .int)) (hlk : meth.locks = false) : ∀ (N : Nat) (x0 : Nat) (x1 : Int32) (x2 : Int32) (x4 : Int32) (x5 : Int32) (h : hm_T), f_D_most_19 F N x0 x1 x2 x4 x5 h = some (r, h') → hm_G E 6 n0 s0 (hm_n h') (hm_s h') p l e R s m args below meth c (MQ below (hm_Qc E (some (.int r)) h') args s (hm_n h' - n0) (hm_s h' - s0) (fun q => E.2.2 ≤ q)) 19 [(0, .ref x0), (1, .int x1), (2, .int x2), (4, .int x4), (5, .int x5)] [] h := by
  intro N
  induction N with
  | zero => intro _ _ _ _ _ _ hf; cases hf
  | succ n ih => intro x0 x1 x2 x4 x5 h hf; exact w_g_D_most_19 C hr hlk ih hf
set_option maxRecDepth 20000 in
set_option maxHeartbeats 1000000 in
theorem w_f_D_most {p : Program} {l : Launch} {e : Env} {R : Room} {s : State} {m : MethodId} {args : Array Value} {below : List Frame} {meth : Method} {c : Code} {E : hm_E} {n0 s0 F : Nat} {r : Int32} {h h' : hm_T} {x0 : Nat} {x1 : Int32} {x2 : Int32} (C : hm_C E prog_1_method_19_code 6 "DistanceLabels" 2 43 n0 s0 (hm_n h') (hm_s h') p R s m args c) (hr : meth.sig.returnType = (some .int)) (hlk : meth.locks = false) (hf : f_D_most F x0 x1 x2 h = some (r, h')) : hm_G E 6 n0 s0 (hm_n h') (hm_s h') p l e R s m args below meth c (MQ below (hm_Qc E (some (.int r)) h') args s (hm_n h' - n0) (hm_s h' - s0) (fun q => E.2.2 ≤ q)) 0 [(0, .ref x0), (1, .int x1), (2, .int x2)] [] h := by
  unfold f_D_most at hf
  refine hm_aload_n C d_D_most_0 rfl 0 rfl ?_
  refine hm_iload_n C d_D_most_1 rfl 1 rfl ?_
  refine hm_iload_n C d_D_most_2 rfl 2 rfl ?_
  obtain ⟨u1, eu1, hf⟩ := hm_bind hf
  obtain ⟨v2, h2, eh2, hf⟩ := hm_and_of hf
  refine hm_callV (vs := [.int x1, .int x2]) (st := []) (sb := [.int v2]) C (c_D_refusalOf eh2) Y_D_refusalOf F_3 eu1 k_102 k_103 k_101 (by decide) (by decide) rfl (Nat.le_of_ble_eq_true rfl) d_D_most_3 rfl rfl ?_
  refine hm_istore_n (lv' := [(3, .int v2), (0, .ref x0), (1, .int x1), (2, .int x2)]) C d_D_most_6 rfl (by decide) rfl ?_
  refine hm_iload_n C d_D_most_7 rfl 0 rfl ?_
  refine hm_if_eq (tgt := 13) C d_D_most_8 (by decide) (fun z3 => ?_) (fun z3 => ?_)
  · have hf := hm_ifp hf z3
    refine hm_iconst (v := (-1 : Int32)) C d_D_most_13 (by decide) ?_
    refine hm_istore (lv' := [(4, .int (-1 : Int32)), (3, .int v2), (0, .ref x0), (1, .int x1), (2, .int x2)]) C d_D_most_14 (by decide) rfl ?_
    refine hm_iconst (v := (0 : Int32)) C d_D_most_16 (by decide) ?_
    refine hm_istore (lv' := [(5, .int (0 : Int32)), (4, .int (-1 : Int32)), (3, .int v2), (0, .ref x0), (1, .int x1), (2, .int x2)]) C d_D_most_17 (by decide) rfl ?_
    refine hm_sub (lv' := [(0, .ref x0), (1, .int x1), (2, .int x2), (4, .int (-1 : Int32)), (5, .int (0 : Int32))]) [3, 4, 5, 1, 0] rfl ?_
    exact w_D_most_19L C hr hlk _ _ _ _ _ _ _ hf
  · have hf := hm_ifn hf z3
    refine hm_iload_n C d_D_most_11 rfl 0 rfl ?_
    exact hm_iret C hr hlk d_D_most_12 hf
set_option maxRecDepth 20000 in
theorem c_D_most {E : hm_E} {l : Launch} {F : Nat} {r : Int32} {h h' : hm_T} {x0 : Nat} {x1 : Int32} {x2 : Int32} (hf : f_D_most F x0 x1 x2 h = some (r, h')) : hm_M E l y_D_most prog_1_method_19_code 6 (some .int) 2 43 [.ref x0, .int x1, .int x2] h (some (.int r)) h' :=
  hm_enter (by decide +kernel) (Nat.le_of_ble_eq_true rfl) (m_f_D_most hf) (fun p e R s m below meth c C hr hlk hin => w_f_D_most C hr hlk hf)
def f_D_count (F : Nat) (x0 : Nat) (x1 : Int32) (h : hm_T) : Option (Int32 × hm_T) :=
  (if x1 = (0 : Int32) then (hm_gr 3 9 0 h x0).bind (fun a2 => (hm_gi 2 5 0 h a2).bind (fun v3 => some (v3, h))) else (if x1 = (1 : Int32) then (hm_gr 3 9 0 h x0).bind (fun a5 => (hm_gi 2 5 1 h a5).bind (fun v6 => some (v6, h))) else (if x1 = (2 : Int32) then (hm_gi 3 9 6 h x0).bind (fun v8 => some (v8, h)) else (if x1 = (3 : Int32) then (hm_gi 3 9 7 h x0).bind (fun v10 => (if v10 = 0 then some ((0 : Int32), h) else some ((1 : Int32), h))) else some ((-2 : Int32), h)))))
theorem m_f_D_count {F : Nat} {r : Int32} {h h' : hm_T} {x0 : Nat} {x1 : Int32} (hf : f_D_count F x0 x1 h = some (r, h')) : hm_le h h' := by
  unfold f_D_count at hf
  by_cases z1 : x1 = (0 : Int32)
  · have hf := hm_ifp hf z1
    obtain ⟨a2, ea2, hf⟩ := hm_bind hf
    obtain ⟨v3, ev3, hf⟩ := hm_bind hf
    exact (hm_le.ret hf)
  · have hf := hm_ifn hf z1
    by_cases z4 : x1 = (1 : Int32)
    · have hf := hm_ifp hf z4
      obtain ⟨a5, ea5, hf⟩ := hm_bind hf
      obtain ⟨v6, ev6, hf⟩ := hm_bind hf
      exact (hm_le.ret hf)
    · have hf := hm_ifn hf z4
      by_cases z7 : x1 = (2 : Int32)
      · have hf := hm_ifp hf z7
        obtain ⟨v8, ev8, hf⟩ := hm_bind hf
        exact (hm_le.ret hf)
      · have hf := hm_ifn hf z7
        by_cases z9 : x1 = (3 : Int32)
        · have hf := hm_ifp hf z9
          obtain ⟨v10, ev10, hf⟩ := hm_bind hf
          by_cases z11 : v10 = 0
          · have hf := hm_ifp hf z11
            exact (hm_le.ret hf)
          · have hf := hm_ifn hf z11
            exact (hm_le.ret hf)
        · have hf := hm_ifn hf z9
          exact (hm_le.ret hf)
set_option maxRecDepth 20000 in
set_option maxHeartbeats 1000000 in
theorem w_f_D_count {p : Program} {l : Launch} {e : Env} {R : Room} {s : State} {m : MethodId} {args : Array Value} {below : List Frame} {meth : Method} {c : Code} {E : hm_E} {n0 s0 F : Nat} {r : Int32} {h h' : hm_T} {x0 : Nat} {x1 : Int32} (C : hm_C E prog_1_method_20_code 2 "DistanceLabels" 0 0 n0 s0 (hm_n h') (hm_s h') p R s m args c) (hr : meth.sig.returnType = (some .int)) (hlk : meth.locks = false) (hf : f_D_count F x0 x1 h = some (r, h')) : hm_G E 2 n0 s0 (hm_n h') (hm_s h') p l e R s m args below meth c (MQ below (hm_Qc E (some (.int r)) h') args s (hm_n h' - n0) (hm_s h' - s0) (fun q => E.2.2 ≤ q)) 0 [(0, .ref x0), (1, .int x1)] [] h := by
  unfold f_D_count at hf
  refine hm_iload_n C d_D_count_0 rfl 1 rfl ?_
  by_cases z1 : x1 = (0 : Int32)
  · have hf := hm_ifp hf z1
    refine hm_tswIn (tgt := 32) C d_D_count_1 (by rw [z1]; decide) (by rw [z1]; decide) (by rw [z1]; rfl) (by decide) ?_
    refine hm_aload_n C d_D_count_32 rfl 0 rfl ?_
    obtain ⟨a2, ea2, hf⟩ := hm_bind hf
    refine hm_getR C F_3 0 (by decide) rfl k_26 d_D_count_33 ea2 ?_
    obtain ⟨v3, ev3, hf⟩ := hm_bind hf
    refine hm_getIN C F_2 0 (by decide) rfl kF_0 d_D_count_36 ev3 ?_
    exact hm_iret C hr hlk d_D_count_39 hf
  · have hf := hm_ifn hf z1
    by_cases z4 : x1 = (1 : Int32)
    · have hf := hm_ifp hf z4
      refine hm_tswIn (tgt := 40) C d_D_count_1 (by rw [z4]; decide) (by rw [z4]; decide) (by rw [z4]; rfl) (by decide) ?_
      refine hm_aload_n C d_D_count_40 rfl 0 rfl ?_
      obtain ⟨a5, ea5, hf⟩ := hm_bind hf
      refine hm_getR C F_3 0 (by decide) rfl k_26 d_D_count_41 ea5 ?_
      obtain ⟨v6, ev6, hf⟩ := hm_bind hf
      refine hm_getIN C F_2 1 (by decide) rfl kF_12 d_D_count_44 ev6 ?_
      exact hm_iret C hr hlk d_D_count_47 hf
    · have hf := hm_ifn hf z4
      by_cases z7 : x1 = (2 : Int32)
      · have hf := hm_ifp hf z7
        refine hm_tswIn (tgt := 48) C d_D_count_1 (by rw [z7]; decide) (by rw [z7]; decide) (by rw [z7]; rfl) (by decide) ?_
        refine hm_aload_n C d_D_count_48 rfl 0 rfl ?_
        obtain ⟨v8, ev8, hf⟩ := hm_bind hf
        refine hm_getI C F_3 6 (by decide) rfl k_41 d_D_count_49 ev8 ?_
        exact hm_iret C hr hlk d_D_count_52 hf
      · have hf := hm_ifn hf z7
        by_cases z9 : x1 = (3 : Int32)
        · have hf := hm_ifp hf z9
          refine hm_tswIn (tgt := 53) C d_D_count_1 (by rw [z9]; decide) (by rw [z9]; decide) (by rw [z9]; rfl) (by decide) ?_
          refine hm_aload_n C d_D_count_53 rfl 0 rfl ?_
          obtain ⟨v10, ev10, hf⟩ := hm_bind hf
          refine hm_getI C F_3 7 (by decide) rfl k_42 d_D_count_54 ev10 ?_
          refine hm_if_eq (tgt := 64) C d_D_count_57 (by decide) (fun z11 => ?_) (fun z11 => ?_)
          · have hf := hm_ifp hf z11
            refine hm_iconst (v := (0 : Int32)) C d_D_count_64 (by decide) ?_
            exact hm_iret C hr hlk d_D_count_65 hf
          · have hf := hm_ifn hf z11
            refine hm_iconst (v := (1 : Int32)) C d_D_count_60 (by decide) ?_
            refine hm_goto (tgt := 65) C d_D_count_61 (by decide) ?_
            exact hm_iret C hr hlk d_D_count_65 hf
        · have hf := hm_ifn hf z9
          refine hm_tswOut (tgt := 66) C d_D_count_1 (by have qz1 := lv_neT z1 (a := 0) (by decide); have qz4 := lv_neT z4 (a := 1) (by decide); have qz7 := lv_neT z7 (a := 2) (by decide); have qz9 := lv_neT z9 (a := 3) (by decide); omega) (by decide) ?_
          refine hm_bipush (v := (-2 : Int32)) C d_D_count_66 (by decide) ?_
          exact hm_iret C hr hlk d_D_count_68 hf
set_option maxRecDepth 20000 in
theorem c_D_count {E : hm_E} {l : Launch} {F : Nat} {r : Int32} {h h' : hm_T} {x0 : Nat} {x1 : Int32} (hf : f_D_count F x0 x1 h = some (r, h')) : hm_M E l y_D_count prog_1_method_20_code 2 (some .int) 0 0 [.ref x0, .int x1] h (some (.int r)) h' :=
  hm_enter (by decide +kernel) (Nat.le_of_ble_eq_true rfl) (m_f_D_count hf) (fun p e R s m below meth c C hr hlk hin => w_f_D_count C hr hlk hf)
def f_R_in (F : Nat) (x0 : Int32) (x1 : Int32) (x2 : Int32) (h : hm_T) : Option (Int32 × hm_T) :=
  (if x0 < x1 then (hm_zr (0 : Int32)).bind (fun v2 => some (v2, h)) else (if x2 < x0 then (hm_zr (0 : Int32)).bind (fun v4 => some (v4, h)) else (hm_zr (1 : Int32)).bind (fun v5 => some (v5, h))))
theorem m_f_R_in {F : Nat} {r : Int32} {h h' : hm_T} {x0 : Int32} {x1 : Int32} {x2 : Int32} (hf : f_R_in F x0 x1 x2 h = some (r, h')) : hm_le h h' := by
  unfold f_R_in at hf
  by_cases z1 : x0 < x1
  · have hf := hm_ifp hf z1
    obtain ⟨v2, ev2, hf⟩ := hm_bind hf
    exact (hm_le.ret hf)
  · have hf := hm_ifn hf z1
    by_cases z3 : x2 < x0
    · have hf := hm_ifp hf z3
      obtain ⟨v4, ev4, hf⟩ := hm_bind hf
      exact (hm_le.ret hf)
    · have hf := hm_ifn hf z3
      obtain ⟨v5, ev5, hf⟩ := hm_bind hf
      exact (hm_le.ret hf)
set_option maxRecDepth 20000 in
set_option maxHeartbeats 1000000 in
theorem w_f_R_in {p : Program} {l : Launch} {e : Env} {R : Room} {s : State} {m : MethodId} {args : Array Value} {below : List Frame} {meth : Method} {c : Code} {E : hm_E} {n0 s0 F : Nat} {r : Int32} {h h' : hm_T} {x0 : Int32} {x1 : Int32} {x2 : Int32} (C : hm_C E prog_6_method_2_code 3 "DistanceLabelsModel" 0 0 n0 s0 (hm_n h') (hm_s h') p R s m args c) (hr : meth.sig.returnType = (some .boolean)) (hlk : meth.locks = false) (hf : f_R_in F x0 x1 x2 h = some (r, h')) : hm_G E 3 n0 s0 (hm_n h') (hm_s h') p l e R s m args below meth c (MQ below (hm_Qc E (some (.int r)) h') args s (hm_n h' - n0) (hm_s h' - s0) (fun q => E.2.2 ≤ q)) 0 [(0, .int x0), (1, .int x1), (2, .int x2)] [] h := by
  unfold f_R_in at hf
  refine hm_iload_n C d_R_in_0 rfl 0 rfl ?_
  refine hm_iload_n C d_R_in_1 rfl 1 rfl ?_
  refine hm_icmp_lt (tgt := 14) C d_R_in_2 (by decide) (fun z1 => ?_) (fun z1 => ?_)
  · have hf := hm_ifp hf z1
    refine hm_iconst (v := (0 : Int32)) C d_R_in_14 (by decide) ?_
    obtain ⟨v2, ev2, hf⟩ := hm_bind hf
    exact hm_zret C hr hlk d_R_in_15 ev2 hf
  · have hf := hm_ifn hf z1
    refine hm_iload_n C d_R_in_5 rfl 0 rfl ?_
    refine hm_iload_n C d_R_in_6 rfl 2 rfl ?_
    refine hm_icmp_gt (tgt := 14) C d_R_in_7 (by decide) (fun z3 => ?_) (fun z3 => ?_)
    · have hf := hm_ifp hf z3
      refine hm_iconst (v := (0 : Int32)) C d_R_in_14 (by decide) ?_
      obtain ⟨v4, ev4, hf⟩ := hm_bind hf
      exact hm_zret C hr hlk d_R_in_15 ev4 hf
    · have hf := hm_ifn hf z3
      refine hm_iconst (v := (1 : Int32)) C d_R_in_10 (by decide) ?_
      refine hm_goto (tgt := 15) C d_R_in_11 (by decide) ?_
      obtain ⟨v5, ev5, hf⟩ := hm_bind hf
      exact hm_zret C hr hlk d_R_in_15 ev5 hf
set_option maxRecDepth 20000 in
theorem c_R_in {E : hm_E} {l : Launch} {F : Nat} {r : Int32} {h h' : hm_T} {x0 : Int32} {x1 : Int32} {x2 : Int32} (hf : f_R_in F x0 x1 x2 h = some (r, h')) : hm_M E l y_R_in prog_6_method_2_code 3 (some .boolean) 0 0 [.int x0, .int x1, .int x2] h (some (.int r)) h' :=
  hm_enter (by decide +kernel) (Nat.le_of_ble_eq_true rfl) (m_f_R_in hf) (fun p e R s m below meth c C hr hlk hin => w_f_R_in C hr hlk hf)
def g_R_init_170 (F : Nat) (k170 : Nat → Int32 → hm_T → Option hm_T) (x0 : Nat) (x1 : Int32) (h : hm_T) : Option hm_T :=
  (if (256 : Int32) ≤ x1 then some h else (hm_gr 4 25 2 h x0).bind (fun a2 => (hm_ist h a2 x1 (1000000 : Int32)).bind (fun h3 => k170 x0 (x1 + (1 : Int32)) h3)))
def f_R_init_170 (F : Nat) : Nat → Nat → Int32 → hm_T → Option hm_T
  | 0 => fun _ _ _ => none
  | n + 1 => g_R_init_170 F (f_R_init_170 F n)
def f_R_init (F : Nat) (x0 : Nat) (h : hm_T) : Option hm_T :=
  hm_and (hm_newa 0 h (256 : Int32)) (fun q1 h1 => (hm_pr 4 25 2 h1 x0 q1).bind (fun h2 => hm_and (hm_newa 0 h2 (16 : Int32)) (fun q3 h3 => (hm_pr 4 25 3 h3 x0 q3).bind (fun h4 => hm_and (hm_newa 2 h4 (16 : Int32)) (fun q5 h5 => (hm_pr 4 25 4 h5 x0 q5).bind (fun h6 => hm_and (hm_newa 0 h6 (256 : Int32)) (fun q7 h7 => (hm_pr 4 25 6 h7 x0 q7).bind (fun h8 => hm_and (hm_newa 0 h8 (512 : Int32)) (fun q9 h9 => (hm_pr 4 25 7 h9 x0 q9).bind (fun h10 => hm_and (hm_newa 0 h10 (512 : Int32)) (fun q11 h11 => (hm_pr 4 25 8 h11 x0 q11).bind (fun h12 => hm_and (hm_newa 0 h12 (512 : Int32)) (fun q13 h13 => (hm_pr 4 25 9 h13 x0 q13).bind (fun h14 => hm_and (hm_newa 2 h14 (16 : Int32)) (fun q15 h15 => (hm_pr 4 25 11 h15 x0 q15).bind (fun h16 => hm_and (hm_newa 0 h16 (256 : Int32)) (fun q17 h17 => (hm_pr 4 25 12 h17 x0 q17).bind (fun h18 => hm_and (hm_newa 0 h18 (256 : Int32)) (fun q19 h19 => (hm_pr 4 25 13 h19 x0 q19).bind (fun h20 => hm_and (hm_newa 0 h20 (256 : Int32)) (fun q21 h21 => (hm_pr 4 25 14 h21 x0 q21).bind (fun h22 => hm_and (hm_newa 0 h22 (256 : Int32)) (fun q23 h23 => (hm_pr 4 25 15 h23 x0 q23).bind (fun h24 => hm_and (hm_newa 0 h24 (4096 : Int32)) (fun q25 h25 => (hm_pr 4 25 17 h25 x0 q25).bind (fun h26 => hm_and (hm_newa 0 h26 (4096 : Int32)) (fun q27 h27 => (hm_pr 4 25 18 h27 x0 q27).bind (fun h28 => hm_and (hm_newa 0 h28 (4096 : Int32)) (fun q29 h29 => (hm_pr 4 25 19 h29 x0 q29).bind (fun h30 => hm_and (hm_newa 0 h30 (4096 : Int32)) (fun q31 h31 => (hm_pr 4 25 20 h31 x0 q31).bind (fun h32 => hm_and (hm_newa 0 h32 (256 : Int32)) (fun q33 h33 => (hm_pr 4 25 21 h33 x0 q33).bind (fun h34 => hm_and (hm_newa 0 h34 (256 : Int32)) (fun q35 h35 => (hm_pr 4 25 22 h35 x0 q35).bind (fun h36 => (hm_pi 4 25 0 h36 x0 (0 : Int32)).bind (fun h37 => f_R_init_170 F F x0 (0 : Int32) h37)))))))))))))))))))))))))))))))))))))
theorem m_g_R_init_170 {F : Nat} {h h' : hm_T} {x0 : Nat} {x1 : Int32} {k170 : Nat → Int32 → hm_T → Option hm_T} (hk170 : ∀ (y0 : Nat) (y1 : Int32) (g : hm_T), k170 y0 y1 g = some h' → hm_le g h') (hf : g_R_init_170 F k170 x0 x1 h = some h') : hm_le h h' := by
  unfold g_R_init_170 at hf
  by_cases z1 : (256 : Int32) ≤ x1
  · have hf := hm_ifp hf z1
    exact (hm_le.retv hf)
  · have hf := hm_ifn hf z1
    obtain ⟨a2, ea2, hf⟩ := hm_bind hf
    obtain ⟨h3, eh3, hf⟩ := hm_bind hf
    have mh3 := hm_le.ist eh3
    exact mh3.tr ((hk170 _ _ _ hf))
theorem m_R_init_170L {F : Nat} {h' : hm_T} : ∀ (N : Nat) (x0 : Nat) (x1 : Int32) (h : hm_T), f_R_init_170 F N x0 x1 h = some h' → hm_le h h' := by
  intro N
  induction N with
  | zero => intro _ _ _ hf; cases hf
  | succ n ih => intro x0 x1 h hf; exact m_g_R_init_170 ih hf
theorem m_f_R_init {F : Nat} {h h' : hm_T} {x0 : Nat} (hf : f_R_init F x0 h = some h') : hm_le h h' := by
  unfold f_R_init at hf
  obtain ⟨q1, h1, eh1, hf⟩ := hm_and_of hf
  have mh1 := hm_le.newa eh1
  obtain ⟨h2, eh2, hf⟩ := hm_bind hf
  have mh2 := hm_le.pr eh2
  obtain ⟨q3, h3, eh3, hf⟩ := hm_and_of hf
  have mh3 := hm_le.newa eh3
  obtain ⟨h4, eh4, hf⟩ := hm_bind hf
  have mh4 := hm_le.pr eh4
  obtain ⟨q5, h5, eh5, hf⟩ := hm_and_of hf
  have mh5 := hm_le.newa eh5
  obtain ⟨h6, eh6, hf⟩ := hm_bind hf
  have mh6 := hm_le.pr eh6
  obtain ⟨q7, h7, eh7, hf⟩ := hm_and_of hf
  have mh7 := hm_le.newa eh7
  obtain ⟨h8, eh8, hf⟩ := hm_bind hf
  have mh8 := hm_le.pr eh8
  obtain ⟨q9, h9, eh9, hf⟩ := hm_and_of hf
  have mh9 := hm_le.newa eh9
  obtain ⟨h10, eh10, hf⟩ := hm_bind hf
  have mh10 := hm_le.pr eh10
  obtain ⟨q11, h11, eh11, hf⟩ := hm_and_of hf
  have mh11 := hm_le.newa eh11
  obtain ⟨h12, eh12, hf⟩ := hm_bind hf
  have mh12 := hm_le.pr eh12
  obtain ⟨q13, h13, eh13, hf⟩ := hm_and_of hf
  have mh13 := hm_le.newa eh13
  obtain ⟨h14, eh14, hf⟩ := hm_bind hf
  have mh14 := hm_le.pr eh14
  obtain ⟨q15, h15, eh15, hf⟩ := hm_and_of hf
  have mh15 := hm_le.newa eh15
  obtain ⟨h16, eh16, hf⟩ := hm_bind hf
  have mh16 := hm_le.pr eh16
  obtain ⟨q17, h17, eh17, hf⟩ := hm_and_of hf
  have mh17 := hm_le.newa eh17
  obtain ⟨h18, eh18, hf⟩ := hm_bind hf
  have mh18 := hm_le.pr eh18
  obtain ⟨q19, h19, eh19, hf⟩ := hm_and_of hf
  have mh19 := hm_le.newa eh19
  obtain ⟨h20, eh20, hf⟩ := hm_bind hf
  have mh20 := hm_le.pr eh20
  obtain ⟨q21, h21, eh21, hf⟩ := hm_and_of hf
  have mh21 := hm_le.newa eh21
  obtain ⟨h22, eh22, hf⟩ := hm_bind hf
  have mh22 := hm_le.pr eh22
  obtain ⟨q23, h23, eh23, hf⟩ := hm_and_of hf
  have mh23 := hm_le.newa eh23
  obtain ⟨h24, eh24, hf⟩ := hm_bind hf
  have mh24 := hm_le.pr eh24
  obtain ⟨q25, h25, eh25, hf⟩ := hm_and_of hf
  have mh25 := hm_le.newa eh25
  obtain ⟨h26, eh26, hf⟩ := hm_bind hf
  have mh26 := hm_le.pr eh26
  obtain ⟨q27, h27, eh27, hf⟩ := hm_and_of hf
  have mh27 := hm_le.newa eh27
  obtain ⟨h28, eh28, hf⟩ := hm_bind hf
  have mh28 := hm_le.pr eh28
  obtain ⟨q29, h29, eh29, hf⟩ := hm_and_of hf
  have mh29 := hm_le.newa eh29
  obtain ⟨h30, eh30, hf⟩ := hm_bind hf
  have mh30 := hm_le.pr eh30
  obtain ⟨q31, h31, eh31, hf⟩ := hm_and_of hf
  have mh31 := hm_le.newa eh31
  obtain ⟨h32, eh32, hf⟩ := hm_bind hf
  have mh32 := hm_le.pr eh32
  obtain ⟨q33, h33, eh33, hf⟩ := hm_and_of hf
  have mh33 := hm_le.newa eh33
  obtain ⟨h34, eh34, hf⟩ := hm_bind hf
  have mh34 := hm_le.pr eh34
  obtain ⟨q35, h35, eh35, hf⟩ := hm_and_of hf
  have mh35 := hm_le.newa eh35
  obtain ⟨h36, eh36, hf⟩ := hm_bind hf
  have mh36 := hm_le.pr eh36
  obtain ⟨h37, eh37, hf⟩ := hm_bind hf
  have mh37 := hm_le.pi eh37
  exact mh1.tr (mh2.tr (mh3.tr (mh4.tr (mh5.tr (mh6.tr (mh7.tr (mh8.tr (mh9.tr (mh10.tr (mh11.tr (mh12.tr (mh13.tr (mh14.tr (mh15.tr (mh16.tr (mh17.tr (mh18.tr (mh19.tr (mh20.tr (mh21.tr (mh22.tr (mh23.tr (mh24.tr (mh25.tr (mh26.tr (mh27.tr (mh28.tr (mh29.tr (mh30.tr (mh31.tr (mh32.tr (mh33.tr (mh34.tr (mh35.tr (mh36.tr (mh37.tr ((m_R_init_170L _ _ _ _ hf))))))))))))))))))))))))))))))))))))))
set_option maxRecDepth 20000 in
set_option maxHeartbeats 1000000 in
theorem w_g_R_init_170 {p : Program} {l : Launch} {e : Env} {R : Room} {s : State} {m : MethodId} {args : Array Value} {below : List Frame} {meth : Method} {c : Code} {E : hm_E} {n0 s0 F : Nat} {h h' : hm_T} {x0 : Nat} {x1 : Int32} {k170 : Nat → Int32 → hm_T → Option hm_T} (C : hm_C E prog_6_method_3_code 2 "DistanceLabelsModel" 1 12 n0 s0 (hm_n h') (hm_s h') p R s m args c) (hr : meth.sig.returnType = none) (hlk : meth.locks = false) (hin : meth.name = "<init>") (hk170 : ∀ (y0 : Nat) (y1 : Int32) (g : hm_T), k170 y0 y1 g = some h' → hm_G E 2 n0 s0 (hm_n h') (hm_s h') p l e R s m args below meth c (MQ below (hm_Qc E none h') args s (hm_n h' - n0) (hm_s h' - s0) (fun q => E.2.2 ≤ q)) 170 [(0, .ref y0), (1, .int y1)] [] g) (hf : g_R_init_170 F k170 x0 x1 h = some h') : hm_G E 2 n0 s0 (hm_n h') (hm_s h') p l e R s m args below meth c (MQ below (hm_Qc E none h') args s (hm_n h' - n0) (hm_s h' - s0) (fun q => E.2.2 ≤ q)) 170 [(0, .ref x0), (1, .int x1)] [] h := by
  unfold g_R_init_170 at hf
  refine hm_iload_n C d_R_init_170 rfl 1 rfl ?_
  refine hm_sipush (v := (256 : Int32)) C d_R_init_171 (by decide) ?_
  refine hm_icmp_ge (tgt := 191) C d_R_init_174 (by decide) (fun z1 => ?_) (fun z1 => ?_)
  · have hf := hm_ifp hf z1
    exact hm_vret C hr hlk d_R_init_191 hf
  · have hf := hm_ifn hf z1
    refine hm_aload_n C d_R_init_177 rfl 0 rfl ?_
    obtain ⟨a2, ea2, hf⟩ := hm_bind hf
    refine hm_getR C F_4 2 (by decide) rfl k_138 d_R_init_178 ea2 ?_
    refine hm_iload_n C d_R_init_181 rfl 1 rfl ?_
    refine hm_ldc (v := (1000000 : Int32)) C k_139 d_R_init_182 ?_
    obtain ⟨h3, eh3, hf⟩ := hm_bind hf
    refine hm_iastore C d_R_init_184 eh3 ?_
    refine hm_iinc (v := (x1 + (1 : Int32))) (lv' := [(1, .int (x1 + (1 : Int32))), (0, .ref x0)]) C d_R_init_185 1 rfl rfl (by decide) rfl ?_
    refine hm_goto (tgt := 170) C d_R_init_188 (by decide) ?_
    refine hm_sub (lv' := [(0, .ref x0), (1, .int (x1 + (1 : Int32)))]) [1, 0] rfl ?_
    exact hk170 _ _ _ hf
theorem w_R_init_170L {p : Program} {l : Launch} {e : Env} {R : Room} {s : State} {m : MethodId} {args : Array Value} {below : List Frame} {meth : Method} {c : Code} {E : hm_E} {n0 s0 F : Nat} {h' : hm_T} (C : hm_C E prog_6_method_3_code 2 "DistanceLabelsModel" 1 12 n0 s0 (hm_n h') (hm_s h') p R s m args c) (hr : meth.sig.returnType = none) (hlk : meth.locks = false) (hin : meth.name = "<init>") : ∀ (N : Nat) (x0 : Nat) (x1 : Int32) (h : hm_T), f_R_init_170 F N x0 x1 h = some h' → hm_G E 2 n0 s0 (hm_n h') (hm_s h') p l e R s m args below meth c (MQ below (hm_Qc E none h') args s (hm_n h' - n0) (hm_s h' - s0) (fun q => E.2.2 ≤ q)) 170 [(0, .ref x0), (1, .int x1)] [] h := by
  intro N
  induction N with
  | zero => intro _ _ _ hf; cases hf
  | succ n ih => intro x0 x1 h hf; exact w_g_R_init_170 C hr hlk hin ih hf
set_option maxRecDepth 20000 in
set_option maxHeartbeats 1000000 in
theorem w_f_R_init {p : Program} {l : Launch} {e : Env} {R : Room} {s : State} {m : MethodId} {args : Array Value} {below : List Frame} {meth : Method} {c : Code} {E : hm_E} {n0 s0 F : Nat} {h h' : hm_T} {x0 : Nat} (C : hm_C E prog_6_method_3_code 2 "DistanceLabelsModel" 1 12 n0 s0 (hm_n h') (hm_s h') p R s m args c) (hr : meth.sig.returnType = none) (hlk : meth.locks = false) (hin : meth.name = "<init>") (hf : f_R_init F x0 h = some h') : hm_G E 2 n0 s0 (hm_n h') (hm_s h') p l e R s m args below meth c (MQ below (hm_Qc E none h') args s (hm_n h' - n0) (hm_s h' - s0) (fun q => E.2.2 ≤ q)) 0 [(0, .ref x0)] [] h := by
  unfold f_R_init at hf
  refine hm_aload_n C d_R_init_0 rfl 0 rfl ?_
  refine hm_objInit C k_140 k_2 k_3 (by decide) (by decide) d_R_init_1 ?_
  refine hm_aload_n C d_R_init_4 rfl 0 rfl ?_
  refine hm_sipush (v := (256 : Int32)) C d_R_init_5 (by decide) ?_
  obtain ⟨q1, h1, eh1, hf⟩ := hm_and_of hf
  refine hm_newAI C kA_int d_R_init_8 eh1 ?_
  obtain ⟨h2, eh2, hf⟩ := hm_bind hf
  refine hm_putR C F_4 2 (by decide) rfl k_138 (Or.inr ⟨rfl, hin, rfl⟩) (Or.inr ⟨_, rfl⟩) d_R_init_10 eh2 ?_
  refine hm_aload_n C d_R_init_13 rfl 0 rfl ?_
  refine hm_bipush (v := (16 : Int32)) C d_R_init_14 (by decide) ?_
  obtain ⟨q3, h3, eh3, hf⟩ := hm_and_of hf
  refine hm_newAI C kA_int d_R_init_16 eh3 ?_
  obtain ⟨h4, eh4, hf⟩ := hm_bind hf
  refine hm_putR C F_4 3 (by decide) rfl k_141 (Or.inr ⟨rfl, hin, rfl⟩) (Or.inr ⟨_, rfl⟩) d_R_init_18 eh4 ?_
  refine hm_aload_n C d_R_init_21 rfl 0 rfl ?_
  refine hm_bipush (v := (16 : Int32)) C d_R_init_22 (by decide) ?_
  obtain ⟨q5, h5, eh5, hf⟩ := hm_and_of hf
  refine hm_newAZ C kA_bool d_R_init_24 eh5 ?_
  obtain ⟨h6, eh6, hf⟩ := hm_bind hf
  refine hm_putR C F_4 4 (by decide) rfl k_142 (Or.inr ⟨rfl, hin, rfl⟩) (Or.inr ⟨_, rfl⟩) d_R_init_26 eh6 ?_
  refine hm_aload_n C d_R_init_29 rfl 0 rfl ?_
  refine hm_sipush (v := (256 : Int32)) C d_R_init_30 (by decide) ?_
  obtain ⟨q7, h7, eh7, hf⟩ := hm_and_of hf
  refine hm_newAI C kA_int d_R_init_33 eh7 ?_
  obtain ⟨h8, eh8, hf⟩ := hm_bind hf
  refine hm_putR C F_4 6 (by decide) rfl k_143 (Or.inr ⟨rfl, hin, rfl⟩) (Or.inr ⟨_, rfl⟩) d_R_init_35 eh8 ?_
  refine hm_aload_n C d_R_init_38 rfl 0 rfl ?_
  refine hm_sipush (v := (512 : Int32)) C d_R_init_39 (by decide) ?_
  obtain ⟨q9, h9, eh9, hf⟩ := hm_and_of hf
  refine hm_newAI C kA_int d_R_init_42 eh9 ?_
  obtain ⟨h10, eh10, hf⟩ := hm_bind hf
  refine hm_putR C F_4 7 (by decide) rfl k_144 (Or.inr ⟨rfl, hin, rfl⟩) (Or.inr ⟨_, rfl⟩) d_R_init_44 eh10 ?_
  refine hm_aload_n C d_R_init_47 rfl 0 rfl ?_
  refine hm_sipush (v := (512 : Int32)) C d_R_init_48 (by decide) ?_
  obtain ⟨q11, h11, eh11, hf⟩ := hm_and_of hf
  refine hm_newAI C kA_int d_R_init_51 eh11 ?_
  obtain ⟨h12, eh12, hf⟩ := hm_bind hf
  refine hm_putR C F_4 8 (by decide) rfl k_145 (Or.inr ⟨rfl, hin, rfl⟩) (Or.inr ⟨_, rfl⟩) d_R_init_53 eh12 ?_
  refine hm_aload_n C d_R_init_56 rfl 0 rfl ?_
  refine hm_sipush (v := (512 : Int32)) C d_R_init_57 (by decide) ?_
  obtain ⟨q13, h13, eh13, hf⟩ := hm_and_of hf
  refine hm_newAI C kA_int d_R_init_60 eh13 ?_
  obtain ⟨h14, eh14, hf⟩ := hm_bind hf
  refine hm_putR C F_4 9 (by decide) rfl k_146 (Or.inr ⟨rfl, hin, rfl⟩) (Or.inr ⟨_, rfl⟩) d_R_init_62 eh14 ?_
  refine hm_aload_n C d_R_init_65 rfl 0 rfl ?_
  refine hm_bipush (v := (16 : Int32)) C d_R_init_66 (by decide) ?_
  obtain ⟨q15, h15, eh15, hf⟩ := hm_and_of hf
  refine hm_newAZ C kA_bool d_R_init_68 eh15 ?_
  obtain ⟨h16, eh16, hf⟩ := hm_bind hf
  refine hm_putR C F_4 11 (by decide) rfl k_147 (Or.inr ⟨rfl, hin, rfl⟩) (Or.inr ⟨_, rfl⟩) d_R_init_70 eh16 ?_
  refine hm_aload_n C d_R_init_73 rfl 0 rfl ?_
  refine hm_sipush (v := (256 : Int32)) C d_R_init_74 (by decide) ?_
  obtain ⟨q17, h17, eh17, hf⟩ := hm_and_of hf
  refine hm_newAI C kA_int d_R_init_77 eh17 ?_
  obtain ⟨h18, eh18, hf⟩ := hm_bind hf
  refine hm_putR C F_4 12 (by decide) rfl k_148 (Or.inr ⟨rfl, hin, rfl⟩) (Or.inr ⟨_, rfl⟩) d_R_init_79 eh18 ?_
  refine hm_aload_n C d_R_init_82 rfl 0 rfl ?_
  refine hm_sipush (v := (256 : Int32)) C d_R_init_83 (by decide) ?_
  obtain ⟨q19, h19, eh19, hf⟩ := hm_and_of hf
  refine hm_newAI C kA_int d_R_init_86 eh19 ?_
  obtain ⟨h20, eh20, hf⟩ := hm_bind hf
  refine hm_putR C F_4 13 (by decide) rfl k_149 (Or.inr ⟨rfl, hin, rfl⟩) (Or.inr ⟨_, rfl⟩) d_R_init_88 eh20 ?_
  refine hm_aload_n C d_R_init_91 rfl 0 rfl ?_
  refine hm_sipush (v := (256 : Int32)) C d_R_init_92 (by decide) ?_
  obtain ⟨q21, h21, eh21, hf⟩ := hm_and_of hf
  refine hm_newAI C kA_int d_R_init_95 eh21 ?_
  obtain ⟨h22, eh22, hf⟩ := hm_bind hf
  refine hm_putR C F_4 14 (by decide) rfl k_150 (Or.inr ⟨rfl, hin, rfl⟩) (Or.inr ⟨_, rfl⟩) d_R_init_97 eh22 ?_
  refine hm_aload_n C d_R_init_100 rfl 0 rfl ?_
  refine hm_sipush (v := (256 : Int32)) C d_R_init_101 (by decide) ?_
  obtain ⟨q23, h23, eh23, hf⟩ := hm_and_of hf
  refine hm_newAI C kA_int d_R_init_104 eh23 ?_
  obtain ⟨h24, eh24, hf⟩ := hm_bind hf
  refine hm_putR C F_4 15 (by decide) rfl k_151 (Or.inr ⟨rfl, hin, rfl⟩) (Or.inr ⟨_, rfl⟩) d_R_init_106 eh24 ?_
  refine hm_aload_n C d_R_init_109 rfl 0 rfl ?_
  refine hm_sipush (v := (4096 : Int32)) C d_R_init_110 (by decide) ?_
  obtain ⟨q25, h25, eh25, hf⟩ := hm_and_of hf
  refine hm_newAI C kA_int d_R_init_113 eh25 ?_
  obtain ⟨h26, eh26, hf⟩ := hm_bind hf
  refine hm_putR C F_4 17 (by decide) rfl k_152 (Or.inr ⟨rfl, hin, rfl⟩) (Or.inr ⟨_, rfl⟩) d_R_init_115 eh26 ?_
  refine hm_aload_n C d_R_init_118 rfl 0 rfl ?_
  refine hm_sipush (v := (4096 : Int32)) C d_R_init_119 (by decide) ?_
  obtain ⟨q27, h27, eh27, hf⟩ := hm_and_of hf
  refine hm_newAI C kA_int d_R_init_122 eh27 ?_
  obtain ⟨h28, eh28, hf⟩ := hm_bind hf
  refine hm_putR C F_4 18 (by decide) rfl k_153 (Or.inr ⟨rfl, hin, rfl⟩) (Or.inr ⟨_, rfl⟩) d_R_init_124 eh28 ?_
  refine hm_aload_n C d_R_init_127 rfl 0 rfl ?_
  refine hm_sipush (v := (4096 : Int32)) C d_R_init_128 (by decide) ?_
  obtain ⟨q29, h29, eh29, hf⟩ := hm_and_of hf
  refine hm_newAI C kA_int d_R_init_131 eh29 ?_
  obtain ⟨h30, eh30, hf⟩ := hm_bind hf
  refine hm_putR C F_4 19 (by decide) rfl k_154 (Or.inr ⟨rfl, hin, rfl⟩) (Or.inr ⟨_, rfl⟩) d_R_init_133 eh30 ?_
  refine hm_aload_n C d_R_init_136 rfl 0 rfl ?_
  refine hm_sipush (v := (4096 : Int32)) C d_R_init_137 (by decide) ?_
  obtain ⟨q31, h31, eh31, hf⟩ := hm_and_of hf
  refine hm_newAI C kA_int d_R_init_140 eh31 ?_
  obtain ⟨h32, eh32, hf⟩ := hm_bind hf
  refine hm_putR C F_4 20 (by decide) rfl k_155 (Or.inr ⟨rfl, hin, rfl⟩) (Or.inr ⟨_, rfl⟩) d_R_init_142 eh32 ?_
  refine hm_aload_n C d_R_init_145 rfl 0 rfl ?_
  refine hm_sipush (v := (256 : Int32)) C d_R_init_146 (by decide) ?_
  obtain ⟨q33, h33, eh33, hf⟩ := hm_and_of hf
  refine hm_newAI C kA_int d_R_init_149 eh33 ?_
  obtain ⟨h34, eh34, hf⟩ := hm_bind hf
  refine hm_putR C F_4 21 (by decide) rfl k_156 (Or.inr ⟨rfl, hin, rfl⟩) (Or.inr ⟨_, rfl⟩) d_R_init_151 eh34 ?_
  refine hm_aload_n C d_R_init_154 rfl 0 rfl ?_
  refine hm_sipush (v := (256 : Int32)) C d_R_init_155 (by decide) ?_
  obtain ⟨q35, h35, eh35, hf⟩ := hm_and_of hf
  refine hm_newAI C kA_int d_R_init_158 eh35 ?_
  obtain ⟨h36, eh36, hf⟩ := hm_bind hf
  refine hm_putR C F_4 22 (by decide) rfl k_157 (Or.inr ⟨rfl, hin, rfl⟩) (Or.inr ⟨_, rfl⟩) d_R_init_160 eh36 ?_
  refine hm_aload_n C d_R_init_163 rfl 0 rfl ?_
  refine hm_iconst (v := (0 : Int32)) C d_R_init_164 (by decide) ?_
  obtain ⟨h37, eh37, hf⟩ := hm_bind hf
  refine hm_putI C F_4 0 (by decide) rfl k_158 (Or.inl rfl) rfl d_R_init_165 eh37 ?_
  refine hm_iconst (v := (0 : Int32)) C d_R_init_168 (by decide) ?_
  refine hm_istore_n (lv' := [(1, .int (0 : Int32)), (0, .ref x0)]) C d_R_init_169 rfl (by decide) rfl ?_
  refine hm_sub (lv' := [(0, .ref x0), (1, .int (0 : Int32))]) [1, 0] rfl ?_
  exact w_R_init_170L C hr hlk hin _ _ _ _ hf
set_option maxRecDepth 20000 in
theorem c_R_init {E : hm_E} {l : Launch} {F : Nat} {h h' : hm_T} {x0 : Nat} (hf : f_R_init F x0 h = some h') : hm_M E l y_R_init prog_6_method_3_code 2 none 1 12 [.ref x0] h none h' :=
  hm_enter (by decide +kernel) (Nat.le_of_ble_eq_true rfl) (m_f_R_init hf) (fun p e R s m below meth c C hr hlk hin => w_f_R_init C hr hlk hin hf)
def f_R_noNode (F : Nat) (x0 : Nat) (x1 : Int32) (h : hm_T) : Option (Int32 × hm_T) :=
  (hm_gi 4 25 1 h x0).bind (fun v1 => hm_and (f_R_in F x1 (0 : Int32) (v1 - (1 : Int32)) h) (fun v2 h2 => (if v2 = 0 then (hm_zr (1 : Int32)).bind (fun v5 => some (v5, h2)) else (hm_zr (0 : Int32)).bind (fun v4 => some (v4, h2)))))
theorem m_f_R_noNode {F : Nat} {r : Int32} {h h' : hm_T} {x0 : Nat} {x1 : Int32} (hf : f_R_noNode F x0 x1 h = some (r, h')) : hm_le h h' := by
  unfold f_R_noNode at hf
  obtain ⟨v1, ev1, hf⟩ := hm_bind hf
  obtain ⟨v2, h2, eh2, hf⟩ := hm_and_of hf
  have mh2 := m_f_R_in eh2
  by_cases z3 : v2 = 0
  · have hf := hm_ifp hf z3
    obtain ⟨v5, ev5, hf⟩ := hm_bind hf
    exact mh2.tr ((hm_le.ret hf))
  · have hf := hm_ifn hf z3
    obtain ⟨v4, ev4, hf⟩ := hm_bind hf
    exact mh2.tr ((hm_le.ret hf))
set_option maxRecDepth 20000 in
set_option maxHeartbeats 1000000 in
theorem w_f_R_noNode {p : Program} {l : Launch} {e : Env} {R : Room} {s : State} {m : MethodId} {args : Array Value} {below : List Frame} {meth : Method} {c : Code} {E : hm_E} {n0 s0 F : Nat} {r : Int32} {h h' : hm_T} {x0 : Nat} {x1 : Int32} (C : hm_C E prog_6_method_4_code 2 "DistanceLabelsModel" 1 22 n0 s0 (hm_n h') (hm_s h') p R s m args c) (hr : meth.sig.returnType = (some .boolean)) (hlk : meth.locks = false) (hf : f_R_noNode F x0 x1 h = some (r, h')) : hm_G E 2 n0 s0 (hm_n h') (hm_s h') p l e R s m args below meth c (MQ below (hm_Qc E (some (.int r)) h') args s (hm_n h' - n0) (hm_s h' - s0) (fun q => E.2.2 ≤ q)) 0 [(0, .ref x0), (1, .int x1)] [] h := by
  unfold f_R_noNode at hf
  refine hm_iload_n C d_R_noNode_0 rfl 1 rfl ?_
  refine hm_iconst (v := (0 : Int32)) C d_R_noNode_1 (by decide) ?_
  refine hm_aload_n C d_R_noNode_2 rfl 0 rfl ?_
  obtain ⟨v1, ev1, hf⟩ := hm_bind hf
  refine hm_getI C F_4 1 (by decide) rfl k_159 d_R_noNode_3 ev1 ?_
  refine hm_iconst (v := (1 : Int32)) C d_R_noNode_6 (by decide) ?_
  refine hm_isub C d_R_noNode_7 ?_
  obtain ⟨v2, h2, eh2, hf⟩ := hm_and_of hf
  refine hm_callS (vs := [.int x1, .int (0 : Int32), .int (v1 - (1 : Int32))]) (st := []) (sb := [.int v2]) C (c_R_in eh2) Y_R_in k_161 k_160 (by decide) (by decide) rfl (Nat.le_of_ble_eq_true rfl) d_R_noNode_8 rfl rfl ?_
  refine hm_if_ne (tgt := 18) C d_R_noNode_11 (by decide) (fun z3 => ?_) (fun z3 => ?_)
  · have hf := hm_ifn hf z3
    refine hm_iconst (v := (0 : Int32)) C d_R_noNode_18 (by decide) ?_
    obtain ⟨v4, ev4, hf⟩ := hm_bind hf
    exact hm_zret C hr hlk d_R_noNode_19 ev4 hf
  · have hf := hm_ifp hf z3
    refine hm_iconst (v := (1 : Int32)) C d_R_noNode_14 (by decide) ?_
    refine hm_goto (tgt := 19) C d_R_noNode_15 (by decide) ?_
    obtain ⟨v5, ev5, hf⟩ := hm_bind hf
    exact hm_zret C hr hlk d_R_noNode_19 ev5 hf
set_option maxRecDepth 20000 in
theorem c_R_noNode {E : hm_E} {l : Launch} {F : Nat} {r : Int32} {h h' : hm_T} {x0 : Nat} {x1 : Int32} (hf : f_R_noNode F x0 x1 h = some (r, h')) : hm_M E l y_R_noNode prog_6_method_4_code 2 (some .boolean) 1 22 [.ref x0, .int x1] h (some (.int r)) h' :=
  hm_enter (by decide +kernel) (Nat.le_of_ble_eq_true rfl) (m_f_R_noNode hf) (fun p e R s m below meth c C hr hlk hin => w_f_R_noNode C hr hlk hf)
def f_R_noPair_16 (F : Nat) (h : hm_T) : Option (Int32 × hm_T) :=
  (hm_zr (1 : Int32)).bind (fun v1 => some (v1, h))
def f_R_noPair (F : Nat) (x0 : Nat) (x1 : Int32) (x2 : Int32) (h : hm_T) : Option (Int32 × hm_T) :=
  (hm_is 4 25 h x0).bind (fun u1 => hm_and (f_R_noNode F x0 x1 h) (fun v2 h2 => (if v2 = 0 then (hm_is 4 25 h2 x0).bind (fun u4 => hm_and (f_R_noNode F x0 x2 h2) (fun v5 h5 => (if v5 = 0 then (hm_zr (0 : Int32)).bind (fun v7 => some (v7, h5)) else f_R_noPair_16 F h5))) else f_R_noPair_16 F h2)))
theorem m_f_R_noPair_16 {F : Nat} {r : Int32} {h h' : hm_T} (hf : f_R_noPair_16 F h = some (r, h')) : hm_le h h' := by
  unfold f_R_noPair_16 at hf
  obtain ⟨v1, ev1, hf⟩ := hm_bind hf
  exact (hm_le.ret hf)
theorem m_f_R_noPair {F : Nat} {r : Int32} {h h' : hm_T} {x0 : Nat} {x1 : Int32} {x2 : Int32} (hf : f_R_noPair F x0 x1 x2 h = some (r, h')) : hm_le h h' := by
  unfold f_R_noPair at hf
  obtain ⟨u1, eu1, hf⟩ := hm_bind hf
  obtain ⟨v2, h2, eh2, hf⟩ := hm_and_of hf
  have mh2 := m_f_R_noNode eh2
  by_cases z3 : v2 = 0
  · have hf := hm_ifp hf z3
    obtain ⟨u4, eu4, hf⟩ := hm_bind hf
    obtain ⟨v5, h5, eh5, hf⟩ := hm_and_of hf
    have mh5 := m_f_R_noNode eh5
    by_cases z6 : v5 = 0
    · have hf := hm_ifp hf z6
      obtain ⟨v7, ev7, hf⟩ := hm_bind hf
      exact mh2.tr (mh5.tr ((hm_le.ret hf)))
    · have hf := hm_ifn hf z6
      exact mh2.tr (mh5.tr ((m_f_R_noPair_16 hf)))
  · have hf := hm_ifn hf z3
    exact mh2.tr ((m_f_R_noPair_16 hf))
set_option maxRecDepth 20000 in
set_option maxHeartbeats 1000000 in
theorem w_f_R_noPair_16 {p : Program} {l : Launch} {e : Env} {R : Room} {s : State} {m : MethodId} {args : Array Value} {below : List Frame} {meth : Method} {c : Code} {E : hm_E} {n0 s0 F : Nat} {r : Int32} {h h' : hm_T} (C : hm_C E prog_6_method_5_code 3 "DistanceLabelsModel" 2 43 n0 s0 (hm_n h') (hm_s h') p R s m args c) (hr : meth.sig.returnType = (some .boolean)) (hlk : meth.locks = false) (hf : f_R_noPair_16 F h = some (r, h')) : hm_G E 3 n0 s0 (hm_n h') (hm_s h') p l e R s m args below meth c (MQ below (hm_Qc E (some (.int r)) h') args s (hm_n h' - n0) (hm_s h' - s0) (fun q => E.2.2 ≤ q)) 16 [] [] h := by
  unfold f_R_noPair_16 at hf
  refine hm_iconst (v := (1 : Int32)) C d_R_noPair_16 (by decide) ?_
  refine hm_goto (tgt := 21) C d_R_noPair_17 (by decide) ?_
  obtain ⟨v1, ev1, hf⟩ := hm_bind hf
  exact hm_zret C hr hlk d_R_noPair_21 ev1 hf
set_option maxRecDepth 20000 in
set_option maxHeartbeats 1000000 in
theorem w_f_R_noPair {p : Program} {l : Launch} {e : Env} {R : Room} {s : State} {m : MethodId} {args : Array Value} {below : List Frame} {meth : Method} {c : Code} {E : hm_E} {n0 s0 F : Nat} {r : Int32} {h h' : hm_T} {x0 : Nat} {x1 : Int32} {x2 : Int32} (C : hm_C E prog_6_method_5_code 3 "DistanceLabelsModel" 2 43 n0 s0 (hm_n h') (hm_s h') p R s m args c) (hr : meth.sig.returnType = (some .boolean)) (hlk : meth.locks = false) (hf : f_R_noPair F x0 x1 x2 h = some (r, h')) : hm_G E 3 n0 s0 (hm_n h') (hm_s h') p l e R s m args below meth c (MQ below (hm_Qc E (some (.int r)) h') args s (hm_n h' - n0) (hm_s h' - s0) (fun q => E.2.2 ≤ q)) 0 [(0, .ref x0), (1, .int x1), (2, .int x2)] [] h := by
  unfold f_R_noPair at hf
  refine hm_aload_n C d_R_noPair_0 rfl 0 rfl ?_
  refine hm_iload_n C d_R_noPair_1 rfl 1 rfl ?_
  obtain ⟨u1, eu1, hf⟩ := hm_bind hf
  obtain ⟨v2, h2, eh2, hf⟩ := hm_and_of hf
  refine hm_callV (vs := [.int x1]) (st := []) (sb := [.int v2]) C (c_R_noNode eh2) Y_R_noNode F_4 eu1 k_163 k_164 k_162 (by decide) (by decide) rfl (Nat.le_of_ble_eq_true rfl) d_R_noPair_2 rfl rfl ?_
  refine hm_if_ne (tgt := 16) C d_R_noPair_5 (by decide) (fun z3 => ?_) (fun z3 => ?_)
  · have hf := hm_ifn hf z3
    refine hm_sub (lv' := []) [] rfl ?_
    exact w_f_R_noPair_16 C hr hlk hf
  · have hf := hm_ifp hf z3
    refine hm_aload_n C d_R_noPair_8 rfl 0 rfl ?_
    refine hm_iload_n C d_R_noPair_9 rfl 2 rfl ?_
    obtain ⟨u4, eu4, hf⟩ := hm_bind hf
    obtain ⟨v5, h5, eh5, hf⟩ := hm_and_of hf
    refine hm_callV (vs := [.int x2]) (st := []) (sb := [.int v5]) C (c_R_noNode eh5) Y_R_noNode F_4 eu4 k_163 k_164 k_162 (by decide) (by decide) rfl (Nat.le_of_ble_eq_true rfl) d_R_noPair_10 rfl rfl ?_
    refine hm_if_eq (tgt := 20) C d_R_noPair_13 (by decide) (fun z6 => ?_) (fun z6 => ?_)
    · have hf := hm_ifp hf z6
      refine hm_iconst (v := (0 : Int32)) C d_R_noPair_20 (by decide) ?_
      obtain ⟨v7, ev7, hf⟩ := hm_bind hf
      exact hm_zret C hr hlk d_R_noPair_21 ev7 hf
    · have hf := hm_ifn hf z6
      refine hm_sub (lv' := []) [] rfl ?_
      exact w_f_R_noPair_16 C hr hlk hf
set_option maxRecDepth 20000 in
theorem c_R_noPair {E : hm_E} {l : Launch} {F : Nat} {r : Int32} {h h' : hm_T} {x0 : Nat} {x1 : Int32} {x2 : Int32} (hf : f_R_noPair F x0 x1 x2 h = some (r, h')) : hm_M E l y_R_noPair prog_6_method_5_code 3 (some .boolean) 2 43 [.ref x0, .int x1, .int x2] h (some (.int r)) h' :=
  hm_enter (by decide +kernel) (Nat.le_of_ble_eq_true rfl) (m_f_R_noPair hf) (fun p e R s m below meth c C hr hlk hin => w_f_R_noPair C hr hlk hf)
def f_R_node (F : Nat) (x0 : Nat) (h : hm_T) : Option (Int32 × hm_T) :=
  (hm_pi 4 25 0 h x0 (0 : Int32)).bind (fun h1 => (hm_gi 4 25 1 h1 x0).bind (fun v2 => (if v2 = (16 : Int32) then some ((-3 : Int32), h1) else (hm_gr 4 25 3 h1 x0).bind (fun a4 => (hm_gi 4 25 1 h1 x0).bind (fun v5 => (hm_gi 4 25 1 h1 x0).bind (fun v6 => (hm_ist h1 a4 v5 v6).bind (fun h7 => (hm_gi 4 25 1 h7 x0).bind (fun v8 => (hm_pi 4 25 1 h7 x0 (v8 + (1 : Int32))).bind (fun h9 => (hm_pz 4 25 5 h9 x0 (0 : Int32)).bind (fun h10 => (hm_gi 4 25 1 h10 x0).bind (fun v11 => some ((v11 - (1 : Int32)), h10))))))))))))
theorem m_f_R_node {F : Nat} {r : Int32} {h h' : hm_T} {x0 : Nat} (hf : f_R_node F x0 h = some (r, h')) : hm_le h h' := by
  unfold f_R_node at hf
  obtain ⟨h1, eh1, hf⟩ := hm_bind hf
  have mh1 := hm_le.pi eh1
  obtain ⟨v2, ev2, hf⟩ := hm_bind hf
  by_cases z3 : v2 = (16 : Int32)
  · have hf := hm_ifp hf z3
    exact mh1.tr ((hm_le.ret hf))
  · have hf := hm_ifn hf z3
    obtain ⟨a4, ea4, hf⟩ := hm_bind hf
    obtain ⟨v5, ev5, hf⟩ := hm_bind hf
    obtain ⟨v6, ev6, hf⟩ := hm_bind hf
    obtain ⟨h7, eh7, hf⟩ := hm_bind hf
    have mh7 := hm_le.ist eh7
    obtain ⟨v8, ev8, hf⟩ := hm_bind hf
    obtain ⟨h9, eh9, hf⟩ := hm_bind hf
    have mh9 := hm_le.pi eh9
    obtain ⟨h10, eh10, hf⟩ := hm_bind hf
    have mh10 := hm_le.pz eh10
    obtain ⟨v11, ev11, hf⟩ := hm_bind hf
    exact mh1.tr (mh7.tr (mh9.tr (mh10.tr ((hm_le.ret hf)))))
set_option maxRecDepth 20000 in
set_option maxHeartbeats 1000000 in
theorem w_f_R_node {p : Program} {l : Launch} {e : Env} {R : Room} {s : State} {m : MethodId} {args : Array Value} {below : List Frame} {meth : Method} {c : Code} {E : hm_E} {n0 s0 F : Nat} {r : Int32} {h h' : hm_T} {x0 : Nat} (C : hm_C E prog_6_method_6_code 1 "DistanceLabelsModel" 0 0 n0 s0 (hm_n h') (hm_s h') p R s m args c) (hr : meth.sig.returnType = (some .int)) (hlk : meth.locks = false) (hf : f_R_node F x0 h = some (r, h')) : hm_G E 1 n0 s0 (hm_n h') (hm_s h') p l e R s m args below meth c (MQ below (hm_Qc E (some (.int r)) h') args s (hm_n h' - n0) (hm_s h' - s0) (fun q => E.2.2 ≤ q)) 0 [(0, .ref x0)] [] h := by
  unfold f_R_node at hf
  refine hm_aload_n C d_R_node_0 rfl 0 rfl ?_
  refine hm_iconst (v := (0 : Int32)) C d_R_node_1 (by decide) ?_
  obtain ⟨h1, eh1, hf⟩ := hm_bind hf
  refine hm_putI C F_4 0 (by decide) rfl k_158 (Or.inl rfl) rfl d_R_node_2 eh1 ?_
  refine hm_aload_n C d_R_node_5 rfl 0 rfl ?_
  obtain ⟨v2, ev2, hf⟩ := hm_bind hf
  refine hm_getI C F_4 1 (by decide) rfl k_159 d_R_node_6 ev2 ?_
  refine hm_bipush (v := (16 : Int32)) C d_R_node_9 (by decide) ?_
  refine hm_icmp_ne (tgt := 17) C d_R_node_11 (by decide) (fun z3 => ?_) (fun z3 => ?_)
  · have hf := hm_ifn hf z3
    refine hm_aload_n C d_R_node_17 rfl 0 rfl ?_
    obtain ⟨a4, ea4, hf⟩ := hm_bind hf
    refine hm_getR C F_4 3 (by decide) rfl k_141 d_R_node_18 ea4 ?_
    refine hm_aload_n C d_R_node_21 rfl 0 rfl ?_
    obtain ⟨v5, ev5, hf⟩ := hm_bind hf
    refine hm_getI C F_4 1 (by decide) rfl k_159 d_R_node_22 ev5 ?_
    refine hm_aload_n C d_R_node_25 rfl 0 rfl ?_
    obtain ⟨v6, ev6, hf⟩ := hm_bind hf
    refine hm_getI C F_4 1 (by decide) rfl k_159 d_R_node_26 ev6 ?_
    obtain ⟨h7, eh7, hf⟩ := hm_bind hf
    refine hm_iastore C d_R_node_29 eh7 ?_
    refine hm_aload_n C d_R_node_30 rfl 0 rfl ?_
    refine hm_dup C d_R_node_31 rfl ?_
    obtain ⟨v8, ev8, hf⟩ := hm_bind hf
    refine hm_getI C F_4 1 (by decide) rfl k_159 d_R_node_32 ev8 ?_
    refine hm_iconst (v := (1 : Int32)) C d_R_node_35 (by decide) ?_
    refine hm_iadd C d_R_node_36 ?_
    obtain ⟨h9, eh9, hf⟩ := hm_bind hf
    refine hm_putI C F_4 1 (by decide) rfl k_159 (Or.inl rfl) rfl d_R_node_37 eh9 ?_
    refine hm_aload_n C d_R_node_40 rfl 0 rfl ?_
    refine hm_iconst (v := (0 : Int32)) C d_R_node_41 (by decide) ?_
    obtain ⟨h10, eh10, hf⟩ := hm_bind hf
    refine hm_putZ C F_4 5 (by decide) rfl k_165 (Or.inl rfl) rfl d_R_node_42 eh10 ?_
    refine hm_aload_n C d_R_node_45 rfl 0 rfl ?_
    obtain ⟨v11, ev11, hf⟩ := hm_bind hf
    refine hm_getI C F_4 1 (by decide) rfl k_159 d_R_node_46 ev11 ?_
    refine hm_iconst (v := (1 : Int32)) C d_R_node_49 (by decide) ?_
    refine hm_isub C d_R_node_50 ?_
    exact hm_iret C hr hlk d_R_node_51 hf
  · have hf := hm_ifp hf z3
    refine hm_bipush (v := (-3 : Int32)) C d_R_node_14 (by decide) ?_
    exact hm_iret C hr hlk d_R_node_16 hf
set_option maxRecDepth 20000 in
theorem c_R_node {E : hm_E} {l : Launch} {F : Nat} {r : Int32} {h h' : hm_T} {x0 : Nat} (hf : f_R_node F x0 h = some (r, h')) : hm_M E l y_R_node prog_6_method_6_code 1 (some .int) 0 0 [.ref x0] h (some (.int r)) h' :=
  hm_enter (by decide +kernel) (Nat.le_of_ble_eq_true rfl) (m_f_R_node hf) (fun p e R s m below meth c C hr hlk hin => w_f_R_node C hr hlk hf)
def f_R_arc (F : Nat) (x0 : Nat) (x1 : Int32) (x2 : Int32) (x3 : Int32) (h : hm_T) : Option (Int32 × hm_T) :=
  (hm_pi 4 25 0 h x0 (0 : Int32)).bind (fun h1 => (hm_is 4 25 h1 x0).bind (fun u2 => hm_and (f_R_noPair F x0 x1 x2 h1) (fun v3 h3 => (if v3 = 0 then (if x1 = x2 then some ((-2 : Int32), h3) else hm_and (f_R_in F x3 (1 : Int32) (1000 : Int32) h3) (fun v6 h6 => (if v6 = 0 then some ((-2 : Int32), h6) else (hm_gr 4 25 2 h6 x0).bind (fun a8 => (hm_ild h6 a8 (((16 : Int32) * x1) + x2)).bind (fun v9 => (hm_gr 4 25 2 h6 x0).bind (fun a10 => (hm_ist h6 a10 (((16 : Int32) * x1) + x2) x3).bind (fun h11 => (hm_pz 4 25 5 h11 x0 (0 : Int32)).bind (fun h12 => (if v9 = (1000000 : Int32) then some ((-1 : Int32), h12) else some (v9, h12)))))))))) else some ((-2 : Int32), h3)))))
theorem m_f_R_arc {F : Nat} {r : Int32} {h h' : hm_T} {x0 : Nat} {x1 : Int32} {x2 : Int32} {x3 : Int32} (hf : f_R_arc F x0 x1 x2 x3 h = some (r, h')) : hm_le h h' := by
  unfold f_R_arc at hf
  obtain ⟨h1, eh1, hf⟩ := hm_bind hf
  have mh1 := hm_le.pi eh1
  obtain ⟨u2, eu2, hf⟩ := hm_bind hf
  obtain ⟨v3, h3, eh3, hf⟩ := hm_and_of hf
  have mh3 := m_f_R_noPair eh3
  by_cases z4 : v3 = 0
  · have hf := hm_ifp hf z4
    by_cases z5 : x1 = x2
    · have hf := hm_ifp hf z5
      exact mh1.tr (mh3.tr ((hm_le.ret hf)))
    · have hf := hm_ifn hf z5
      obtain ⟨v6, h6, eh6, hf⟩ := hm_and_of hf
      have mh6 := m_f_R_in eh6
      by_cases z7 : v6 = 0
      · have hf := hm_ifp hf z7
        exact mh1.tr (mh3.tr (mh6.tr ((hm_le.ret hf))))
      · have hf := hm_ifn hf z7
        obtain ⟨a8, ea8, hf⟩ := hm_bind hf
        obtain ⟨v9, ev9, hf⟩ := hm_bind hf
        obtain ⟨a10, ea10, hf⟩ := hm_bind hf
        obtain ⟨h11, eh11, hf⟩ := hm_bind hf
        have mh11 := hm_le.ist eh11
        obtain ⟨h12, eh12, hf⟩ := hm_bind hf
        have mh12 := hm_le.pz eh12
        by_cases z13 : v9 = (1000000 : Int32)
        · have hf := hm_ifp hf z13
          exact mh1.tr (mh3.tr (mh6.tr (mh11.tr (mh12.tr ((hm_le.ret hf))))))
        · have hf := hm_ifn hf z13
          exact mh1.tr (mh3.tr (mh6.tr (mh11.tr (mh12.tr ((hm_le.ret hf))))))
  · have hf := hm_ifn hf z4
    exact mh1.tr (mh3.tr ((hm_le.ret hf)))
set_option maxRecDepth 20000 in
set_option maxHeartbeats 1000000 in
theorem w_f_R_arc {p : Program} {l : Launch} {e : Env} {R : Room} {s : State} {m : MethodId} {args : Array Value} {below : List Frame} {meth : Method} {c : Code} {E : hm_E} {n0 s0 F : Nat} {r : Int32} {h h' : hm_T} {x0 : Nat} {x1 : Int32} {x2 : Int32} {x3 : Int32} (C : hm_C E prog_6_method_7_code 5 "DistanceLabelsModel" 3 65 n0 s0 (hm_n h') (hm_s h') p R s m args c) (hr : meth.sig.returnType = (some .int)) (hlk : meth.locks = false) (hf : f_R_arc F x0 x1 x2 x3 h = some (r, h')) : hm_G E 5 n0 s0 (hm_n h') (hm_s h') p l e R s m args below meth c (MQ below (hm_Qc E (some (.int r)) h') args s (hm_n h' - n0) (hm_s h' - s0) (fun q => E.2.2 ≤ q)) 0 [(0, .ref x0), (1, .int x1), (2, .int x2), (3, .int x3)] [] h := by
  unfold f_R_arc at hf
  refine hm_aload_n C d_R_arc_0 rfl 0 rfl ?_
  refine hm_iconst (v := (0 : Int32)) C d_R_arc_1 (by decide) ?_
  obtain ⟨h1, eh1, hf⟩ := hm_bind hf
  refine hm_putI C F_4 0 (by decide) rfl k_158 (Or.inl rfl) rfl d_R_arc_2 eh1 ?_
  refine hm_aload_n C d_R_arc_5 rfl 0 rfl ?_
  refine hm_iload_n C d_R_arc_6 rfl 1 rfl ?_
  refine hm_iload_n C d_R_arc_7 rfl 2 rfl ?_
  obtain ⟨u2, eu2, hf⟩ := hm_bind hf
  obtain ⟨v3, h3, eh3, hf⟩ := hm_and_of hf
  refine hm_callV (vs := [.int x1, .int x2]) (st := []) (sb := [.int v3]) C (c_R_noPair eh3) Y_R_noPair F_4 eu2 k_167 k_168 k_166 (by decide) (by decide) rfl (Nat.le_of_ble_eq_true rfl) d_R_arc_8 rfl rfl ?_
  refine hm_if_ne (tgt := 30) C d_R_arc_11 (by decide) (fun z4 => ?_) (fun z4 => ?_)
  · have hf := hm_ifn hf z4
    refine hm_bipush (v := (-2 : Int32)) C d_R_arc_30 (by decide) ?_
    exact hm_iret C hr hlk d_R_arc_32 hf
  · have hf := hm_ifp hf z4
    refine hm_iload_n C d_R_arc_14 rfl 1 rfl ?_
    refine hm_iload_n C d_R_arc_15 rfl 2 rfl ?_
    refine hm_icmp_eq (tgt := 30) C d_R_arc_16 (by decide) (fun z5 => ?_) (fun z5 => ?_)
    · have hf := hm_ifp hf z5
      refine hm_bipush (v := (-2 : Int32)) C d_R_arc_30 (by decide) ?_
      exact hm_iret C hr hlk d_R_arc_32 hf
    · have hf := hm_ifn hf z5
      refine hm_iload_n C d_R_arc_19 rfl 3 rfl ?_
      refine hm_iconst (v := (1 : Int32)) C d_R_arc_20 (by decide) ?_
      refine hm_sipush (v := (1000 : Int32)) C d_R_arc_21 (by decide) ?_
      obtain ⟨v6, h6, eh6, hf⟩ := hm_and_of hf
      refine hm_callS (vs := [.int x3, .int (1 : Int32), .int (1000 : Int32)]) (st := []) (sb := [.int v6]) C (c_R_in eh6) Y_R_in k_161 k_160 (by decide) (by decide) rfl (Nat.le_of_ble_eq_true rfl) d_R_arc_24 rfl rfl ?_
      refine hm_if_ne (tgt := 33) C d_R_arc_27 (by decide) (fun z7 => ?_) (fun z7 => ?_)
      · have hf := hm_ifn hf z7
        refine hm_aload_n C d_R_arc_33 rfl 0 rfl ?_
        obtain ⟨a8, ea8, hf⟩ := hm_bind hf
        refine hm_getR C F_4 2 (by decide) rfl k_138 d_R_arc_34 ea8 ?_
        refine hm_bipush (v := (16 : Int32)) C d_R_arc_37 (by decide) ?_
        refine hm_iload_n C d_R_arc_39 rfl 1 rfl ?_
        refine hm_imul C d_R_arc_40 ?_
        refine hm_iload_n C d_R_arc_41 rfl 2 rfl ?_
        refine hm_iadd C d_R_arc_42 ?_
        obtain ⟨v9, ev9, hf⟩ := hm_bind hf
        refine hm_iaload C d_R_arc_43 ev9 ?_
        refine hm_istore (lv' := [(4, .int v9), (0, .ref x0), (1, .int x1), (2, .int x2), (3, .int x3)]) C d_R_arc_44 (by decide) rfl ?_
        refine hm_aload_n C d_R_arc_46 rfl 1 rfl ?_
        obtain ⟨a10, ea10, hf⟩ := hm_bind hf
        refine hm_getR C F_4 2 (by decide) rfl k_138 d_R_arc_47 ea10 ?_
        refine hm_bipush (v := (16 : Int32)) C d_R_arc_50 (by decide) ?_
        refine hm_iload_n C d_R_arc_52 rfl 2 rfl ?_
        refine hm_imul C d_R_arc_53 ?_
        refine hm_iload_n C d_R_arc_54 rfl 3 rfl ?_
        refine hm_iadd C d_R_arc_55 ?_
        refine hm_iload_n C d_R_arc_56 rfl 4 rfl ?_
        obtain ⟨h11, eh11, hf⟩ := hm_bind hf
        refine hm_iastore C d_R_arc_57 eh11 ?_
        refine hm_aload_n C d_R_arc_58 rfl 1 rfl ?_
        refine hm_iconst (v := (0 : Int32)) C d_R_arc_59 (by decide) ?_
        obtain ⟨h12, eh12, hf⟩ := hm_bind hf
        refine hm_putZ C F_4 5 (by decide) rfl k_165 (Or.inl rfl) rfl d_R_arc_60 eh12 ?_
        refine hm_iload C d_R_arc_63 0 rfl ?_
        refine hm_ldc (v := (1000000 : Int32)) C k_139 d_R_arc_65 ?_
        refine hm_icmp_ne (tgt := 74) C d_R_arc_67 (by decide) (fun z13 => ?_) (fun z13 => ?_)
        · have hf := hm_ifn hf z13
          refine hm_iload C d_R_arc_74 0 rfl ?_
          exact hm_iret C hr hlk d_R_arc_76 hf
        · have hf := hm_ifp hf z13
          refine hm_iconst (v := (-1 : Int32)) C d_R_arc_70 (by decide) ?_
          refine hm_goto (tgt := 76) C d_R_arc_71 (by decide) ?_
          exact hm_iret C hr hlk d_R_arc_76 hf
      · have hf := hm_ifp hf z7
        refine hm_bipush (v := (-2 : Int32)) C d_R_arc_30 (by decide) ?_
        exact hm_iret C hr hlk d_R_arc_32 hf
set_option maxRecDepth 20000 in
theorem c_R_arc {E : hm_E} {l : Launch} {F : Nat} {r : Int32} {h h' : hm_T} {x0 : Nat} {x1 : Int32} {x2 : Int32} {x3 : Int32} (hf : f_R_arc F x0 x1 x2 x3 h = some (r, h')) : hm_M E l y_R_arc prog_6_method_7_code 5 (some .int) 3 65 [.ref x0, .int x1, .int x2, .int x3] h (some (.int r)) h' :=
  hm_enter (by decide +kernel) (Nat.le_of_ble_eq_true rfl) (m_f_R_arc hf) (fun p e R s m below meth c C hr hlk hin => w_f_R_arc C hr hlk hf)
def f_R_lose (F : Nat) (x0 : Nat) (x1 : Int32) (x2 : Int32) (h : hm_T) : Option (Int32 × hm_T) :=
  (hm_pi 4 25 0 h x0 (0 : Int32)).bind (fun h1 => (hm_is 4 25 h1 x0).bind (fun u2 => hm_and (f_R_noPair F x0 x1 x2 h1) (fun v3 h3 => (if v3 = 0 then (if x1 = x2 then some ((-2 : Int32), h3) else (hm_gr 4 25 2 h3 x0).bind (fun a6 => (hm_ild h3 a6 (((16 : Int32) * x1) + x2)).bind (fun v7 => (if v7 = (1000000 : Int32) then some ((-1 : Int32), h3) else (hm_gr 4 25 2 h3 x0).bind (fun a9 => (hm_ist h3 a9 (((16 : Int32) * x1) + x2) (1000000 : Int32)).bind (fun h10 => (hm_pz 4 25 5 h10 x0 (0 : Int32)).bind (fun h11 => some (v7, h11)))))))) else some ((-2 : Int32), h3)))))
theorem m_f_R_lose {F : Nat} {r : Int32} {h h' : hm_T} {x0 : Nat} {x1 : Int32} {x2 : Int32} (hf : f_R_lose F x0 x1 x2 h = some (r, h')) : hm_le h h' := by
  unfold f_R_lose at hf
  obtain ⟨h1, eh1, hf⟩ := hm_bind hf
  have mh1 := hm_le.pi eh1
  obtain ⟨u2, eu2, hf⟩ := hm_bind hf
  obtain ⟨v3, h3, eh3, hf⟩ := hm_and_of hf
  have mh3 := m_f_R_noPair eh3
  by_cases z4 : v3 = 0
  · have hf := hm_ifp hf z4
    by_cases z5 : x1 = x2
    · have hf := hm_ifp hf z5
      exact mh1.tr (mh3.tr ((hm_le.ret hf)))
    · have hf := hm_ifn hf z5
      obtain ⟨a6, ea6, hf⟩ := hm_bind hf
      obtain ⟨v7, ev7, hf⟩ := hm_bind hf
      by_cases z8 : v7 = (1000000 : Int32)
      · have hf := hm_ifp hf z8
        exact mh1.tr (mh3.tr ((hm_le.ret hf)))
      · have hf := hm_ifn hf z8
        obtain ⟨a9, ea9, hf⟩ := hm_bind hf
        obtain ⟨h10, eh10, hf⟩ := hm_bind hf
        have mh10 := hm_le.ist eh10
        obtain ⟨h11, eh11, hf⟩ := hm_bind hf
        have mh11 := hm_le.pz eh11
        exact mh1.tr (mh3.tr (mh10.tr (mh11.tr ((hm_le.ret hf)))))
  · have hf := hm_ifn hf z4
    exact mh1.tr (mh3.tr ((hm_le.ret hf)))
set_option maxRecDepth 20000 in
set_option maxHeartbeats 1000000 in
theorem w_f_R_lose {p : Program} {l : Launch} {e : Env} {R : Room} {s : State} {m : MethodId} {args : Array Value} {below : List Frame} {meth : Method} {c : Code} {E : hm_E} {n0 s0 F : Nat} {r : Int32} {h h' : hm_T} {x0 : Nat} {x1 : Int32} {x2 : Int32} (C : hm_C E prog_6_method_8_code 4 "DistanceLabelsModel" 3 65 n0 s0 (hm_n h') (hm_s h') p R s m args c) (hr : meth.sig.returnType = (some .int)) (hlk : meth.locks = false) (hf : f_R_lose F x0 x1 x2 h = some (r, h')) : hm_G E 4 n0 s0 (hm_n h') (hm_s h') p l e R s m args below meth c (MQ below (hm_Qc E (some (.int r)) h') args s (hm_n h' - n0) (hm_s h' - s0) (fun q => E.2.2 ≤ q)) 0 [(0, .ref x0), (1, .int x1), (2, .int x2)] [] h := by
  unfold f_R_lose at hf
  refine hm_aload_n C d_R_lose_0 rfl 0 rfl ?_
  refine hm_iconst (v := (0 : Int32)) C d_R_lose_1 (by decide) ?_
  obtain ⟨h1, eh1, hf⟩ := hm_bind hf
  refine hm_putI C F_4 0 (by decide) rfl k_158 (Or.inl rfl) rfl d_R_lose_2 eh1 ?_
  refine hm_aload_n C d_R_lose_5 rfl 0 rfl ?_
  refine hm_iload_n C d_R_lose_6 rfl 1 rfl ?_
  refine hm_iload_n C d_R_lose_7 rfl 2 rfl ?_
  obtain ⟨u2, eu2, hf⟩ := hm_bind hf
  obtain ⟨v3, h3, eh3, hf⟩ := hm_and_of hf
  refine hm_callV (vs := [.int x1, .int x2]) (st := []) (sb := [.int v3]) C (c_R_noPair eh3) Y_R_noPair F_4 eu2 k_167 k_168 k_166 (by decide) (by decide) rfl (Nat.le_of_ble_eq_true rfl) d_R_lose_8 rfl rfl ?_
  refine hm_if_ne (tgt := 19) C d_R_lose_11 (by decide) (fun z4 => ?_) (fun z4 => ?_)
  · have hf := hm_ifn hf z4
    refine hm_bipush (v := (-2 : Int32)) C d_R_lose_19 (by decide) ?_
    exact hm_iret C hr hlk d_R_lose_21 hf
  · have hf := hm_ifp hf z4
    refine hm_iload_n C d_R_lose_14 rfl 1 rfl ?_
    refine hm_iload_n C d_R_lose_15 rfl 2 rfl ?_
    refine hm_icmp_ne (tgt := 22) C d_R_lose_16 (by decide) (fun z5 => ?_) (fun z5 => ?_)
    · have hf := hm_ifn hf z5
      refine hm_aload_n C d_R_lose_22 rfl 0 rfl ?_
      obtain ⟨a6, ea6, hf⟩ := hm_bind hf
      refine hm_getR C F_4 2 (by decide) rfl k_138 d_R_lose_23 ea6 ?_
      refine hm_bipush (v := (16 : Int32)) C d_R_lose_26 (by decide) ?_
      refine hm_iload_n C d_R_lose_28 rfl 1 rfl ?_
      refine hm_imul C d_R_lose_29 ?_
      refine hm_iload_n C d_R_lose_30 rfl 2 rfl ?_
      refine hm_iadd C d_R_lose_31 ?_
      obtain ⟨v7, ev7, hf⟩ := hm_bind hf
      refine hm_iaload C d_R_lose_32 ev7 ?_
      refine hm_istore_n (lv' := [(3, .int v7), (0, .ref x0), (1, .int x1), (2, .int x2)]) C d_R_lose_33 rfl (by decide) rfl ?_
      refine hm_iload_n C d_R_lose_34 rfl 0 rfl ?_
      refine hm_ldc (v := (1000000 : Int32)) C k_139 d_R_lose_35 ?_
      refine hm_icmp_ne (tgt := 42) C d_R_lose_37 (by decide) (fun z8 => ?_) (fun z8 => ?_)
      · have hf := hm_ifn hf z8
        refine hm_aload_n C d_R_lose_42 rfl 1 rfl ?_
        obtain ⟨a9, ea9, hf⟩ := hm_bind hf
        refine hm_getR C F_4 2 (by decide) rfl k_138 d_R_lose_43 ea9 ?_
        refine hm_bipush (v := (16 : Int32)) C d_R_lose_46 (by decide) ?_
        refine hm_iload_n C d_R_lose_48 rfl 2 rfl ?_
        refine hm_imul C d_R_lose_49 ?_
        refine hm_iload_n C d_R_lose_50 rfl 3 rfl ?_
        refine hm_iadd C d_R_lose_51 ?_
        refine hm_ldc (v := (1000000 : Int32)) C k_139 d_R_lose_52 ?_
        obtain ⟨h10, eh10, hf⟩ := hm_bind hf
        refine hm_iastore C d_R_lose_54 eh10 ?_
        refine hm_aload_n C d_R_lose_55 rfl 1 rfl ?_
        refine hm_iconst (v := (0 : Int32)) C d_R_lose_56 (by decide) ?_
        obtain ⟨h11, eh11, hf⟩ := hm_bind hf
        refine hm_putZ C F_4 5 (by decide) rfl k_165 (Or.inl rfl) rfl d_R_lose_57 eh11 ?_
        refine hm_iload_n C d_R_lose_60 rfl 0 rfl ?_
        exact hm_iret C hr hlk d_R_lose_61 hf
      · have hf := hm_ifp hf z8
        refine hm_iconst (v := (-1 : Int32)) C d_R_lose_40 (by decide) ?_
        exact hm_iret C hr hlk d_R_lose_41 hf
    · have hf := hm_ifp hf z5
      refine hm_bipush (v := (-2 : Int32)) C d_R_lose_19 (by decide) ?_
      exact hm_iret C hr hlk d_R_lose_21 hf
set_option maxRecDepth 20000 in
theorem c_R_lose {E : hm_E} {l : Launch} {F : Nat} {r : Int32} {h h' : hm_T} {x0 : Nat} {x1 : Int32} {x2 : Int32} (hf : f_R_lose F x0 x1 x2 h = some (r, h')) : hm_M E l y_R_lose prog_6_method_8_code 4 (some .int) 3 65 [.ref x0, .int x1, .int x2] h (some (.int r)) h' :=
  hm_enter (by decide +kernel) (Nat.le_of_ble_eq_true rfl) (m_f_R_lose hf) (fun p e R s m below meth c C hr hlk hin => w_f_R_lose C hr hlk hf)
def g_R_rankOf_2 (F : Nat) (k2 : Nat → Int32 → Int32 → hm_T → Option (Int32 × hm_T)) (x0 : Nat) (x1 : Int32) (x2 : Int32) (h : hm_T) : Option (Int32 × hm_T) :=
  (hm_gr 4 25 3 h x0).bind (fun a1 => (hm_ild h a1 x2).bind (fun v2 => (if v2 = x1 then some (x2, h) else k2 x0 x1 (x2 + (1 : Int32)) h)))
def f_R_rankOf_2 (F : Nat) : Nat → Nat → Int32 → Int32 → hm_T → Option (Int32 × hm_T)
  | 0 => fun _ _ _ _ => none
  | n + 1 => g_R_rankOf_2 F (f_R_rankOf_2 F n)
def f_R_rankOf (F : Nat) (x0 : Nat) (x1 : Int32) (h : hm_T) : Option (Int32 × hm_T) :=
  f_R_rankOf_2 F F x0 x1 (0 : Int32) h
theorem m_g_R_rankOf_2 {F : Nat} {r : Int32} {h h' : hm_T} {x0 : Nat} {x1 : Int32} {x2 : Int32} {k2 : Nat → Int32 → Int32 → hm_T → Option (Int32 × hm_T)} (hk2 : ∀ (y0 : Nat) (y1 : Int32) (y2 : Int32) (g : hm_T), k2 y0 y1 y2 g = some (r, h') → hm_le g h') (hf : g_R_rankOf_2 F k2 x0 x1 x2 h = some (r, h')) : hm_le h h' := by
  unfold g_R_rankOf_2 at hf
  obtain ⟨a1, ea1, hf⟩ := hm_bind hf
  obtain ⟨v2, ev2, hf⟩ := hm_bind hf
  by_cases z3 : v2 = x1
  · have hf := hm_ifp hf z3
    exact (hm_le.ret hf)
  · have hf := hm_ifn hf z3
    exact (hk2 _ _ _ _ hf)
theorem m_R_rankOf_2L {F : Nat} {r : Int32} {h' : hm_T} : ∀ (N : Nat) (x0 : Nat) (x1 : Int32) (x2 : Int32) (h : hm_T), f_R_rankOf_2 F N x0 x1 x2 h = some (r, h') → hm_le h h' := by
  intro N
  induction N with
  | zero => intro _ _ _ _ hf; cases hf
  | succ n ih => intro x0 x1 x2 h hf; exact m_g_R_rankOf_2 ih hf
theorem m_f_R_rankOf {F : Nat} {r : Int32} {h h' : hm_T} {x0 : Nat} {x1 : Int32} (hf : f_R_rankOf F x0 x1 h = some (r, h')) : hm_le h h' := by
  unfold f_R_rankOf at hf
  exact (m_R_rankOf_2L _ _ _ _ _ hf)
set_option maxRecDepth 20000 in
set_option maxHeartbeats 1000000 in
theorem w_g_R_rankOf_2 {p : Program} {l : Launch} {e : Env} {R : Room} {s : State} {m : MethodId} {args : Array Value} {below : List Frame} {meth : Method} {c : Code} {E : hm_E} {n0 s0 F : Nat} {r : Int32} {h h' : hm_T} {x0 : Nat} {x1 : Int32} {x2 : Int32} {k2 : Nat → Int32 → Int32 → hm_T → Option (Int32 × hm_T)} (C : hm_C E prog_6_method_9_code 3 "DistanceLabelsModel" 0 0 n0 s0 (hm_n h') (hm_s h') p R s m args c) (hr : meth.sig.returnType = (some .int)) (hlk : meth.locks = false) (hk2 : ∀ (y0 : Nat) (y1 : Int32) (y2 : Int32) (g : hm_T), k2 y0 y1 y2 g = some (r, h') → hm_G E 3 n0 s0 (hm_n h') (hm_s h') p l e R s m args below meth c (MQ below (hm_Qc E (some (.int r)) h') args s (hm_n h' - n0) (hm_s h' - s0) (fun q => E.2.2 ≤ q)) 2 [(0, .ref y0), (1, .int y1), (2, .int y2)] [] g) (hf : g_R_rankOf_2 F k2 x0 x1 x2 h = some (r, h')) : hm_G E 3 n0 s0 (hm_n h') (hm_s h') p l e R s m args below meth c (MQ below (hm_Qc E (some (.int r)) h') args s (hm_n h' - n0) (hm_s h' - s0) (fun q => E.2.2 ≤ q)) 2 [(0, .ref x0), (1, .int x1), (2, .int x2)] [] h := by
  unfold g_R_rankOf_2 at hf
  refine hm_aload_n C d_R_rankOf_2 rfl 0 rfl ?_
  obtain ⟨a1, ea1, hf⟩ := hm_bind hf
  refine hm_getR C F_4 3 (by decide) rfl k_141 d_R_rankOf_3 ea1 ?_
  refine hm_iload_n C d_R_rankOf_6 rfl 2 rfl ?_
  obtain ⟨v2, ev2, hf⟩ := hm_bind hf
  refine hm_iaload C d_R_rankOf_7 ev2 ?_
  refine hm_iload_n C d_R_rankOf_8 rfl 1 rfl ?_
  refine hm_icmp_eq (tgt := 18) C d_R_rankOf_9 (by decide) (fun z3 => ?_) (fun z3 => ?_)
  · have hf := hm_ifp hf z3
    refine hm_iload_n C d_R_rankOf_18 rfl 2 rfl ?_
    exact hm_iret C hr hlk d_R_rankOf_19 hf
  · have hf := hm_ifn hf z3
    refine hm_iinc (v := (x2 + (1 : Int32))) (lv' := [(2, .int (x2 + (1 : Int32))), (0, .ref x0), (1, .int x1)]) C d_R_rankOf_12 2 rfl rfl (by decide) rfl ?_
    refine hm_goto (tgt := 2) C d_R_rankOf_15 (by decide) ?_
    refine hm_sub (lv' := [(0, .ref x0), (1, .int x1), (2, .int (x2 + (1 : Int32)))]) [1, 2, 0] rfl ?_
    exact hk2 _ _ _ _ hf
theorem w_R_rankOf_2L {p : Program} {l : Launch} {e : Env} {R : Room} {s : State} {m : MethodId} {args : Array Value} {below : List Frame} {meth : Method} {c : Code} {E : hm_E} {n0 s0 F : Nat} {r : Int32} {h' : hm_T} (C : hm_C E prog_6_method_9_code 3 "DistanceLabelsModel" 0 0 n0 s0 (hm_n h') (hm_s h') p R s m args c) (hr : meth.sig.returnType = (some .int)) (hlk : meth.locks = false) : ∀ (N : Nat) (x0 : Nat) (x1 : Int32) (x2 : Int32) (h : hm_T), f_R_rankOf_2 F N x0 x1 x2 h = some (r, h') → hm_G E 3 n0 s0 (hm_n h') (hm_s h') p l e R s m args below meth c (MQ below (hm_Qc E (some (.int r)) h') args s (hm_n h' - n0) (hm_s h' - s0) (fun q => E.2.2 ≤ q)) 2 [(0, .ref x0), (1, .int x1), (2, .int x2)] [] h := by
  intro N
  induction N with
  | zero => intro _ _ _ _ hf; cases hf
  | succ n ih => intro x0 x1 x2 h hf; exact w_g_R_rankOf_2 C hr hlk ih hf
set_option maxRecDepth 20000 in
set_option maxHeartbeats 1000000 in
theorem w_f_R_rankOf {p : Program} {l : Launch} {e : Env} {R : Room} {s : State} {m : MethodId} {args : Array Value} {below : List Frame} {meth : Method} {c : Code} {E : hm_E} {n0 s0 F : Nat} {r : Int32} {h h' : hm_T} {x0 : Nat} {x1 : Int32} (C : hm_C E prog_6_method_9_code 3 "DistanceLabelsModel" 0 0 n0 s0 (hm_n h') (hm_s h') p R s m args c) (hr : meth.sig.returnType = (some .int)) (hlk : meth.locks = false) (hf : f_R_rankOf F x0 x1 h = some (r, h')) : hm_G E 3 n0 s0 (hm_n h') (hm_s h') p l e R s m args below meth c (MQ below (hm_Qc E (some (.int r)) h') args s (hm_n h' - n0) (hm_s h' - s0) (fun q => E.2.2 ≤ q)) 0 [(0, .ref x0), (1, .int x1)] [] h := by
  unfold f_R_rankOf at hf
  refine hm_iconst (v := (0 : Int32)) C d_R_rankOf_0 (by decide) ?_
  refine hm_istore_n (lv' := [(2, .int (0 : Int32)), (0, .ref x0), (1, .int x1)]) C d_R_rankOf_1 rfl (by decide) rfl ?_
  refine hm_sub (lv' := [(0, .ref x0), (1, .int x1), (2, .int (0 : Int32))]) [1, 2, 0] rfl ?_
  exact w_R_rankOf_2L C hr hlk _ _ _ _ _ hf
set_option maxRecDepth 20000 in
theorem c_R_rankOf {E : hm_E} {l : Launch} {F : Nat} {r : Int32} {h h' : hm_T} {x0 : Nat} {x1 : Int32} (hf : f_R_rankOf F x0 x1 h = some (r, h')) : hm_M E l y_R_rankOf prog_6_method_9_code 3 (some .int) 0 0 [.ref x0, .int x1] h (some (.int r)) h' :=
  hm_enter (by decide +kernel) (Nat.le_of_ble_eq_true rfl) (m_f_R_rankOf hf) (fun p e R s m below meth c C hr hlk hin => w_f_R_rankOf C hr hlk hf)
def f_R_rank_108 (F : Nat) (x0 : Nat) (x1 : Int32) (x2 : Int32) (x3 : Int32) (h : hm_T) : Option (Int32 × hm_T) :=
  (hm_gr 4 25 3 h x0).bind (fun a1 => (hm_ist h a1 x2 x1).bind (fun h2 => (hm_pz 4 25 5 h2 x0 (0 : Int32)).bind (fun h3 => some (x3, h3))))
def g_R_rank_80 (F : Nat) (k80 : Nat → Int32 → Int32 → Int32 → Int32 → hm_T → Option (Int32 × hm_T)) (x0 : Nat) (x1 : Int32) (x2 : Int32) (x3 : Int32) (x4 : Int32) (h : hm_T) : Option (Int32 × hm_T) :=
  (if x4 ≤ x2 then f_R_rank_108 F x0 x1 x2 x3 h else (hm_gr 4 25 3 h x0).bind (fun a2 => (hm_gr 4 25 3 h x0).bind (fun a3 => (hm_ild h a3 (x4 - (1 : Int32))).bind (fun v4 => (hm_ist h a2 x4 v4).bind (fun h5 => k80 x0 x1 x2 x3 (x4 + (-1 : Int32)) h5)))))
def f_R_rank_80 (F : Nat) : Nat → Nat → Int32 → Int32 → Int32 → Int32 → hm_T → Option (Int32 × hm_T)
  | 0 => fun _ _ _ _ _ _ => none
  | n + 1 => g_R_rank_80 F (f_R_rank_80 F n)
def f_R_rank_72 (F : Nat) (x0 : Nat) (x1 : Int32) (x2 : Int32) (x3 : Int32) (h : hm_T) : Option (Int32 × hm_T) :=
  (hm_gi 4 25 1 h x0).bind (fun v1 => f_R_rank_80 F F x0 x1 x2 x3 (v1 - (1 : Int32)) h)
def g_R_rank_39 (F : Nat) (k39 : Nat → Int32 → Int32 → Int32 → Int32 → hm_T → Option (Int32 × hm_T)) (x0 : Nat) (x1 : Int32) (x2 : Int32) (x3 : Int32) (x4 : Int32) (h : hm_T) : Option (Int32 × hm_T) :=
  (hm_gi 4 25 1 h x0).bind (fun v1 => (if (v1 - (1 : Int32)) ≤ x4 then f_R_rank_72 F x0 x1 x2 x3 h else (hm_gr 4 25 3 h x0).bind (fun a3 => (hm_gr 4 25 3 h x0).bind (fun a4 => (hm_ild h a4 (x4 + (1 : Int32))).bind (fun v5 => (hm_ist h a3 x4 v5).bind (fun h6 => k39 x0 x1 x2 x3 (x4 + (1 : Int32)) h6))))))
def f_R_rank_39 (F : Nat) : Nat → Nat → Int32 → Int32 → Int32 → Int32 → hm_T → Option (Int32 × hm_T)
  | 0 => fun _ _ _ _ _ _ => none
  | n + 1 => g_R_rank_39 F (f_R_rank_39 F n)
def f_R_rank (F : Nat) (x0 : Nat) (x1 : Int32) (x2 : Int32) (h : hm_T) : Option (Int32 × hm_T) :=
  (hm_pi 4 25 0 h x0 (0 : Int32)).bind (fun h1 => (hm_is 4 25 h1 x0).bind (fun u2 => hm_and (f_R_noNode F x0 x1 h1) (fun v3 h3 => (if v3 = 0 then (hm_gi 4 25 1 h3 x0).bind (fun v5 => hm_and (f_R_in F x2 (0 : Int32) (v5 - (1 : Int32)) h3) (fun v6 h6 => (if v6 = 0 then some ((-2 : Int32), h6) else (hm_is 4 25 h6 x0).bind (fun u8 => hm_and (f_R_rankOf F x0 x1 h6) (fun v9 h9 => f_R_rank_39 F F x0 x1 x2 v9 v9 h9))))) else some ((-2 : Int32), h3)))))
theorem m_f_R_rank_108 {F : Nat} {r : Int32} {h h' : hm_T} {x0 : Nat} {x1 : Int32} {x2 : Int32} {x3 : Int32} (hf : f_R_rank_108 F x0 x1 x2 x3 h = some (r, h')) : hm_le h h' := by
  unfold f_R_rank_108 at hf
  obtain ⟨a1, ea1, hf⟩ := hm_bind hf
  obtain ⟨h2, eh2, hf⟩ := hm_bind hf
  have mh2 := hm_le.ist eh2
  obtain ⟨h3, eh3, hf⟩ := hm_bind hf
  have mh3 := hm_le.pz eh3
  exact mh2.tr (mh3.tr ((hm_le.ret hf)))
theorem m_g_R_rank_80 {F : Nat} {r : Int32} {h h' : hm_T} {x0 : Nat} {x1 : Int32} {x2 : Int32} {x3 : Int32} {x4 : Int32} {k80 : Nat → Int32 → Int32 → Int32 → Int32 → hm_T → Option (Int32 × hm_T)} (hk80 : ∀ (y0 : Nat) (y1 : Int32) (y2 : Int32) (y3 : Int32) (y4 : Int32) (g : hm_T), k80 y0 y1 y2 y3 y4 g = some (r, h') → hm_le g h') (hf : g_R_rank_80 F k80 x0 x1 x2 x3 x4 h = some (r, h')) : hm_le h h' := by
  unfold g_R_rank_80 at hf
  by_cases z1 : x4 ≤ x2
  · have hf := hm_ifp hf z1
    exact (m_f_R_rank_108 hf)
  · have hf := hm_ifn hf z1
    obtain ⟨a2, ea2, hf⟩ := hm_bind hf
    obtain ⟨a3, ea3, hf⟩ := hm_bind hf
    obtain ⟨v4, ev4, hf⟩ := hm_bind hf
    obtain ⟨h5, eh5, hf⟩ := hm_bind hf
    have mh5 := hm_le.ist eh5
    exact mh5.tr ((hk80 _ _ _ _ _ _ hf))
theorem m_R_rank_80L {F : Nat} {r : Int32} {h' : hm_T} : ∀ (N : Nat) (x0 : Nat) (x1 : Int32) (x2 : Int32) (x3 : Int32) (x4 : Int32) (h : hm_T), f_R_rank_80 F N x0 x1 x2 x3 x4 h = some (r, h') → hm_le h h' := by
  intro N
  induction N with
  | zero => intro _ _ _ _ _ _ hf; cases hf
  | succ n ih => intro x0 x1 x2 x3 x4 h hf; exact m_g_R_rank_80 ih hf
theorem m_f_R_rank_72 {F : Nat} {r : Int32} {h h' : hm_T} {x0 : Nat} {x1 : Int32} {x2 : Int32} {x3 : Int32} (hf : f_R_rank_72 F x0 x1 x2 x3 h = some (r, h')) : hm_le h h' := by
  unfold f_R_rank_72 at hf
  obtain ⟨v1, ev1, hf⟩ := hm_bind hf
  exact (m_R_rank_80L _ _ _ _ _ _ _ hf)
theorem m_g_R_rank_39 {F : Nat} {r : Int32} {h h' : hm_T} {x0 : Nat} {x1 : Int32} {x2 : Int32} {x3 : Int32} {x4 : Int32} {k39 : Nat → Int32 → Int32 → Int32 → Int32 → hm_T → Option (Int32 × hm_T)} (hk39 : ∀ (y0 : Nat) (y1 : Int32) (y2 : Int32) (y3 : Int32) (y4 : Int32) (g : hm_T), k39 y0 y1 y2 y3 y4 g = some (r, h') → hm_le g h') (hf : g_R_rank_39 F k39 x0 x1 x2 x3 x4 h = some (r, h')) : hm_le h h' := by
  unfold g_R_rank_39 at hf
  obtain ⟨v1, ev1, hf⟩ := hm_bind hf
  by_cases z2 : (v1 - (1 : Int32)) ≤ x4
  · have hf := hm_ifp hf z2
    exact (m_f_R_rank_72 hf)
  · have hf := hm_ifn hf z2
    obtain ⟨a3, ea3, hf⟩ := hm_bind hf
    obtain ⟨a4, ea4, hf⟩ := hm_bind hf
    obtain ⟨v5, ev5, hf⟩ := hm_bind hf
    obtain ⟨h6, eh6, hf⟩ := hm_bind hf
    have mh6 := hm_le.ist eh6
    exact mh6.tr ((hk39 _ _ _ _ _ _ hf))
theorem m_R_rank_39L {F : Nat} {r : Int32} {h' : hm_T} : ∀ (N : Nat) (x0 : Nat) (x1 : Int32) (x2 : Int32) (x3 : Int32) (x4 : Int32) (h : hm_T), f_R_rank_39 F N x0 x1 x2 x3 x4 h = some (r, h') → hm_le h h' := by
  intro N
  induction N with
  | zero => intro _ _ _ _ _ _ hf; cases hf
  | succ n ih => intro x0 x1 x2 x3 x4 h hf; exact m_g_R_rank_39 ih hf
theorem m_f_R_rank {F : Nat} {r : Int32} {h h' : hm_T} {x0 : Nat} {x1 : Int32} {x2 : Int32} (hf : f_R_rank F x0 x1 x2 h = some (r, h')) : hm_le h h' := by
  unfold f_R_rank at hf
  obtain ⟨h1, eh1, hf⟩ := hm_bind hf
  have mh1 := hm_le.pi eh1
  obtain ⟨u2, eu2, hf⟩ := hm_bind hf
  obtain ⟨v3, h3, eh3, hf⟩ := hm_and_of hf
  have mh3 := m_f_R_noNode eh3
  by_cases z4 : v3 = 0
  · have hf := hm_ifp hf z4
    obtain ⟨v5, ev5, hf⟩ := hm_bind hf
    obtain ⟨v6, h6, eh6, hf⟩ := hm_and_of hf
    have mh6 := m_f_R_in eh6
    by_cases z7 : v6 = 0
    · have hf := hm_ifp hf z7
      exact mh1.tr (mh3.tr (mh6.tr ((hm_le.ret hf))))
    · have hf := hm_ifn hf z7
      obtain ⟨u8, eu8, hf⟩ := hm_bind hf
      obtain ⟨v9, h9, eh9, hf⟩ := hm_and_of hf
      have mh9 := m_f_R_rankOf eh9
      exact mh1.tr (mh3.tr (mh6.tr (mh9.tr ((m_R_rank_39L _ _ _ _ _ _ _ hf)))))
  · have hf := hm_ifn hf z4
    exact mh1.tr (mh3.tr ((hm_le.ret hf)))
set_option maxRecDepth 20000 in
set_option maxHeartbeats 1000000 in
theorem w_f_R_rank_108 {p : Program} {l : Launch} {e : Env} {R : Room} {s : State} {m : MethodId} {args : Array Value} {below : List Frame} {meth : Method} {c : Code} {E : hm_E} {n0 s0 F : Nat} {r : Int32} {h h' : hm_T} {x0 : Nat} {x1 : Int32} {x2 : Int32} {x3 : Int32} (C : hm_C E prog_6_method_10_code 5 "DistanceLabelsModel" 2 43 n0 s0 (hm_n h') (hm_s h') p R s m args c) (hr : meth.sig.returnType = (some .int)) (hlk : meth.locks = false) (hf : f_R_rank_108 F x0 x1 x2 x3 h = some (r, h')) : hm_G E 5 n0 s0 (hm_n h') (hm_s h') p l e R s m args below meth c (MQ below (hm_Qc E (some (.int r)) h') args s (hm_n h' - n0) (hm_s h' - s0) (fun q => E.2.2 ≤ q)) 108 [(0, .ref x0), (1, .int x1), (2, .int x2), (3, .int x3)] [] h := by
  unfold f_R_rank_108 at hf
  refine hm_aload_n C d_R_rank_108 rfl 0 rfl ?_
  obtain ⟨a1, ea1, hf⟩ := hm_bind hf
  refine hm_getR C F_4 3 (by decide) rfl k_141 d_R_rank_109 ea1 ?_
  refine hm_iload_n C d_R_rank_112 rfl 2 rfl ?_
  refine hm_iload_n C d_R_rank_113 rfl 1 rfl ?_
  obtain ⟨h2, eh2, hf⟩ := hm_bind hf
  refine hm_iastore C d_R_rank_114 eh2 ?_
  refine hm_aload_n C d_R_rank_115 rfl 0 rfl ?_
  refine hm_iconst (v := (0 : Int32)) C d_R_rank_116 (by decide) ?_
  obtain ⟨h3, eh3, hf⟩ := hm_bind hf
  refine hm_putZ C F_4 5 (by decide) rfl k_165 (Or.inl rfl) rfl d_R_rank_117 eh3 ?_
  refine hm_iload_n C d_R_rank_120 rfl 3 rfl ?_
  exact hm_iret C hr hlk d_R_rank_121 hf
set_option maxRecDepth 20000 in
set_option maxHeartbeats 1000000 in
theorem w_g_R_rank_80 {p : Program} {l : Launch} {e : Env} {R : Room} {s : State} {m : MethodId} {args : Array Value} {below : List Frame} {meth : Method} {c : Code} {E : hm_E} {n0 s0 F : Nat} {r : Int32} {h h' : hm_T} {x0 : Nat} {x1 : Int32} {x2 : Int32} {x3 : Int32} {x4 : Int32} {k80 : Nat → Int32 → Int32 → Int32 → Int32 → hm_T → Option (Int32 × hm_T)} (C : hm_C E prog_6_method_10_code 5 "DistanceLabelsModel" 2 43 n0 s0 (hm_n h') (hm_s h') p R s m args c) (hr : meth.sig.returnType = (some .int)) (hlk : meth.locks = false) (hk80 : ∀ (y0 : Nat) (y1 : Int32) (y2 : Int32) (y3 : Int32) (y4 : Int32) (g : hm_T), k80 y0 y1 y2 y3 y4 g = some (r, h') → hm_G E 5 n0 s0 (hm_n h') (hm_s h') p l e R s m args below meth c (MQ below (hm_Qc E (some (.int r)) h') args s (hm_n h' - n0) (hm_s h' - s0) (fun q => E.2.2 ≤ q)) 80 [(0, .ref y0), (1, .int y1), (2, .int y2), (3, .int y3), (4, .int y4)] [] g) (hf : g_R_rank_80 F k80 x0 x1 x2 x3 x4 h = some (r, h')) : hm_G E 5 n0 s0 (hm_n h') (hm_s h') p l e R s m args below meth c (MQ below (hm_Qc E (some (.int r)) h') args s (hm_n h' - n0) (hm_s h' - s0) (fun q => E.2.2 ≤ q)) 80 [(0, .ref x0), (1, .int x1), (2, .int x2), (3, .int x3), (4, .int x4)] [] h := by
  unfold g_R_rank_80 at hf
  refine hm_iload C d_R_rank_80 4 rfl ?_
  refine hm_iload_n C d_R_rank_82 rfl 2 rfl ?_
  refine hm_icmp_le (tgt := 108) C d_R_rank_83 (by decide) (fun z1 => ?_) (fun z1 => ?_)
  · have hf := hm_ifp hf z1
    refine hm_sub (lv' := [(0, .ref x0), (1, .int x1), (2, .int x2), (3, .int x3)]) [0, 1, 2, 3] rfl ?_
    exact w_f_R_rank_108 C hr hlk hf
  · have hf := hm_ifn hf z1
    refine hm_aload_n C d_R_rank_86 rfl 0 rfl ?_
    obtain ⟨a2, ea2, hf⟩ := hm_bind hf
    refine hm_getR C F_4 3 (by decide) rfl k_141 d_R_rank_87 ea2 ?_
    refine hm_iload C d_R_rank_90 4 rfl ?_
    refine hm_aload_n C d_R_rank_92 rfl 0 rfl ?_
    obtain ⟨a3, ea3, hf⟩ := hm_bind hf
    refine hm_getR C F_4 3 (by decide) rfl k_141 d_R_rank_93 ea3 ?_
    refine hm_iload C d_R_rank_96 4 rfl ?_
    refine hm_iconst (v := (1 : Int32)) C d_R_rank_98 (by decide) ?_
    refine hm_isub C d_R_rank_99 ?_
    obtain ⟨v4, ev4, hf⟩ := hm_bind hf
    refine hm_iaload C d_R_rank_100 ev4 ?_
    obtain ⟨h5, eh5, hf⟩ := hm_bind hf
    refine hm_iastore C d_R_rank_101 eh5 ?_
    refine hm_iinc (v := (x4 + (-1 : Int32))) (lv' := [(4, .int (x4 + (-1 : Int32))), (0, .ref x0), (1, .int x1), (2, .int x2), (3, .int x3)]) C d_R_rank_102 4 rfl rfl (by decide) rfl ?_
    refine hm_goto (tgt := 80) C d_R_rank_105 (by decide) ?_
    refine hm_sub (lv' := [(0, .ref x0), (1, .int x1), (2, .int x2), (3, .int x3), (4, .int (x4 + (-1 : Int32)))]) [1, 2, 3, 4, 0] rfl ?_
    exact hk80 _ _ _ _ _ _ hf
theorem w_R_rank_80L {p : Program} {l : Launch} {e : Env} {R : Room} {s : State} {m : MethodId} {args : Array Value} {below : List Frame} {meth : Method} {c : Code} {E : hm_E} {n0 s0 F : Nat} {r : Int32} {h' : hm_T} (C : hm_C E prog_6_method_10_code 5 "DistanceLabelsModel" 2 43 n0 s0 (hm_n h') (hm_s h') p R s m args c) (hr : meth.sig.returnType = (some .int)) (hlk : meth.locks = false) : ∀ (N : Nat) (x0 : Nat) (x1 : Int32) (x2 : Int32) (x3 : Int32) (x4 : Int32) (h : hm_T), f_R_rank_80 F N x0 x1 x2 x3 x4 h = some (r, h') → hm_G E 5 n0 s0 (hm_n h') (hm_s h') p l e R s m args below meth c (MQ below (hm_Qc E (some (.int r)) h') args s (hm_n h' - n0) (hm_s h' - s0) (fun q => E.2.2 ≤ q)) 80 [(0, .ref x0), (1, .int x1), (2, .int x2), (3, .int x3), (4, .int x4)] [] h := by
  intro N
  induction N with
  | zero => intro _ _ _ _ _ _ hf; cases hf
  | succ n ih => intro x0 x1 x2 x3 x4 h hf; exact w_g_R_rank_80 C hr hlk ih hf
set_option maxRecDepth 20000 in
set_option maxHeartbeats 1000000 in
theorem w_f_R_rank_72 {p : Program} {l : Launch} {e : Env} {R : Room} {s : State} {m : MethodId} {args : Array Value} {below : List Frame} {meth : Method} {c : Code} {E : hm_E} {n0 s0 F : Nat} {r : Int32} {h h' : hm_T} {x0 : Nat} {x1 : Int32} {x2 : Int32} {x3 : Int32} (C : hm_C E prog_6_method_10_code 5 "DistanceLabelsModel" 2 43 n0 s0 (hm_n h') (hm_s h') p R s m args c) (hr : meth.sig.returnType = (some .int)) (hlk : meth.locks = false) (hf : f_R_rank_72 F x0 x1 x2 x3 h = some (r, h')) : hm_G E 5 n0 s0 (hm_n h') (hm_s h') p l e R s m args below meth c (MQ below (hm_Qc E (some (.int r)) h') args s (hm_n h' - n0) (hm_s h' - s0) (fun q => E.2.2 ≤ q)) 72 [(0, .ref x0), (1, .int x1), (2, .int x2), (3, .int x3)] [] h := by
  unfold f_R_rank_72 at hf
  refine hm_aload_n C d_R_rank_72 rfl 0 rfl ?_
  obtain ⟨v1, ev1, hf⟩ := hm_bind hf
  refine hm_getI C F_4 1 (by decide) rfl k_159 d_R_rank_73 ev1 ?_
  refine hm_iconst (v := (1 : Int32)) C d_R_rank_76 (by decide) ?_
  refine hm_isub C d_R_rank_77 ?_
  refine hm_istore (lv' := [(4, .int (v1 - (1 : Int32))), (0, .ref x0), (1, .int x1), (2, .int x2), (3, .int x3)]) C d_R_rank_78 (by decide) rfl ?_
  refine hm_sub (lv' := [(0, .ref x0), (1, .int x1), (2, .int x2), (3, .int x3), (4, .int (v1 - (1 : Int32)))]) [1, 2, 3, 4, 0] rfl ?_
  exact w_R_rank_80L C hr hlk _ _ _ _ _ _ _ hf
set_option maxRecDepth 20000 in
set_option maxHeartbeats 1000000 in
theorem w_g_R_rank_39 {p : Program} {l : Launch} {e : Env} {R : Room} {s : State} {m : MethodId} {args : Array Value} {below : List Frame} {meth : Method} {c : Code} {E : hm_E} {n0 s0 F : Nat} {r : Int32} {h h' : hm_T} {x0 : Nat} {x1 : Int32} {x2 : Int32} {x3 : Int32} {x4 : Int32} {k39 : Nat → Int32 → Int32 → Int32 → Int32 → hm_T → Option (Int32 × hm_T)} (C : hm_C E prog_6_method_10_code 5 "DistanceLabelsModel" 2 43 n0 s0 (hm_n h') (hm_s h') p R s m args c) (hr : meth.sig.returnType = (some .int)) (hlk : meth.locks = false) (hk39 : ∀ (y0 : Nat) (y1 : Int32) (y2 : Int32) (y3 : Int32) (y4 : Int32) (g : hm_T), k39 y0 y1 y2 y3 y4 g = some (r, h') → hm_G E 5 n0 s0 (hm_n h') (hm_s h') p l e R s m args below meth c (MQ below (hm_Qc E (some (.int r)) h') args s (hm_n h' - n0) (hm_s h' - s0) (fun q => E.2.2 ≤ q)) 39 [(0, .ref y0), (1, .int y1), (2, .int y2), (3, .int y3), (4, .int y4)] [] g) (hf : g_R_rank_39 F k39 x0 x1 x2 x3 x4 h = some (r, h')) : hm_G E 5 n0 s0 (hm_n h') (hm_s h') p l e R s m args below meth c (MQ below (hm_Qc E (some (.int r)) h') args s (hm_n h' - n0) (hm_s h' - s0) (fun q => E.2.2 ≤ q)) 39 [(0, .ref x0), (1, .int x1), (2, .int x2), (3, .int x3), (4, .int x4)] [] h := by
  unfold g_R_rank_39 at hf
  refine hm_iload C d_R_rank_39 4 rfl ?_
  refine hm_aload_n C d_R_rank_41 rfl 0 rfl ?_
  obtain ⟨v1, ev1, hf⟩ := hm_bind hf
  refine hm_getI C F_4 1 (by decide) rfl k_159 d_R_rank_42 ev1 ?_
  refine hm_iconst (v := (1 : Int32)) C d_R_rank_45 (by decide) ?_
  refine hm_isub C d_R_rank_46 ?_
  refine hm_icmp_ge (tgt := 72) C d_R_rank_47 (by decide) (fun z2 => ?_) (fun z2 => ?_)
  · have hf := hm_ifp hf z2
    refine hm_sub (lv' := [(0, .ref x0), (1, .int x1), (2, .int x2), (3, .int x3)]) [0, 1, 2, 3] rfl ?_
    exact w_f_R_rank_72 C hr hlk hf
  · have hf := hm_ifn hf z2
    refine hm_aload_n C d_R_rank_50 rfl 0 rfl ?_
    obtain ⟨a3, ea3, hf⟩ := hm_bind hf
    refine hm_getR C F_4 3 (by decide) rfl k_141 d_R_rank_51 ea3 ?_
    refine hm_iload C d_R_rank_54 4 rfl ?_
    refine hm_aload_n C d_R_rank_56 rfl 0 rfl ?_
    obtain ⟨a4, ea4, hf⟩ := hm_bind hf
    refine hm_getR C F_4 3 (by decide) rfl k_141 d_R_rank_57 ea4 ?_
    refine hm_iload C d_R_rank_60 4 rfl ?_
    refine hm_iconst (v := (1 : Int32)) C d_R_rank_62 (by decide) ?_
    refine hm_iadd C d_R_rank_63 ?_
    obtain ⟨v5, ev5, hf⟩ := hm_bind hf
    refine hm_iaload C d_R_rank_64 ev5 ?_
    obtain ⟨h6, eh6, hf⟩ := hm_bind hf
    refine hm_iastore C d_R_rank_65 eh6 ?_
    refine hm_iinc (v := (x4 + (1 : Int32))) (lv' := [(4, .int (x4 + (1 : Int32))), (0, .ref x0), (1, .int x1), (2, .int x2), (3, .int x3)]) C d_R_rank_66 4 rfl rfl (by decide) rfl ?_
    refine hm_goto (tgt := 39) C d_R_rank_69 (by decide) ?_
    refine hm_sub (lv' := [(0, .ref x0), (1, .int x1), (2, .int x2), (3, .int x3), (4, .int (x4 + (1 : Int32)))]) [1, 2, 3, 4, 0] rfl ?_
    exact hk39 _ _ _ _ _ _ hf
theorem w_R_rank_39L {p : Program} {l : Launch} {e : Env} {R : Room} {s : State} {m : MethodId} {args : Array Value} {below : List Frame} {meth : Method} {c : Code} {E : hm_E} {n0 s0 F : Nat} {r : Int32} {h' : hm_T} (C : hm_C E prog_6_method_10_code 5 "DistanceLabelsModel" 2 43 n0 s0 (hm_n h') (hm_s h') p R s m args c) (hr : meth.sig.returnType = (some .int)) (hlk : meth.locks = false) : ∀ (N : Nat) (x0 : Nat) (x1 : Int32) (x2 : Int32) (x3 : Int32) (x4 : Int32) (h : hm_T), f_R_rank_39 F N x0 x1 x2 x3 x4 h = some (r, h') → hm_G E 5 n0 s0 (hm_n h') (hm_s h') p l e R s m args below meth c (MQ below (hm_Qc E (some (.int r)) h') args s (hm_n h' - n0) (hm_s h' - s0) (fun q => E.2.2 ≤ q)) 39 [(0, .ref x0), (1, .int x1), (2, .int x2), (3, .int x3), (4, .int x4)] [] h := by
  intro N
  induction N with
  | zero => intro _ _ _ _ _ _ hf; cases hf
  | succ n ih => intro x0 x1 x2 x3 x4 h hf; exact w_g_R_rank_39 C hr hlk ih hf
set_option maxRecDepth 20000 in
set_option maxHeartbeats 1000000 in
theorem w_f_R_rank {p : Program} {l : Launch} {e : Env} {R : Room} {s : State} {m : MethodId} {args : Array Value} {below : List Frame} {meth : Method} {c : Code} {E : hm_E} {n0 s0 F : Nat} {r : Int32} {h h' : hm_T} {x0 : Nat} {x1 : Int32} {x2 : Int32} (C : hm_C E prog_6_method_10_code 5 "DistanceLabelsModel" 2 43 n0 s0 (hm_n h') (hm_s h') p R s m args c) (hr : meth.sig.returnType = (some .int)) (hlk : meth.locks = false) (hf : f_R_rank F x0 x1 x2 h = some (r, h')) : hm_G E 5 n0 s0 (hm_n h') (hm_s h') p l e R s m args below meth c (MQ below (hm_Qc E (some (.int r)) h') args s (hm_n h' - n0) (hm_s h' - s0) (fun q => E.2.2 ≤ q)) 0 [(0, .ref x0), (1, .int x1), (2, .int x2)] [] h := by
  unfold f_R_rank at hf
  refine hm_aload_n C d_R_rank_0 rfl 0 rfl ?_
  refine hm_iconst (v := (0 : Int32)) C d_R_rank_1 (by decide) ?_
  obtain ⟨h1, eh1, hf⟩ := hm_bind hf
  refine hm_putI C F_4 0 (by decide) rfl k_158 (Or.inl rfl) rfl d_R_rank_2 eh1 ?_
  refine hm_aload_n C d_R_rank_5 rfl 0 rfl ?_
  refine hm_iload_n C d_R_rank_6 rfl 1 rfl ?_
  obtain ⟨u2, eu2, hf⟩ := hm_bind hf
  obtain ⟨v3, h3, eh3, hf⟩ := hm_and_of hf
  refine hm_callV (vs := [.int x1]) (st := []) (sb := [.int v3]) C (c_R_noNode eh3) Y_R_noNode F_4 eu2 k_163 k_164 k_162 (by decide) (by decide) rfl (Nat.le_of_ble_eq_true rfl) d_R_rank_7 rfl rfl ?_
  refine hm_if_ne (tgt := 27) C d_R_rank_10 (by decide) (fun z4 => ?_) (fun z4 => ?_)
  · have hf := hm_ifn hf z4
    refine hm_bipush (v := (-2 : Int32)) C d_R_rank_27 (by decide) ?_
    exact hm_iret C hr hlk d_R_rank_29 hf
  · have hf := hm_ifp hf z4
    refine hm_iload_n C d_R_rank_13 rfl 2 rfl ?_
    refine hm_iconst (v := (0 : Int32)) C d_R_rank_14 (by decide) ?_
    refine hm_aload_n C d_R_rank_15 rfl 0 rfl ?_
    obtain ⟨v5, ev5, hf⟩ := hm_bind hf
    refine hm_getI C F_4 1 (by decide) rfl k_159 d_R_rank_16 ev5 ?_
    refine hm_iconst (v := (1 : Int32)) C d_R_rank_19 (by decide) ?_
    refine hm_isub C d_R_rank_20 ?_
    obtain ⟨v6, h6, eh6, hf⟩ := hm_and_of hf
    refine hm_callS (vs := [.int x2, .int (0 : Int32), .int (v5 - (1 : Int32))]) (st := []) (sb := [.int v6]) C (c_R_in eh6) Y_R_in k_161 k_160 (by decide) (by decide) rfl (Nat.le_of_ble_eq_true rfl) d_R_rank_21 rfl rfl ?_
    refine hm_if_ne (tgt := 30) C d_R_rank_24 (by decide) (fun z7 => ?_) (fun z7 => ?_)
    · have hf := hm_ifn hf z7
      refine hm_aload_n C d_R_rank_30 rfl 0 rfl ?_
      refine hm_iload_n C d_R_rank_31 rfl 1 rfl ?_
      obtain ⟨u8, eu8, hf⟩ := hm_bind hf
      obtain ⟨v9, h9, eh9, hf⟩ := hm_and_of hf
      refine hm_callV (vs := [.int x1]) (st := []) (sb := [.int v9]) C (c_R_rankOf eh9) Y_R_rankOf F_4 eu8 k_170 k_171 k_169 (by decide) (by decide) rfl (Nat.le_of_ble_eq_true rfl) d_R_rank_32 rfl rfl ?_
      refine hm_istore_n (lv' := [(3, .int v9), (0, .ref x0), (1, .int x1), (2, .int x2)]) C d_R_rank_35 rfl (by decide) rfl ?_
      refine hm_iload_n C d_R_rank_36 rfl 0 rfl ?_
      refine hm_istore (lv' := [(4, .int v9), (3, .int v9), (0, .ref x0), (1, .int x1), (2, .int x2)]) C d_R_rank_37 (by decide) rfl ?_
      refine hm_sub (lv' := [(0, .ref x0), (1, .int x1), (2, .int x2), (3, .int v9), (4, .int v9)]) [2, 3, 4, 1, 0] rfl ?_
      exact w_R_rank_39L C hr hlk _ _ _ _ _ _ _ hf
    · have hf := hm_ifp hf z7
      refine hm_bipush (v := (-2 : Int32)) C d_R_rank_27 (by decide) ?_
      exact hm_iret C hr hlk d_R_rank_29 hf
set_option maxRecDepth 20000 in
theorem c_R_rank {E : hm_E} {l : Launch} {F : Nat} {r : Int32} {h h' : hm_T} {x0 : Nat} {x1 : Int32} {x2 : Int32} (hf : f_R_rank F x0 x1 x2 h = some (r, h')) : hm_M E l y_R_rank prog_6_method_10_code 5 (some .int) 2 43 [.ref x0, .int x1, .int x2] h (some (.int r)) h' :=
  hm_enter (by decide +kernel) (Nat.le_of_ble_eq_true rfl) (m_f_R_rank hf) (fun p e R s m below meth c C hr hlk hin => w_f_R_rank C hr hlk hf)
def f_R_ranked (F : Nat) (x0 : Nat) (x1 : Int32) (h : hm_T) : Option (Int32 × hm_T) :=
  (hm_pi 4 25 0 h x0 (0 : Int32)).bind (fun h1 => (hm_gi 4 25 1 h1 x0).bind (fun v2 => hm_and (f_R_in F x1 (0 : Int32) (v2 - (1 : Int32)) h1) (fun v3 h3 => (if v3 = 0 then some ((-2 : Int32), h3) else (hm_gr 4 25 3 h3 x0).bind (fun a5 => (hm_ild h3 a5 x1).bind (fun v6 => some (v6, h3)))))))
theorem m_f_R_ranked {F : Nat} {r : Int32} {h h' : hm_T} {x0 : Nat} {x1 : Int32} (hf : f_R_ranked F x0 x1 h = some (r, h')) : hm_le h h' := by
  unfold f_R_ranked at hf
  obtain ⟨h1, eh1, hf⟩ := hm_bind hf
  have mh1 := hm_le.pi eh1
  obtain ⟨v2, ev2, hf⟩ := hm_bind hf
  obtain ⟨v3, h3, eh3, hf⟩ := hm_and_of hf
  have mh3 := m_f_R_in eh3
  by_cases z4 : v3 = 0
  · have hf := hm_ifp hf z4
    exact mh1.tr (mh3.tr ((hm_le.ret hf)))
  · have hf := hm_ifn hf z4
    obtain ⟨a5, ea5, hf⟩ := hm_bind hf
    obtain ⟨v6, ev6, hf⟩ := hm_bind hf
    exact mh1.tr (mh3.tr ((hm_le.ret hf)))
set_option maxRecDepth 20000 in
set_option maxHeartbeats 1000000 in
theorem w_f_R_ranked {p : Program} {l : Launch} {e : Env} {R : Room} {s : State} {m : MethodId} {args : Array Value} {below : List Frame} {meth : Method} {c : Code} {E : hm_E} {n0 s0 F : Nat} {r : Int32} {h h' : hm_T} {x0 : Nat} {x1 : Int32} (C : hm_C E prog_6_method_11_code 2 "DistanceLabelsModel" 1 22 n0 s0 (hm_n h') (hm_s h') p R s m args c) (hr : meth.sig.returnType = (some .int)) (hlk : meth.locks = false) (hf : f_R_ranked F x0 x1 h = some (r, h')) : hm_G E 2 n0 s0 (hm_n h') (hm_s h') p l e R s m args below meth c (MQ below (hm_Qc E (some (.int r)) h') args s (hm_n h' - n0) (hm_s h' - s0) (fun q => E.2.2 ≤ q)) 0 [(0, .ref x0), (1, .int x1)] [] h := by
  unfold f_R_ranked at hf
  refine hm_aload_n C d_R_ranked_0 rfl 0 rfl ?_
  refine hm_iconst (v := (0 : Int32)) C d_R_ranked_1 (by decide) ?_
  obtain ⟨h1, eh1, hf⟩ := hm_bind hf
  refine hm_putI C F_4 0 (by decide) rfl k_158 (Or.inl rfl) rfl d_R_ranked_2 eh1 ?_
  refine hm_iload_n C d_R_ranked_5 rfl 1 rfl ?_
  refine hm_iconst (v := (0 : Int32)) C d_R_ranked_6 (by decide) ?_
  refine hm_aload_n C d_R_ranked_7 rfl 0 rfl ?_
  obtain ⟨v2, ev2, hf⟩ := hm_bind hf
  refine hm_getI C F_4 1 (by decide) rfl k_159 d_R_ranked_8 ev2 ?_
  refine hm_iconst (v := (1 : Int32)) C d_R_ranked_11 (by decide) ?_
  refine hm_isub C d_R_ranked_12 ?_
  obtain ⟨v3, h3, eh3, hf⟩ := hm_and_of hf
  refine hm_callS (vs := [.int x1, .int (0 : Int32), .int (v2 - (1 : Int32))]) (st := []) (sb := [.int v3]) C (c_R_in eh3) Y_R_in k_161 k_160 (by decide) (by decide) rfl (Nat.le_of_ble_eq_true rfl) d_R_ranked_13 rfl rfl ?_
  refine hm_if_eq (tgt := 28) C d_R_ranked_16 (by decide) (fun z4 => ?_) (fun z4 => ?_)
  · have hf := hm_ifp hf z4
    refine hm_bipush (v := (-2 : Int32)) C d_R_ranked_28 (by decide) ?_
    exact hm_iret C hr hlk d_R_ranked_30 hf
  · have hf := hm_ifn hf z4
    refine hm_aload_n C d_R_ranked_19 rfl 0 rfl ?_
    obtain ⟨a5, ea5, hf⟩ := hm_bind hf
    refine hm_getR C F_4 3 (by decide) rfl k_141 d_R_ranked_20 ea5 ?_
    refine hm_iload_n C d_R_ranked_23 rfl 1 rfl ?_
    obtain ⟨v6, ev6, hf⟩ := hm_bind hf
    refine hm_iaload C d_R_ranked_24 ev6 ?_
    refine hm_goto (tgt := 30) C d_R_ranked_25 (by decide) ?_
    exact hm_iret C hr hlk d_R_ranked_30 hf
set_option maxRecDepth 20000 in
theorem c_R_ranked {E : hm_E} {l : Launch} {F : Nat} {r : Int32} {h h' : hm_T} {x0 : Nat} {x1 : Int32} (hf : f_R_ranked F x0 x1 h = some (r, h')) : hm_M E l y_R_ranked prog_6_method_11_code 2 (some .int) 1 22 [.ref x0, .int x1] h (some (.int r)) h' :=
  hm_enter (by decide +kernel) (Nat.le_of_ble_eq_true rfl) (m_f_R_ranked hf) (fun p e R s m below meth c C hr hlk hin => w_f_R_ranked C hr hlk hf)
