def f_R_marks_28 (F : Nat) (k4 : Nat → Int32 → Int32 → hm_T → Option (Int32 × hm_T)) (x0 : Nat) (x2 : Int32) (t0 : Int32) (h : hm_T) : Option (Int32 × hm_T) :=
  k4 x0 t0 (x2 + (1 : Int32)) h
def g_R_marks_4 (F : Nat) (k4 : Nat → Int32 → Int32 → hm_T → Option (Int32 × hm_T)) (x0 : Nat) (x1 : Int32) (x2 : Int32) (h : hm_T) : Option (Int32 × hm_T) :=
  (hm_gi 4 25 1 h x0).bind (fun v1 => (if v1 ≤ x2 then some (x1, h) else (hm_gr 4 25 4 h x0).bind (fun a3 => (hm_zld h a3 x2).bind (fun v4 => (if v4 = 0 then f_R_marks_28 F k4 x0 x2 x1 h else f_R_marks_28 F k4 x0 x2 (x1 + (1 : Int32)) h)))))
def f_R_marks_4 (F : Nat) : Nat → Nat → Int32 → Int32 → hm_T → Option (Int32 × hm_T)
  | 0 => fun _ _ _ _ => none
  | n + 1 => g_R_marks_4 F (f_R_marks_4 F n)
def f_R_marks (F : Nat) (x0 : Nat) (h : hm_T) : Option (Int32 × hm_T) :=
  f_R_marks_4 F F x0 (0 : Int32) (0 : Int32) h
theorem m_f_R_marks_28 {F : Nat} {r : Int32} {h h' : hm_T} {x0 : Nat} {x2 : Int32} {t0 : Int32} {k4 : Nat → Int32 → Int32 → hm_T → Option (Int32 × hm_T)} (hk4 : ∀ (y0 : Nat) (y1 : Int32) (y2 : Int32) (g : hm_T), k4 y0 y1 y2 g = some (r, h') → hm_le g h') (hf : f_R_marks_28 F k4 x0 x2 t0 h = some (r, h')) : hm_le h h' := by
  unfold f_R_marks_28 at hf
  exact (hk4 _ _ _ _ hf)
theorem m_g_R_marks_4 {F : Nat} {r : Int32} {h h' : hm_T} {x0 : Nat} {x1 : Int32} {x2 : Int32} {k4 : Nat → Int32 → Int32 → hm_T → Option (Int32 × hm_T)} (hk4 : ∀ (y0 : Nat) (y1 : Int32) (y2 : Int32) (g : hm_T), k4 y0 y1 y2 g = some (r, h') → hm_le g h') (hf : g_R_marks_4 F k4 x0 x1 x2 h = some (r, h')) : hm_le h h' := by
  unfold g_R_marks_4 at hf
  obtain ⟨v1, ev1, hf⟩ := hm_bind hf
  by_cases z2 : v1 ≤ x2
  · have hf := hm_ifp hf z2
    exact (hm_le.ret hf)
  · have hf := hm_ifn hf z2
    obtain ⟨a3, ea3, hf⟩ := hm_bind hf
    obtain ⟨v4, ev4, hf⟩ := hm_bind hf
    by_cases z5 : v4 = 0
    · have hf := hm_ifp hf z5
      exact (m_f_R_marks_28 hk4 hf)
    · have hf := hm_ifn hf z5
      exact (m_f_R_marks_28 hk4 hf)
theorem m_R_marks_4L {F : Nat} {r : Int32} {h' : hm_T} : ∀ (N : Nat) (x0 : Nat) (x1 : Int32) (x2 : Int32) (h : hm_T), f_R_marks_4 F N x0 x1 x2 h = some (r, h') → hm_le h h' := by
  intro N
  induction N with
  | zero => intro _ _ _ _ hf; cases hf
  | succ n ih => intro x0 x1 x2 h hf; exact m_g_R_marks_4 ih hf
theorem m_f_R_marks {F : Nat} {r : Int32} {h h' : hm_T} {x0 : Nat} (hf : f_R_marks F x0 h = some (r, h')) : hm_le h h' := by
  unfold f_R_marks at hf
  exact (m_R_marks_4L _ _ _ _ _ hf)
set_option maxRecDepth 20000 in
set_option maxHeartbeats 1000000 in
theorem w_f_R_marks_28 {p : Program} {l : Launch} {e : Env} {R : Room} {s : State} {m : MethodId} {args : Array Value} {below : List Frame} {meth : Method} {c : Code} {E : hm_E} {n0 s0 F : Nat} {r : Int32} {h h' : hm_T} {x0 : Nat} {x2 : Int32} {t0 : Int32} {k4 : Nat → Int32 → Int32 → hm_T → Option (Int32 × hm_T)} (C : hm_C E prog_6_method_13_code 3 "DistanceLabelsModel" 0 0 n0 s0 (hm_n h') (hm_s h') p R s m args c) (hr : meth.sig.returnType = (some .int)) (hlk : meth.locks = false) (hk4 : ∀ (y0 : Nat) (y1 : Int32) (y2 : Int32) (g : hm_T), k4 y0 y1 y2 g = some (r, h') → hm_G E 3 n0 s0 (hm_n h') (hm_s h') p l e R s m args below meth c (MQ below (hm_Qc E (some (.int r)) h') args s (hm_n h' - n0) (hm_s h' - s0) (fun q => E.2.2 ≤ q)) 4 [(0, .ref y0), (1, .int y1), (2, .int y2)] [] g) (hf : f_R_marks_28 F k4 x0 x2 t0 h = some (r, h')) : hm_G E 3 n0 s0 (hm_n h') (hm_s h') p l e R s m args below meth c (MQ below (hm_Qc E (some (.int r)) h') args s (hm_n h' - n0) (hm_s h' - s0) (fun q => E.2.2 ≤ q)) 28 [(0, .ref x0), (2, .int x2)] [.int t0] h := by
  unfold f_R_marks_28 at hf
  refine hm_istore_n (lv' := [(1, .int t0), (0, .ref x0), (2, .int x2)]) C d_R_marks_28 rfl (by decide) rfl ?_
  refine hm_iinc (v := (x2 + (1 : Int32))) (lv' := [(2, .int (x2 + (1 : Int32))), (1, .int t0), (0, .ref x0)]) C d_R_marks_29 2 rfl rfl (by decide) rfl ?_
  refine hm_goto (tgt := 4) C d_R_marks_32 (by decide) ?_
  refine hm_sub (lv' := [(0, .ref x0), (1, .int t0), (2, .int (x2 + (1 : Int32)))]) [2, 1, 0] rfl ?_
  exact hk4 _ _ _ _ hf
set_option maxRecDepth 20000 in
set_option maxHeartbeats 1000000 in
theorem w_g_R_marks_4 {p : Program} {l : Launch} {e : Env} {R : Room} {s : State} {m : MethodId} {args : Array Value} {below : List Frame} {meth : Method} {c : Code} {E : hm_E} {n0 s0 F : Nat} {r : Int32} {h h' : hm_T} {x0 : Nat} {x1 : Int32} {x2 : Int32} {k4 : Nat → Int32 → Int32 → hm_T → Option (Int32 × hm_T)} (C : hm_C E prog_6_method_13_code 3 "DistanceLabelsModel" 0 0 n0 s0 (hm_n h') (hm_s h') p R s m args c) (hr : meth.sig.returnType = (some .int)) (hlk : meth.locks = false) (hk4 : ∀ (y0 : Nat) (y1 : Int32) (y2 : Int32) (g : hm_T), k4 y0 y1 y2 g = some (r, h') → hm_G E 3 n0 s0 (hm_n h') (hm_s h') p l e R s m args below meth c (MQ below (hm_Qc E (some (.int r)) h') args s (hm_n h' - n0) (hm_s h' - s0) (fun q => E.2.2 ≤ q)) 4 [(0, .ref y0), (1, .int y1), (2, .int y2)] [] g) (hf : g_R_marks_4 F k4 x0 x1 x2 h = some (r, h')) : hm_G E 3 n0 s0 (hm_n h') (hm_s h') p l e R s m args below meth c (MQ below (hm_Qc E (some (.int r)) h') args s (hm_n h' - n0) (hm_s h' - s0) (fun q => E.2.2 ≤ q)) 4 [(0, .ref x0), (1, .int x1), (2, .int x2)] [] h := by
  unfold g_R_marks_4 at hf
  refine hm_iload_n C d_R_marks_4 rfl 2 rfl ?_
  refine hm_aload_n C d_R_marks_5 rfl 0 rfl ?_
  obtain ⟨v1, ev1, hf⟩ := hm_bind hf
  refine hm_getI C F_4 1 (by decide) rfl k_159 d_R_marks_6 ev1 ?_
  refine hm_icmp_ge (tgt := 35) C d_R_marks_9 (by decide) (fun z2 => ?_) (fun z2 => ?_)
  · have hf := hm_ifp hf z2
    refine hm_iload_n C d_R_marks_35 rfl 1 rfl ?_
    exact hm_iret C hr hlk d_R_marks_36 hf
  · have hf := hm_ifn hf z2
    refine hm_aload_n C d_R_marks_12 rfl 0 rfl ?_
    obtain ⟨a3, ea3, hf⟩ := hm_bind hf
    refine hm_getR C F_4 4 (by decide) rfl k_142 d_R_marks_13 ea3 ?_
    refine hm_iload_n C d_R_marks_16 rfl 2 rfl ?_
    obtain ⟨v4, ev4, hf⟩ := hm_bind hf
    refine hm_baload C d_R_marks_17 ev4 ?_
    refine hm_if_eq (tgt := 27) C d_R_marks_18 (by decide) (fun z5 => ?_) (fun z5 => ?_)
    · have hf := hm_ifp hf z5
      refine hm_iload_n C d_R_marks_27 rfl 1 rfl ?_
      refine hm_sub (lv' := [(0, .ref x0), (2, .int x2)]) [0, 2] rfl ?_
      exact w_f_R_marks_28 C hr hlk hk4 hf
    · have hf := hm_ifn hf z5
      refine hm_iload_n C d_R_marks_21 rfl 1 rfl ?_
      refine hm_iconst (v := (1 : Int32)) C d_R_marks_22 (by decide) ?_
      refine hm_iadd C d_R_marks_23 ?_
      refine hm_goto (tgt := 28) C d_R_marks_24 (by decide) ?_
      refine hm_sub (lv' := [(0, .ref x0), (2, .int x2)]) [0, 2] rfl ?_
      exact w_f_R_marks_28 C hr hlk hk4 hf
theorem w_R_marks_4L {p : Program} {l : Launch} {e : Env} {R : Room} {s : State} {m : MethodId} {args : Array Value} {below : List Frame} {meth : Method} {c : Code} {E : hm_E} {n0 s0 F : Nat} {r : Int32} {h' : hm_T} (C : hm_C E prog_6_method_13_code 3 "DistanceLabelsModel" 0 0 n0 s0 (hm_n h') (hm_s h') p R s m args c) (hr : meth.sig.returnType = (some .int)) (hlk : meth.locks = false) : ∀ (N : Nat) (x0 : Nat) (x1 : Int32) (x2 : Int32) (h : hm_T), f_R_marks_4 F N x0 x1 x2 h = some (r, h') → hm_G E 3 n0 s0 (hm_n h') (hm_s h') p l e R s m args below meth c (MQ below (hm_Qc E (some (.int r)) h') args s (hm_n h' - n0) (hm_s h' - s0) (fun q => E.2.2 ≤ q)) 4 [(0, .ref x0), (1, .int x1), (2, .int x2)] [] h := by
  intro N
  induction N with
  | zero => intro _ _ _ _ hf; cases hf
  | succ n ih => intro x0 x1 x2 h hf; exact w_g_R_marks_4 C hr hlk ih hf
set_option maxRecDepth 20000 in
set_option maxHeartbeats 1000000 in
theorem w_f_R_marks {p : Program} {l : Launch} {e : Env} {R : Room} {s : State} {m : MethodId} {args : Array Value} {below : List Frame} {meth : Method} {c : Code} {E : hm_E} {n0 s0 F : Nat} {r : Int32} {h h' : hm_T} {x0 : Nat} (C : hm_C E prog_6_method_13_code 3 "DistanceLabelsModel" 0 0 n0 s0 (hm_n h') (hm_s h') p R s m args c) (hr : meth.sig.returnType = (some .int)) (hlk : meth.locks = false) (hf : f_R_marks F x0 h = some (r, h')) : hm_G E 3 n0 s0 (hm_n h') (hm_s h') p l e R s m args below meth c (MQ below (hm_Qc E (some (.int r)) h') args s (hm_n h' - n0) (hm_s h' - s0) (fun q => E.2.2 ≤ q)) 0 [(0, .ref x0)] [] h := by
  unfold f_R_marks at hf
  refine hm_iconst (v := (0 : Int32)) C d_R_marks_0 (by decide) ?_
  refine hm_istore_n (lv' := [(1, .int (0 : Int32)), (0, .ref x0)]) C d_R_marks_1 rfl (by decide) rfl ?_
  refine hm_iconst (v := (0 : Int32)) C d_R_marks_2 (by decide) ?_
  refine hm_istore_n (lv' := [(2, .int (0 : Int32)), (1, .int (0 : Int32)), (0, .ref x0)]) C d_R_marks_3 rfl (by decide) rfl ?_
  refine hm_sub (lv' := [(0, .ref x0), (1, .int (0 : Int32)), (2, .int (0 : Int32))]) [2, 1, 0] rfl ?_
  exact w_R_marks_4L C hr hlk _ _ _ _ _ hf
set_option maxRecDepth 20000 in
theorem c_R_marks {E : hm_E} {l : Launch} {F : Nat} {r : Int32} {h h' : hm_T} {x0 : Nat} (hf : f_R_marks F x0 h = some (r, h')) : hm_M E l y_R_marks prog_6_method_13_code 3 (some .int) 0 0 [.ref x0] h (some (.int r)) h' :=
  hm_enter (by decide +kernel) (Nat.le_of_ble_eq_true rfl) (m_f_R_marks hf) (fun p e R s m below meth c C hr hlk hin => w_f_R_marks C hr hlk hf)
def f_R_landmark_42 (F : Nat) (x0 : Nat) (x1 : Int32) (x2 : Int32) (x3 : Int32) (h : hm_T) : Option (Int32 × hm_T) :=
  (hm_gr 4 25 4 h x0).bind (fun a1 => (hm_zst h a1 x1 x2).bind (fun h2 => (if x3 = 0 then some ((0 : Int32), h2) else some ((1 : Int32), h2))))
def f_R_landmark (F : Nat) (x0 : Nat) (x1 : Int32) (x2 : Int32) (h : hm_T) : Option (Int32 × hm_T) :=
  (hm_pi 4 25 0 h x0 (0 : Int32)).bind (fun h1 => (hm_is 4 25 h1 x0).bind (fun u2 => hm_and (f_R_noNode F x0 x1 h1) (fun v3 h3 => (if v3 = 0 then (hm_gr 4 25 4 h3 x0).bind (fun a5 => (hm_zld h3 a5 x1).bind (fun v6 => (if x2 = 0 then f_R_landmark_42 F x0 x1 x2 v6 h3 else (if v6 = 0 then (hm_is 4 25 h3 x0).bind (fun u9 => hm_and (f_R_marks F x0 h3) (fun v10 h10 => (if v10 = (4 : Int32) then some ((-3 : Int32), h10) else f_R_landmark_42 F x0 x1 x2 v6 h10))) else f_R_landmark_42 F x0 x1 x2 v6 h3)))) else some ((-2 : Int32), h3)))))
theorem m_f_R_landmark_42 {F : Nat} {r : Int32} {h h' : hm_T} {x0 : Nat} {x1 : Int32} {x2 : Int32} {x3 : Int32} (hf : f_R_landmark_42 F x0 x1 x2 x3 h = some (r, h')) : hm_le h h' := by
  unfold f_R_landmark_42 at hf
  obtain ⟨a1, ea1, hf⟩ := hm_bind hf
  obtain ⟨h2, eh2, hf⟩ := hm_bind hf
  have mh2 := hm_le.zst eh2
  by_cases z3 : x3 = 0
  · have hf := hm_ifp hf z3
    exact mh2.tr ((hm_le.ret hf))
  · have hf := hm_ifn hf z3
    exact mh2.tr ((hm_le.ret hf))
theorem m_f_R_landmark {F : Nat} {r : Int32} {h h' : hm_T} {x0 : Nat} {x1 : Int32} {x2 : Int32} (hf : f_R_landmark F x0 x1 x2 h = some (r, h')) : hm_le h h' := by
  unfold f_R_landmark at hf
  obtain ⟨h1, eh1, hf⟩ := hm_bind hf
  have mh1 := hm_le.pi eh1
  obtain ⟨u2, eu2, hf⟩ := hm_bind hf
  obtain ⟨v3, h3, eh3, hf⟩ := hm_and_of hf
  have mh3 := m_f_R_noNode eh3
  by_cases z4 : v3 = 0
  · have hf := hm_ifp hf z4
    obtain ⟨a5, ea5, hf⟩ := hm_bind hf
    obtain ⟨v6, ev6, hf⟩ := hm_bind hf
    by_cases z7 : x2 = 0
    · have hf := hm_ifp hf z7
      exact mh1.tr (mh3.tr ((m_f_R_landmark_42 hf)))
    · have hf := hm_ifn hf z7
      by_cases z8 : v6 = 0
      · have hf := hm_ifp hf z8
        obtain ⟨u9, eu9, hf⟩ := hm_bind hf
        obtain ⟨v10, h10, eh10, hf⟩ := hm_and_of hf
        have mh10 := m_f_R_marks eh10
        by_cases z11 : v10 = (4 : Int32)
        · have hf := hm_ifp hf z11
          exact mh1.tr (mh3.tr (mh10.tr ((hm_le.ret hf))))
        · have hf := hm_ifn hf z11
          exact mh1.tr (mh3.tr (mh10.tr ((m_f_R_landmark_42 hf))))
      · have hf := hm_ifn hf z8
        exact mh1.tr (mh3.tr ((m_f_R_landmark_42 hf)))
  · have hf := hm_ifn hf z4
    exact mh1.tr (mh3.tr ((hm_le.ret hf)))
set_option maxRecDepth 20000 in
set_option maxHeartbeats 1000000 in
theorem w_f_R_landmark_42 {p : Program} {l : Launch} {e : Env} {R : Room} {s : State} {m : MethodId} {args : Array Value} {below : List Frame} {meth : Method} {c : Code} {E : hm_E} {n0 s0 F : Nat} {r : Int32} {h h' : hm_T} {x0 : Nat} {x1 : Int32} {x2 : Int32} {x3 : Int32} (C : hm_C E prog_6_method_12_code 4 "DistanceLabelsModel" 2 43 n0 s0 (hm_n h') (hm_s h') p R s m args c) (hr : meth.sig.returnType = (some .int)) (hlk : meth.locks = false) (hf : f_R_landmark_42 F x0 x1 x2 x3 h = some (r, h')) : hm_G E 4 n0 s0 (hm_n h') (hm_s h') p l e R s m args below meth c (MQ below (hm_Qc E (some (.int r)) h') args s (hm_n h' - n0) (hm_s h' - s0) (fun q => E.2.2 ≤ q)) 42 [(0, .ref x0), (1, .int x1), (2, .int x2), (3, .int x3)] [] h := by
  unfold f_R_landmark_42 at hf
  refine hm_aload_n C d_R_landmark_42 rfl 0 rfl ?_
  obtain ⟨a1, ea1, hf⟩ := hm_bind hf
  refine hm_getR C F_4 4 (by decide) rfl k_142 d_R_landmark_43 ea1 ?_
  refine hm_iload_n C d_R_landmark_46 rfl 1 rfl ?_
  refine hm_iload_n C d_R_landmark_47 rfl 2 rfl ?_
  obtain ⟨h2, eh2, hf⟩ := hm_bind hf
  refine hm_bastore C d_R_landmark_48 eh2 ?_
  refine hm_iload_n C d_R_landmark_49 rfl 3 rfl ?_
  refine hm_if_eq (tgt := 57) C d_R_landmark_50 (by decide) (fun z3 => ?_) (fun z3 => ?_)
  · have hf := hm_ifp hf z3
    refine hm_iconst (v := (0 : Int32)) C d_R_landmark_57 (by decide) ?_
    exact hm_iret C hr hlk d_R_landmark_58 hf
  · have hf := hm_ifn hf z3
    refine hm_iconst (v := (1 : Int32)) C d_R_landmark_53 (by decide) ?_
    refine hm_goto (tgt := 58) C d_R_landmark_54 (by decide) ?_
    exact hm_iret C hr hlk d_R_landmark_58 hf
set_option maxRecDepth 20000 in
set_option maxHeartbeats 1000000 in
theorem w_f_R_landmark {p : Program} {l : Launch} {e : Env} {R : Room} {s : State} {m : MethodId} {args : Array Value} {below : List Frame} {meth : Method} {c : Code} {E : hm_E} {n0 s0 F : Nat} {r : Int32} {h h' : hm_T} {x0 : Nat} {x1 : Int32} {x2 : Int32} (C : hm_C E prog_6_method_12_code 4 "DistanceLabelsModel" 2 43 n0 s0 (hm_n h') (hm_s h') p R s m args c) (hr : meth.sig.returnType = (some .int)) (hlk : meth.locks = false) (hf : f_R_landmark F x0 x1 x2 h = some (r, h')) : hm_G E 4 n0 s0 (hm_n h') (hm_s h') p l e R s m args below meth c (MQ below (hm_Qc E (some (.int r)) h') args s (hm_n h' - n0) (hm_s h' - s0) (fun q => E.2.2 ≤ q)) 0 [(0, .ref x0), (1, .int x1), (2, .int x2)] [] h := by
  unfold f_R_landmark at hf
  refine hm_aload_n C d_R_landmark_0 rfl 0 rfl ?_
  refine hm_iconst (v := (0 : Int32)) C d_R_landmark_1 (by decide) ?_
  obtain ⟨h1, eh1, hf⟩ := hm_bind hf
  refine hm_putI C F_4 0 (by decide) rfl k_158 (Or.inl rfl) rfl d_R_landmark_2 eh1 ?_
  refine hm_aload_n C d_R_landmark_5 rfl 0 rfl ?_
  refine hm_iload_n C d_R_landmark_6 rfl 1 rfl ?_
  obtain ⟨u2, eu2, hf⟩ := hm_bind hf
  obtain ⟨v3, h3, eh3, hf⟩ := hm_and_of hf
  refine hm_callV (vs := [.int x1]) (st := []) (sb := [.int v3]) C (c_R_noNode eh3) Y_R_noNode F_4 eu2 k_163 k_164 k_162 (by decide) (by decide) rfl (Nat.le_of_ble_eq_true rfl) d_R_landmark_7 rfl rfl ?_
  refine hm_if_eq (tgt := 16) C d_R_landmark_10 (by decide) (fun z4 => ?_) (fun z4 => ?_)
  · have hf := hm_ifp hf z4
    refine hm_aload_n C d_R_landmark_16 rfl 0 rfl ?_
    obtain ⟨a5, ea5, hf⟩ := hm_bind hf
    refine hm_getR C F_4 4 (by decide) rfl k_142 d_R_landmark_17 ea5 ?_
    refine hm_iload_n C d_R_landmark_20 rfl 1 rfl ?_
    obtain ⟨v6, ev6, hf⟩ := hm_bind hf
    refine hm_baload C d_R_landmark_21 ev6 ?_
    refine hm_istore_n (lv' := [(3, .int v6), (0, .ref x0), (1, .int x1), (2, .int x2)]) C d_R_landmark_22 rfl (by decide) rfl ?_
    refine hm_iload_n C d_R_landmark_23 rfl 3 rfl ?_
    refine hm_if_eq (tgt := 42) C d_R_landmark_24 (by decide) (fun z7 => ?_) (fun z7 => ?_)
    · have hf := hm_ifp hf z7
      refine hm_sub (lv' := [(0, .ref x0), (1, .int x1), (2, .int x2), (3, .int v6)]) [1, 2, 3, 0] rfl ?_
      exact w_f_R_landmark_42 C hr hlk hf
    · have hf := hm_ifn hf z7
      refine hm_iload_n C d_R_landmark_27 rfl 0 rfl ?_
      refine hm_if_ne (tgt := 42) C d_R_landmark_28 (by decide) (fun z8 => ?_) (fun z8 => ?_)
      · have hf := hm_ifn hf z8
        refine hm_sub (lv' := [(0, .ref x0), (1, .int x1), (2, .int x2), (3, .int v6)]) [1, 2, 3, 0] rfl ?_
        exact w_f_R_landmark_42 C hr hlk hf
      · have hf := hm_ifp hf z8
        refine hm_aload_n C d_R_landmark_31 rfl 1 rfl ?_
        obtain ⟨u9, eu9, hf⟩ := hm_bind hf
        obtain ⟨v10, h10, eh10, hf⟩ := hm_and_of hf
        refine hm_callV (vs := []) (st := []) (sb := [.int v10]) C (c_R_marks eh10) Y_R_marks F_4 eu9 k_173 k_174 k_172 (by decide) (by decide) rfl (Nat.le_of_ble_eq_true rfl) d_R_landmark_32 rfl rfl ?_
        refine hm_iconst (v := (4 : Int32)) C d_R_landmark_35 (by decide) ?_
        refine hm_icmp_ne (tgt := 42) C d_R_landmark_36 (by decide) (fun z11 => ?_) (fun z11 => ?_)
        · have hf := hm_ifn hf z11
          refine hm_sub (lv' := [(0, .ref x0), (1, .int x1), (2, .int x2), (3, .int v6)]) [1, 2, 3, 0] rfl ?_
          exact w_f_R_landmark_42 C hr hlk hf
        · have hf := hm_ifp hf z11
          refine hm_bipush (v := (-3 : Int32)) C d_R_landmark_39 (by decide) ?_
          exact hm_iret C hr hlk d_R_landmark_41 hf
  · have hf := hm_ifn hf z4
    refine hm_bipush (v := (-2 : Int32)) C d_R_landmark_13 (by decide) ?_
    exact hm_iret C hr hlk d_R_landmark_15 hf
set_option maxRecDepth 20000 in
theorem c_R_landmark {E : hm_E} {l : Launch} {F : Nat} {r : Int32} {h h' : hm_T} {x0 : Nat} {x1 : Int32} {x2 : Int32} (hf : f_R_landmark F x0 x1 x2 h = some (r, h')) : hm_M E l y_R_landmark prog_6_method_12_code 4 (some .int) 2 43 [.ref x0, .int x1, .int x2] h (some (.int r)) h' :=
  hm_enter (by decide +kernel) (Nat.le_of_ble_eq_true rfl) (m_f_R_landmark hf) (fun p e R s m below meth c C hr hlk hin => w_f_R_landmark C hr hlk hf)
def f_R_fill_150 (F : Nat) (k28 : Nat → Nat → Int32 → Nat → Int32 → hm_T → Option hm_T) (x0 : Nat) (x2 : Nat) (x3 : Int32) (x4 : Nat) (x5 : Int32) (h : hm_T) : Option hm_T :=
  k28 x0 x2 x3 x4 (x5 + (1 : Int32)) h
def f_R_fill_144 (F : Nat) (k40 : Nat → Nat → Int32 → Nat → Int32 → Int32 → hm_T → Option hm_T) (x0 : Nat) (x2 : Nat) (x3 : Int32) (x4 : Nat) (x5 : Int32) (x6 : Int32) (h : hm_T) : Option hm_T :=
  k40 x0 x2 x3 x4 x5 (x6 + (1 : Int32)) h
def f_R_fill_137 (F : Nat) (k66 : Nat → Nat → Int32 → Nat → Int32 → Int32 → Int32 → hm_T → Option hm_T) (x0 : Nat) (x2 : Nat) (x3 : Int32) (x4 : Nat) (x5 : Int32) (x6 : Int32) (x7 : Int32) (t0 : Int32) (t1 : Int32) (t2 : Nat) (h : hm_T) : Option hm_T :=
  (hm_ist h t2 t1 t0).bind (fun h1 => k66 x0 x2 x3 x4 x5 x6 (x7 + (1 : Int32)) h1)
def g_R_fill_66 (F : Nat) (k40 : Nat → Nat → Int32 → Nat → Int32 → Int32 → hm_T → Option hm_T) (k66 : Nat → Nat → Int32 → Nat → Int32 → Int32 → Int32 → hm_T → Option hm_T) (x0 : Nat) (x2 : Nat) (x3 : Int32) (x4 : Nat) (x5 : Int32) (x6 : Int32) (x7 : Int32) (h : hm_T) : Option hm_T :=
  (hm_gi 4 25 1 h x0).bind (fun v1 => (if v1 ≤ x7 then f_R_fill_144 F k40 x0 x2 x3 x4 x5 x6 h else (hm_ild h x2 (((16 : Int32) * x6) + x5)).bind (fun v3 => (hm_ild h x2 (((16 : Int32) * x5) + x7)).bind (fun v4 => (hm_ild h x2 (((16 : Int32) * x6) + x7)).bind (fun v5 => (if v5 ≤ (v3 + v4) then (hm_ild h x2 (((16 : Int32) * x6) + x7)).bind (fun v7 => f_R_fill_137 F k66 x0 x2 x3 x4 x5 x6 x7 v7 (((16 : Int32) * x6) + x7) x2 h) else f_R_fill_137 F k66 x0 x2 x3 x4 x5 x6 x7 (v3 + v4) (((16 : Int32) * x6) + x7) x2 h))))))
def f_R_fill_66 (F : Nat) (k40 : Nat → Nat → Int32 → Nat → Int32 → Int32 → hm_T → Option hm_T) : Nat → Nat → Nat → Int32 → Nat → Int32 → Int32 → Int32 → hm_T → Option hm_T
  | 0 => fun _ _ _ _ _ _ _ _ => none
  | n + 1 => g_R_fill_66 F k40 (f_R_fill_66 F k40 n)
def g_R_fill_40 (F : Nat) (k28 : Nat → Nat → Int32 → Nat → Int32 → hm_T → Option hm_T) (k40 : Nat → Nat → Int32 → Nat → Int32 → Int32 → hm_T → Option hm_T) (x0 : Nat) (x2 : Nat) (x3 : Int32) (x4 : Nat) (x5 : Int32) (x6 : Int32) (h : hm_T) : Option hm_T :=
  (hm_gi 4 25 1 h x0).bind (fun v1 => (if v1 ≤ x6 then f_R_fill_150 F k28 x0 x2 x3 x4 x5 h else (if x5 = x3 then f_R_fill_150 F k28 x0 x2 x3 x4 x5 h else (hm_zld h x4 x5).bind (fun v4 => (if v4 = 0 then f_R_fill_66 F k40 F x0 x2 x3 x4 x5 x6 (0 : Int32) h else f_R_fill_150 F k28 x0 x2 x3 x4 x5 h)))))
def f_R_fill_40 (F : Nat) (k28 : Nat → Nat → Int32 → Nat → Int32 → hm_T → Option hm_T) : Nat → Nat → Nat → Int32 → Nat → Int32 → Int32 → hm_T → Option hm_T
  | 0 => fun _ _ _ _ _ _ _ => none
  | n + 1 => g_R_fill_40 F k28 (f_R_fill_40 F k28 n)
def g_R_fill_28 (F : Nat) (k28 : Nat → Nat → Int32 → Nat → Int32 → hm_T → Option hm_T) (x0 : Nat) (x2 : Nat) (x3 : Int32) (x4 : Nat) (x5 : Int32) (h : hm_T) : Option hm_T :=
  (hm_gi 4 25 1 h x0).bind (fun v1 => (if v1 ≤ x5 then some h else f_R_fill_40 F k28 F x0 x2 x3 x4 x5 (0 : Int32) h))
def f_R_fill_28 (F : Nat) : Nat → Nat → Nat → Int32 → Nat → Int32 → hm_T → Option hm_T
  | 0 => fun _ _ _ _ _ _ => none
  | n + 1 => g_R_fill_28 F (f_R_fill_28 F n)
def f_R_fill_25 (F : Nat) (x0 : Nat) (x2 : Nat) (x3 : Int32) (x4 : Nat) (h : hm_T) : Option hm_T :=
  f_R_fill_28 F F x0 x2 x3 x4 (0 : Int32) h
def g_R_fill_3 (F : Nat) (k3 : Nat → Nat → Nat → Int32 → Nat → Int32 → hm_T → Option hm_T) (x0 : Nat) (x1 : Nat) (x2 : Nat) (x3 : Int32) (x4 : Nat) (x5 : Int32) (h : hm_T) : Option hm_T :=
  (if (256 : Int32) ≤ x5 then f_R_fill_25 F x0 x2 x3 x4 h else (hm_ild h x1 x5).bind (fun v2 => (hm_ist h x2 x5 v2).bind (fun h3 => k3 x0 x1 x2 x3 x4 (x5 + (1 : Int32)) h3)))
def f_R_fill_3 (F : Nat) : Nat → Nat → Nat → Nat → Int32 → Nat → Int32 → hm_T → Option hm_T
  | 0 => fun _ _ _ _ _ _ _ => none
  | n + 1 => g_R_fill_3 F (f_R_fill_3 F n)
def f_R_fill (F : Nat) (x0 : Nat) (x1 : Nat) (x2 : Nat) (x3 : Int32) (x4 : Nat) (h : hm_T) : Option hm_T :=
  f_R_fill_3 F F x0 x1 x2 x3 x4 (0 : Int32) h
theorem m_f_R_fill_150 {F : Nat} {h h' : hm_T} {x0 : Nat} {x2 : Nat} {x3 : Int32} {x4 : Nat} {x5 : Int32} {k28 : Nat → Nat → Int32 → Nat → Int32 → hm_T → Option hm_T} (hk28 : ∀ (y0 : Nat) (y2 : Nat) (y3 : Int32) (y4 : Nat) (y5 : Int32) (g : hm_T), k28 y0 y2 y3 y4 y5 g = some h' → hm_le g h') (hf : f_R_fill_150 F k28 x0 x2 x3 x4 x5 h = some h') : hm_le h h' := by
  unfold f_R_fill_150 at hf
  exact (hk28 _ _ _ _ _ _ hf)
theorem m_f_R_fill_144 {F : Nat} {h h' : hm_T} {x0 : Nat} {x2 : Nat} {x3 : Int32} {x4 : Nat} {x5 : Int32} {x6 : Int32} {k40 : Nat → Nat → Int32 → Nat → Int32 → Int32 → hm_T → Option hm_T} (hk40 : ∀ (y0 : Nat) (y2 : Nat) (y3 : Int32) (y4 : Nat) (y5 : Int32) (y6 : Int32) (g : hm_T), k40 y0 y2 y3 y4 y5 y6 g = some h' → hm_le g h') (hf : f_R_fill_144 F k40 x0 x2 x3 x4 x5 x6 h = some h') : hm_le h h' := by
  unfold f_R_fill_144 at hf
  exact (hk40 _ _ _ _ _ _ _ hf)
theorem m_f_R_fill_137 {F : Nat} {h h' : hm_T} {x0 : Nat} {x2 : Nat} {x3 : Int32} {x4 : Nat} {x5 : Int32} {x6 : Int32} {x7 : Int32} {t0 : Int32} {t1 : Int32} {t2 : Nat} {k66 : Nat → Nat → Int32 → Nat → Int32 → Int32 → Int32 → hm_T → Option hm_T} (hk66 : ∀ (y0 : Nat) (y2 : Nat) (y3 : Int32) (y4 : Nat) (y5 : Int32) (y6 : Int32) (y7 : Int32) (g : hm_T), k66 y0 y2 y3 y4 y5 y6 y7 g = some h' → hm_le g h') (hf : f_R_fill_137 F k66 x0 x2 x3 x4 x5 x6 x7 t0 t1 t2 h = some h') : hm_le h h' := by
  unfold f_R_fill_137 at hf
  obtain ⟨h1, eh1, hf⟩ := hm_bind hf
  have mh1 := hm_le.ist eh1
  exact mh1.tr ((hk66 _ _ _ _ _ _ _ _ hf))
theorem m_g_R_fill_66 {F : Nat} {h h' : hm_T} {x0 : Nat} {x2 : Nat} {x3 : Int32} {x4 : Nat} {x5 : Int32} {x6 : Int32} {x7 : Int32} {k40 : Nat → Nat → Int32 → Nat → Int32 → Int32 → hm_T → Option hm_T} {k66 : Nat → Nat → Int32 → Nat → Int32 → Int32 → Int32 → hm_T → Option hm_T} (hk40 : ∀ (y0 : Nat) (y2 : Nat) (y3 : Int32) (y4 : Nat) (y5 : Int32) (y6 : Int32) (g : hm_T), k40 y0 y2 y3 y4 y5 y6 g = some h' → hm_le g h') (hk66 : ∀ (y0 : Nat) (y2 : Nat) (y3 : Int32) (y4 : Nat) (y5 : Int32) (y6 : Int32) (y7 : Int32) (g : hm_T), k66 y0 y2 y3 y4 y5 y6 y7 g = some h' → hm_le g h') (hf : g_R_fill_66 F k40 k66 x0 x2 x3 x4 x5 x6 x7 h = some h') : hm_le h h' := by
  unfold g_R_fill_66 at hf
  obtain ⟨v1, ev1, hf⟩ := hm_bind hf
  by_cases z2 : v1 ≤ x7
  · have hf := hm_ifp hf z2
    exact (m_f_R_fill_144 hk40 hf)
  · have hf := hm_ifn hf z2
    obtain ⟨v3, ev3, hf⟩ := hm_bind hf
    obtain ⟨v4, ev4, hf⟩ := hm_bind hf
    obtain ⟨v5, ev5, hf⟩ := hm_bind hf
    by_cases z6 : v5 ≤ (v3 + v4)
    · have hf := hm_ifp hf z6
      obtain ⟨v7, ev7, hf⟩ := hm_bind hf
      exact (m_f_R_fill_137 hk66 hf)
    · have hf := hm_ifn hf z6
      exact (m_f_R_fill_137 hk66 hf)
theorem m_R_fill_66L {F : Nat} {h' : hm_T} {k40 : Nat → Nat → Int32 → Nat → Int32 → Int32 → hm_T → Option hm_T} (hk40 : ∀ (y0 : Nat) (y2 : Nat) (y3 : Int32) (y4 : Nat) (y5 : Int32) (y6 : Int32) (g : hm_T), k40 y0 y2 y3 y4 y5 y6 g = some h' → hm_le g h') : ∀ (N : Nat) (x0 : Nat) (x2 : Nat) (x3 : Int32) (x4 : Nat) (x5 : Int32) (x6 : Int32) (x7 : Int32) (h : hm_T), f_R_fill_66 F k40 N x0 x2 x3 x4 x5 x6 x7 h = some h' → hm_le h h' := by
  intro N
  induction N with
  | zero => intro _ _ _ _ _ _ _ _ hf; cases hf
  | succ n ih => intro x0 x2 x3 x4 x5 x6 x7 h hf; exact m_g_R_fill_66 hk40 ih hf
theorem m_g_R_fill_40 {F : Nat} {h h' : hm_T} {x0 : Nat} {x2 : Nat} {x3 : Int32} {x4 : Nat} {x5 : Int32} {x6 : Int32} {k28 : Nat → Nat → Int32 → Nat → Int32 → hm_T → Option hm_T} {k40 : Nat → Nat → Int32 → Nat → Int32 → Int32 → hm_T → Option hm_T} (hk28 : ∀ (y0 : Nat) (y2 : Nat) (y3 : Int32) (y4 : Nat) (y5 : Int32) (g : hm_T), k28 y0 y2 y3 y4 y5 g = some h' → hm_le g h') (hk40 : ∀ (y0 : Nat) (y2 : Nat) (y3 : Int32) (y4 : Nat) (y5 : Int32) (y6 : Int32) (g : hm_T), k40 y0 y2 y3 y4 y5 y6 g = some h' → hm_le g h') (hf : g_R_fill_40 F k28 k40 x0 x2 x3 x4 x5 x6 h = some h') : hm_le h h' := by
  unfold g_R_fill_40 at hf
  obtain ⟨v1, ev1, hf⟩ := hm_bind hf
  by_cases z2 : v1 ≤ x6
  · have hf := hm_ifp hf z2
    exact (m_f_R_fill_150 hk28 hf)
  · have hf := hm_ifn hf z2
    by_cases z3 : x5 = x3
    · have hf := hm_ifp hf z3
      exact (m_f_R_fill_150 hk28 hf)
    · have hf := hm_ifn hf z3
      obtain ⟨v4, ev4, hf⟩ := hm_bind hf
      by_cases z5 : v4 = 0
      · have hf := hm_ifp hf z5
        exact (m_R_fill_66L hk40 _ _ _ _ _ _ _ _ _ hf)
      · have hf := hm_ifn hf z5
        exact (m_f_R_fill_150 hk28 hf)
theorem m_R_fill_40L {F : Nat} {h' : hm_T} {k28 : Nat → Nat → Int32 → Nat → Int32 → hm_T → Option hm_T} (hk28 : ∀ (y0 : Nat) (y2 : Nat) (y3 : Int32) (y4 : Nat) (y5 : Int32) (g : hm_T), k28 y0 y2 y3 y4 y5 g = some h' → hm_le g h') : ∀ (N : Nat) (x0 : Nat) (x2 : Nat) (x3 : Int32) (x4 : Nat) (x5 : Int32) (x6 : Int32) (h : hm_T), f_R_fill_40 F k28 N x0 x2 x3 x4 x5 x6 h = some h' → hm_le h h' := by
  intro N
  induction N with
  | zero => intro _ _ _ _ _ _ _ hf; cases hf
  | succ n ih => intro x0 x2 x3 x4 x5 x6 h hf; exact m_g_R_fill_40 hk28 ih hf
theorem m_g_R_fill_28 {F : Nat} {h h' : hm_T} {x0 : Nat} {x2 : Nat} {x3 : Int32} {x4 : Nat} {x5 : Int32} {k28 : Nat → Nat → Int32 → Nat → Int32 → hm_T → Option hm_T} (hk28 : ∀ (y0 : Nat) (y2 : Nat) (y3 : Int32) (y4 : Nat) (y5 : Int32) (g : hm_T), k28 y0 y2 y3 y4 y5 g = some h' → hm_le g h') (hf : g_R_fill_28 F k28 x0 x2 x3 x4 x5 h = some h') : hm_le h h' := by
  unfold g_R_fill_28 at hf
  obtain ⟨v1, ev1, hf⟩ := hm_bind hf
  by_cases z2 : v1 ≤ x5
  · have hf := hm_ifp hf z2
    exact (hm_le.retv hf)
  · have hf := hm_ifn hf z2
    exact (m_R_fill_40L hk28 _ _ _ _ _ _ _ _ hf)
theorem m_R_fill_28L {F : Nat} {h' : hm_T} : ∀ (N : Nat) (x0 : Nat) (x2 : Nat) (x3 : Int32) (x4 : Nat) (x5 : Int32) (h : hm_T), f_R_fill_28 F N x0 x2 x3 x4 x5 h = some h' → hm_le h h' := by
  intro N
  induction N with
  | zero => intro _ _ _ _ _ _ hf; cases hf
  | succ n ih => intro x0 x2 x3 x4 x5 h hf; exact m_g_R_fill_28 ih hf
theorem m_f_R_fill_25 {F : Nat} {h h' : hm_T} {x0 : Nat} {x2 : Nat} {x3 : Int32} {x4 : Nat} (hf : f_R_fill_25 F x0 x2 x3 x4 h = some h') : hm_le h h' := by
  unfold f_R_fill_25 at hf
  exact (m_R_fill_28L _ _ _ _ _ _ _ hf)
theorem m_g_R_fill_3 {F : Nat} {h h' : hm_T} {x0 : Nat} {x1 : Nat} {x2 : Nat} {x3 : Int32} {x4 : Nat} {x5 : Int32} {k3 : Nat → Nat → Nat → Int32 → Nat → Int32 → hm_T → Option hm_T} (hk3 : ∀ (y0 : Nat) (y1 : Nat) (y2 : Nat) (y3 : Int32) (y4 : Nat) (y5 : Int32) (g : hm_T), k3 y0 y1 y2 y3 y4 y5 g = some h' → hm_le g h') (hf : g_R_fill_3 F k3 x0 x1 x2 x3 x4 x5 h = some h') : hm_le h h' := by
  unfold g_R_fill_3 at hf
  by_cases z1 : (256 : Int32) ≤ x5
  · have hf := hm_ifp hf z1
    exact (m_f_R_fill_25 hf)
  · have hf := hm_ifn hf z1
    obtain ⟨v2, ev2, hf⟩ := hm_bind hf
    obtain ⟨h3, eh3, hf⟩ := hm_bind hf
    have mh3 := hm_le.ist eh3
    exact mh3.tr ((hk3 _ _ _ _ _ _ _ hf))
theorem m_R_fill_3L {F : Nat} {h' : hm_T} : ∀ (N : Nat) (x0 : Nat) (x1 : Nat) (x2 : Nat) (x3 : Int32) (x4 : Nat) (x5 : Int32) (h : hm_T), f_R_fill_3 F N x0 x1 x2 x3 x4 x5 h = some h' → hm_le h h' := by
  intro N
  induction N with
  | zero => intro _ _ _ _ _ _ _ hf; cases hf
  | succ n ih => intro x0 x1 x2 x3 x4 x5 h hf; exact m_g_R_fill_3 ih hf
theorem m_f_R_fill {F : Nat} {h h' : hm_T} {x0 : Nat} {x1 : Nat} {x2 : Nat} {x3 : Int32} {x4 : Nat} (hf : f_R_fill F x0 x1 x2 x3 x4 h = some h') : hm_le h h' := by
  unfold f_R_fill at hf
  exact (m_R_fill_3L _ _ _ _ _ _ _ _ hf)
set_option maxRecDepth 20000 in
set_option maxHeartbeats 1000000 in
theorem w_f_R_fill_150 {p : Program} {l : Launch} {e : Env} {R : Room} {s : State} {m : MethodId} {args : Array Value} {below : List Frame} {meth : Method} {c : Code} {E : hm_E} {n0 s0 F : Nat} {h h' : hm_T} {x0 : Nat} {x2 : Nat} {x3 : Int32} {x4 : Nat} {x5 : Int32} {k28 : Nat → Nat → Int32 → Nat → Int32 → hm_T → Option hm_T} (C : hm_C E prog_6_method_14_code 9 "DistanceLabelsModel" 0 0 n0 s0 (hm_n h') (hm_s h') p R s m args c) (hr : meth.sig.returnType = none) (hlk : meth.locks = false) (hk28 : ∀ (y0 : Nat) (y2 : Nat) (y3 : Int32) (y4 : Nat) (y5 : Int32) (g : hm_T), k28 y0 y2 y3 y4 y5 g = some h' → hm_G E 9 n0 s0 (hm_n h') (hm_s h') p l e R s m args below meth c (MQ below (hm_Qc E none h') args s (hm_n h' - n0) (hm_s h' - s0) (fun q => E.2.2 ≤ q)) 28 [(0, .ref y0), (2, .ref y2), (3, .int y3), (4, .ref y4), (5, .int y5)] [] g) (hf : f_R_fill_150 F k28 x0 x2 x3 x4 x5 h = some h') : hm_G E 9 n0 s0 (hm_n h') (hm_s h') p l e R s m args below meth c (MQ below (hm_Qc E none h') args s (hm_n h' - n0) (hm_s h' - s0) (fun q => E.2.2 ≤ q)) 150 [(0, .ref x0), (2, .ref x2), (3, .int x3), (4, .ref x4), (5, .int x5)] [] h := by
  unfold f_R_fill_150 at hf
  refine hm_iinc (v := (x5 + (1 : Int32))) (lv' := [(5, .int (x5 + (1 : Int32))), (0, .ref x0), (2, .ref x2), (3, .int x3), (4, .ref x4)]) C d_R_fill_150 4 rfl rfl (by decide) rfl ?_
  refine hm_goto (tgt := 28) C d_R_fill_153 (by decide) ?_
  refine hm_sub (lv' := [(0, .ref x0), (2, .ref x2), (3, .int x3), (4, .ref x4), (5, .int (x5 + (1 : Int32)))]) [1, 2, 3, 4, 0] rfl ?_
  exact hk28 _ _ _ _ _ _ hf
set_option maxRecDepth 20000 in
set_option maxHeartbeats 1000000 in
theorem w_f_R_fill_144 {p : Program} {l : Launch} {e : Env} {R : Room} {s : State} {m : MethodId} {args : Array Value} {below : List Frame} {meth : Method} {c : Code} {E : hm_E} {n0 s0 F : Nat} {h h' : hm_T} {x0 : Nat} {x2 : Nat} {x3 : Int32} {x4 : Nat} {x5 : Int32} {x6 : Int32} {k40 : Nat → Nat → Int32 → Nat → Int32 → Int32 → hm_T → Option hm_T} (C : hm_C E prog_6_method_14_code 9 "DistanceLabelsModel" 0 0 n0 s0 (hm_n h') (hm_s h') p R s m args c) (hr : meth.sig.returnType = none) (hlk : meth.locks = false) (hk40 : ∀ (y0 : Nat) (y2 : Nat) (y3 : Int32) (y4 : Nat) (y5 : Int32) (y6 : Int32) (g : hm_T), k40 y0 y2 y3 y4 y5 y6 g = some h' → hm_G E 9 n0 s0 (hm_n h') (hm_s h') p l e R s m args below meth c (MQ below (hm_Qc E none h') args s (hm_n h' - n0) (hm_s h' - s0) (fun q => E.2.2 ≤ q)) 40 [(0, .ref y0), (2, .ref y2), (3, .int y3), (4, .ref y4), (5, .int y5), (6, .int y6)] [] g) (hf : f_R_fill_144 F k40 x0 x2 x3 x4 x5 x6 h = some h') : hm_G E 9 n0 s0 (hm_n h') (hm_s h') p l e R s m args below meth c (MQ below (hm_Qc E none h') args s (hm_n h' - n0) (hm_s h' - s0) (fun q => E.2.2 ≤ q)) 144 [(0, .ref x0), (2, .ref x2), (3, .int x3), (4, .ref x4), (5, .int x5), (6, .int x6)] [] h := by
  unfold f_R_fill_144 at hf
  refine hm_iinc (v := (x6 + (1 : Int32))) (lv' := [(6, .int (x6 + (1 : Int32))), (0, .ref x0), (2, .ref x2), (3, .int x3), (4, .ref x4), (5, .int x5)]) C d_R_fill_144 5 rfl rfl (by decide) rfl ?_
  refine hm_goto (tgt := 40) C d_R_fill_147 (by decide) ?_
  refine hm_sub (lv' := [(0, .ref x0), (2, .ref x2), (3, .int x3), (4, .ref x4), (5, .int x5), (6, .int (x6 + (1 : Int32)))]) [1, 2, 3, 4, 5, 0] rfl ?_
  exact hk40 _ _ _ _ _ _ _ hf
set_option maxRecDepth 20000 in
set_option maxHeartbeats 1000000 in
theorem w_f_R_fill_137 {p : Program} {l : Launch} {e : Env} {R : Room} {s : State} {m : MethodId} {args : Array Value} {below : List Frame} {meth : Method} {c : Code} {E : hm_E} {n0 s0 F : Nat} {h h' : hm_T} {x0 : Nat} {x2 : Nat} {x3 : Int32} {x4 : Nat} {x5 : Int32} {x6 : Int32} {x7 : Int32} {t0 : Int32} {t1 : Int32} {t2 : Nat} {k66 : Nat → Nat → Int32 → Nat → Int32 → Int32 → Int32 → hm_T → Option hm_T} (C : hm_C E prog_6_method_14_code 9 "DistanceLabelsModel" 0 0 n0 s0 (hm_n h') (hm_s h') p R s m args c) (hr : meth.sig.returnType = none) (hlk : meth.locks = false) (hk66 : ∀ (y0 : Nat) (y2 : Nat) (y3 : Int32) (y4 : Nat) (y5 : Int32) (y6 : Int32) (y7 : Int32) (g : hm_T), k66 y0 y2 y3 y4 y5 y6 y7 g = some h' → hm_G E 9 n0 s0 (hm_n h') (hm_s h') p l e R s m args below meth c (MQ below (hm_Qc E none h') args s (hm_n h' - n0) (hm_s h' - s0) (fun q => E.2.2 ≤ q)) 66 [(0, .ref y0), (2, .ref y2), (3, .int y3), (4, .ref y4), (5, .int y5), (6, .int y6), (7, .int y7)] [] g) (hf : f_R_fill_137 F k66 x0 x2 x3 x4 x5 x6 x7 t0 t1 t2 h = some h') : hm_G E 9 n0 s0 (hm_n h') (hm_s h') p l e R s m args below meth c (MQ below (hm_Qc E none h') args s (hm_n h' - n0) (hm_s h' - s0) (fun q => E.2.2 ≤ q)) 137 [(0, .ref x0), (2, .ref x2), (3, .int x3), (4, .ref x4), (5, .int x5), (6, .int x6), (7, .int x7)] [.int t0, .int t1, .ref t2] h := by
  unfold f_R_fill_137 at hf
  obtain ⟨h1, eh1, hf⟩ := hm_bind hf
  refine hm_iastore C d_R_fill_137 eh1 ?_
  refine hm_iinc (v := (x7 + (1 : Int32))) (lv' := [(7, .int (x7 + (1 : Int32))), (0, .ref x0), (2, .ref x2), (3, .int x3), (4, .ref x4), (5, .int x5), (6, .int x6)]) C d_R_fill_138 6 rfl rfl (by decide) rfl ?_
  refine hm_goto (tgt := 66) C d_R_fill_141 (by decide) ?_
  refine hm_sub (lv' := [(0, .ref x0), (2, .ref x2), (3, .int x3), (4, .ref x4), (5, .int x5), (6, .int x6), (7, .int (x7 + (1 : Int32)))]) [1, 2, 3, 4, 5, 6, 0] rfl ?_
  exact hk66 _ _ _ _ _ _ _ _ hf
set_option maxRecDepth 20000 in
set_option maxHeartbeats 1000000 in
theorem w_g_R_fill_66 {p : Program} {l : Launch} {e : Env} {R : Room} {s : State} {m : MethodId} {args : Array Value} {below : List Frame} {meth : Method} {c : Code} {E : hm_E} {n0 s0 F : Nat} {h h' : hm_T} {x0 : Nat} {x2 : Nat} {x3 : Int32} {x4 : Nat} {x5 : Int32} {x6 : Int32} {x7 : Int32} {k40 : Nat → Nat → Int32 → Nat → Int32 → Int32 → hm_T → Option hm_T} {k66 : Nat → Nat → Int32 → Nat → Int32 → Int32 → Int32 → hm_T → Option hm_T} (C : hm_C E prog_6_method_14_code 9 "DistanceLabelsModel" 0 0 n0 s0 (hm_n h') (hm_s h') p R s m args c) (hr : meth.sig.returnType = none) (hlk : meth.locks = false) (hk40 : ∀ (y0 : Nat) (y2 : Nat) (y3 : Int32) (y4 : Nat) (y5 : Int32) (y6 : Int32) (g : hm_T), k40 y0 y2 y3 y4 y5 y6 g = some h' → hm_G E 9 n0 s0 (hm_n h') (hm_s h') p l e R s m args below meth c (MQ below (hm_Qc E none h') args s (hm_n h' - n0) (hm_s h' - s0) (fun q => E.2.2 ≤ q)) 40 [(0, .ref y0), (2, .ref y2), (3, .int y3), (4, .ref y4), (5, .int y5), (6, .int y6)] [] g) (hk66 : ∀ (y0 : Nat) (y2 : Nat) (y3 : Int32) (y4 : Nat) (y5 : Int32) (y6 : Int32) (y7 : Int32) (g : hm_T), k66 y0 y2 y3 y4 y5 y6 y7 g = some h' → hm_G E 9 n0 s0 (hm_n h') (hm_s h') p l e R s m args below meth c (MQ below (hm_Qc E none h') args s (hm_n h' - n0) (hm_s h' - s0) (fun q => E.2.2 ≤ q)) 66 [(0, .ref y0), (2, .ref y2), (3, .int y3), (4, .ref y4), (5, .int y5), (6, .int y6), (7, .int y7)] [] g) (hf : g_R_fill_66 F k40 k66 x0 x2 x3 x4 x5 x6 x7 h = some h') : hm_G E 9 n0 s0 (hm_n h') (hm_s h') p l e R s m args below meth c (MQ below (hm_Qc E none h') args s (hm_n h' - n0) (hm_s h' - s0) (fun q => E.2.2 ≤ q)) 66 [(0, .ref x0), (2, .ref x2), (3, .int x3), (4, .ref x4), (5, .int x5), (6, .int x6), (7, .int x7)] [] h := by
  unfold g_R_fill_66 at hf
  refine hm_iload C d_R_fill_66 6 rfl ?_
  refine hm_aload_n C d_R_fill_68 rfl 0 rfl ?_
  obtain ⟨v1, ev1, hf⟩ := hm_bind hf
  refine hm_getI C F_4 1 (by decide) rfl k_159 d_R_fill_69 ev1 ?_
  refine hm_icmp_ge (tgt := 144) C d_R_fill_72 (by decide) (fun z2 => ?_) (fun z2 => ?_)
  · have hf := hm_ifp hf z2
    refine hm_sub (lv' := [(0, .ref x0), (2, .ref x2), (3, .int x3), (4, .ref x4), (5, .int x5), (6, .int x6)]) [0, 1, 2, 3, 4, 5] rfl ?_
    exact w_f_R_fill_144 C hr hlk hk40 hf
  · have hf := hm_ifn hf z2
    refine hm_aload_n C d_R_fill_75 rfl 1 rfl ?_
    refine hm_bipush (v := (16 : Int32)) C d_R_fill_76 (by decide) ?_
    refine hm_iload C d_R_fill_78 5 rfl ?_
    refine hm_imul C d_R_fill_80 ?_
    refine hm_iload C d_R_fill_81 4 rfl ?_
    refine hm_iadd C d_R_fill_83 ?_
    obtain ⟨v3, ev3, hf⟩ := hm_bind hf
    refine hm_iaload C d_R_fill_84 ev3 ?_
    refine hm_aload_n C d_R_fill_85 rfl 1 rfl ?_
    refine hm_bipush (v := (16 : Int32)) C d_R_fill_86 (by decide) ?_
    refine hm_iload C d_R_fill_88 4 rfl ?_
    refine hm_imul C d_R_fill_90 ?_
    refine hm_iload C d_R_fill_91 6 rfl ?_
    refine hm_iadd C d_R_fill_93 ?_
    obtain ⟨v4, ev4, hf⟩ := hm_bind hf
    refine hm_iaload C d_R_fill_94 ev4 ?_
    refine hm_iadd C d_R_fill_95 ?_
    refine hm_istore (lv' := [(8, .int (v3 + v4)), (0, .ref x0), (2, .ref x2), (3, .int x3), (4, .ref x4), (5, .int x5), (6, .int x6), (7, .int x7)]) C d_R_fill_96 (by decide) rfl ?_
    refine hm_aload_n C d_R_fill_98 rfl 2 rfl ?_
    refine hm_bipush (v := (16 : Int32)) C d_R_fill_99 (by decide) ?_
    refine hm_iload C d_R_fill_101 6 rfl ?_
    refine hm_imul C d_R_fill_103 ?_
    refine hm_iload C d_R_fill_104 7 rfl ?_
    refine hm_iadd C d_R_fill_106 ?_
    refine hm_iload C d_R_fill_107 0 rfl ?_
    refine hm_aload_n C d_R_fill_109 rfl 2 rfl ?_
    refine hm_bipush (v := (16 : Int32)) C d_R_fill_110 (by decide) ?_
    refine hm_iload C d_R_fill_112 6 rfl ?_
    refine hm_imul C d_R_fill_114 ?_
    refine hm_iload C d_R_fill_115 7 rfl ?_
    refine hm_iadd C d_R_fill_117 ?_
    obtain ⟨v5, ev5, hf⟩ := hm_bind hf
    refine hm_iaload C d_R_fill_118 ev5 ?_
    refine hm_icmp_ge (tgt := 127) C d_R_fill_119 (by decide) (fun z6 => ?_) (fun z6 => ?_)
    · have hf := hm_ifp hf z6
      refine hm_aload_n C d_R_fill_127 rfl 2 rfl ?_
      refine hm_bipush (v := (16 : Int32)) C d_R_fill_128 (by decide) ?_
      refine hm_iload C d_R_fill_130 6 rfl ?_
      refine hm_imul C d_R_fill_132 ?_
      refine hm_iload C d_R_fill_133 7 rfl ?_
      refine hm_iadd C d_R_fill_135 ?_
      obtain ⟨v7, ev7, hf⟩ := hm_bind hf
      refine hm_iaload C d_R_fill_136 ev7 ?_
      refine hm_sub (lv' := [(0, .ref x0), (2, .ref x2), (3, .int x3), (4, .ref x4), (5, .int x5), (6, .int x6), (7, .int x7)]) [1, 2, 3, 4, 5, 6, 7] rfl ?_
      exact w_f_R_fill_137 C hr hlk hk66 hf
    · have hf := hm_ifn hf z6
      refine hm_iload C d_R_fill_122 0 rfl ?_
      refine hm_goto (tgt := 137) C d_R_fill_124 (by decide) ?_
      refine hm_sub (lv' := [(0, .ref x0), (2, .ref x2), (3, .int x3), (4, .ref x4), (5, .int x5), (6, .int x6), (7, .int x7)]) [1, 2, 3, 4, 5, 6, 7] rfl ?_
      exact w_f_R_fill_137 C hr hlk hk66 hf
theorem w_R_fill_66L {p : Program} {l : Launch} {e : Env} {R : Room} {s : State} {m : MethodId} {args : Array Value} {below : List Frame} {meth : Method} {c : Code} {E : hm_E} {n0 s0 F : Nat} {h' : hm_T} {k40 : Nat → Nat → Int32 → Nat → Int32 → Int32 → hm_T → Option hm_T} (C : hm_C E prog_6_method_14_code 9 "DistanceLabelsModel" 0 0 n0 s0 (hm_n h') (hm_s h') p R s m args c) (hr : meth.sig.returnType = none) (hlk : meth.locks = false) (hk40 : ∀ (y0 : Nat) (y2 : Nat) (y3 : Int32) (y4 : Nat) (y5 : Int32) (y6 : Int32) (g : hm_T), k40 y0 y2 y3 y4 y5 y6 g = some h' → hm_G E 9 n0 s0 (hm_n h') (hm_s h') p l e R s m args below meth c (MQ below (hm_Qc E none h') args s (hm_n h' - n0) (hm_s h' - s0) (fun q => E.2.2 ≤ q)) 40 [(0, .ref y0), (2, .ref y2), (3, .int y3), (4, .ref y4), (5, .int y5), (6, .int y6)] [] g) : ∀ (N : Nat) (x0 : Nat) (x2 : Nat) (x3 : Int32) (x4 : Nat) (x5 : Int32) (x6 : Int32) (x7 : Int32) (h : hm_T), f_R_fill_66 F k40 N x0 x2 x3 x4 x5 x6 x7 h = some h' → hm_G E 9 n0 s0 (hm_n h') (hm_s h') p l e R s m args below meth c (MQ below (hm_Qc E none h') args s (hm_n h' - n0) (hm_s h' - s0) (fun q => E.2.2 ≤ q)) 66 [(0, .ref x0), (2, .ref x2), (3, .int x3), (4, .ref x4), (5, .int x5), (6, .int x6), (7, .int x7)] [] h := by
  intro N
  induction N with
  | zero => intro _ _ _ _ _ _ _ _ hf; cases hf
  | succ n ih => intro x0 x2 x3 x4 x5 x6 x7 h hf; exact w_g_R_fill_66 C hr hlk hk40 ih hf
set_option maxRecDepth 20000 in
set_option maxHeartbeats 1000000 in
theorem w_g_R_fill_40 {p : Program} {l : Launch} {e : Env} {R : Room} {s : State} {m : MethodId} {args : Array Value} {below : List Frame} {meth : Method} {c : Code} {E : hm_E} {n0 s0 F : Nat} {h h' : hm_T} {x0 : Nat} {x2 : Nat} {x3 : Int32} {x4 : Nat} {x5 : Int32} {x6 : Int32} {k28 : Nat → Nat → Int32 → Nat → Int32 → hm_T → Option hm_T} {k40 : Nat → Nat → Int32 → Nat → Int32 → Int32 → hm_T → Option hm_T} (C : hm_C E prog_6_method_14_code 9 "DistanceLabelsModel" 0 0 n0 s0 (hm_n h') (hm_s h') p R s m args c) (hr : meth.sig.returnType = none) (hlk : meth.locks = false) (hk28 : ∀ (y0 : Nat) (y2 : Nat) (y3 : Int32) (y4 : Nat) (y5 : Int32) (g : hm_T), k28 y0 y2 y3 y4 y5 g = some h' → hm_G E 9 n0 s0 (hm_n h') (hm_s h') p l e R s m args below meth c (MQ below (hm_Qc E none h') args s (hm_n h' - n0) (hm_s h' - s0) (fun q => E.2.2 ≤ q)) 28 [(0, .ref y0), (2, .ref y2), (3, .int y3), (4, .ref y4), (5, .int y5)] [] g) (hk40 : ∀ (y0 : Nat) (y2 : Nat) (y3 : Int32) (y4 : Nat) (y5 : Int32) (y6 : Int32) (g : hm_T), k40 y0 y2 y3 y4 y5 y6 g = some h' → hm_G E 9 n0 s0 (hm_n h') (hm_s h') p l e R s m args below meth c (MQ below (hm_Qc E none h') args s (hm_n h' - n0) (hm_s h' - s0) (fun q => E.2.2 ≤ q)) 40 [(0, .ref y0), (2, .ref y2), (3, .int y3), (4, .ref y4), (5, .int y5), (6, .int y6)] [] g) (hf : g_R_fill_40 F k28 k40 x0 x2 x3 x4 x5 x6 h = some h') : hm_G E 9 n0 s0 (hm_n h') (hm_s h') p l e R s m args below meth c (MQ below (hm_Qc E none h') args s (hm_n h' - n0) (hm_s h' - s0) (fun q => E.2.2 ≤ q)) 40 [(0, .ref x0), (2, .ref x2), (3, .int x3), (4, .ref x4), (5, .int x5), (6, .int x6)] [] h := by
  unfold g_R_fill_40 at hf
  refine hm_iload C d_R_fill_40 5 rfl ?_
  refine hm_aload_n C d_R_fill_42 rfl 0 rfl ?_
  obtain ⟨v1, ev1, hf⟩ := hm_bind hf
  refine hm_getI C F_4 1 (by decide) rfl k_159 d_R_fill_43 ev1 ?_
  refine hm_icmp_ge (tgt := 150) C d_R_fill_46 (by decide) (fun z2 => ?_) (fun z2 => ?_)
  · have hf := hm_ifp hf z2
    refine hm_sub (lv' := [(0, .ref x0), (2, .ref x2), (3, .int x3), (4, .ref x4), (5, .int x5)]) [0, 1, 2, 3, 4] rfl ?_
    exact w_f_R_fill_150 C hr hlk hk28 hf
  · have hf := hm_ifn hf z2
    refine hm_iload C d_R_fill_49 4 rfl ?_
    refine hm_iload_n C d_R_fill_51 rfl 2 rfl ?_
    refine hm_icmp_eq (tgt := 150) C d_R_fill_52 (by decide) (fun z3 => ?_) (fun z3 => ?_)
    · have hf := hm_ifp hf z3
      refine hm_sub (lv' := [(0, .ref x0), (2, .ref x2), (3, .int x3), (4, .ref x4), (5, .int x5)]) [0, 1, 2, 3, 4] rfl ?_
      exact w_f_R_fill_150 C hr hlk hk28 hf
    · have hf := hm_ifn hf z3
      refine hm_aload C d_R_fill_55 3 rfl ?_
      refine hm_iload C d_R_fill_57 4 rfl ?_
      obtain ⟨v4, ev4, hf⟩ := hm_bind hf
      refine hm_baload C d_R_fill_59 ev4 ?_
      refine hm_if_ne (tgt := 150) C d_R_fill_60 (by decide) (fun z5 => ?_) (fun z5 => ?_)
      · have hf := hm_ifn hf z5
        refine hm_sub (lv' := [(0, .ref x0), (2, .ref x2), (3, .int x3), (4, .ref x4), (5, .int x5)]) [0, 1, 2, 3, 4] rfl ?_
        exact w_f_R_fill_150 C hr hlk hk28 hf
      · have hf := hm_ifp hf z5
        refine hm_iconst (v := (0 : Int32)) C d_R_fill_63 (by decide) ?_
        refine hm_istore (lv' := [(7, .int (0 : Int32)), (0, .ref x0), (2, .ref x2), (3, .int x3), (4, .ref x4), (5, .int x5), (6, .int x6)]) C d_R_fill_64 (by decide) rfl ?_
        refine hm_sub (lv' := [(0, .ref x0), (2, .ref x2), (3, .int x3), (4, .ref x4), (5, .int x5), (6, .int x6), (7, .int (0 : Int32))]) [1, 2, 3, 4, 5, 6, 0] rfl ?_
        exact w_R_fill_66L C hr hlk hk40 _ _ _ _ _ _ _ _ _ hf
theorem w_R_fill_40L {p : Program} {l : Launch} {e : Env} {R : Room} {s : State} {m : MethodId} {args : Array Value} {below : List Frame} {meth : Method} {c : Code} {E : hm_E} {n0 s0 F : Nat} {h' : hm_T} {k28 : Nat → Nat → Int32 → Nat → Int32 → hm_T → Option hm_T} (C : hm_C E prog_6_method_14_code 9 "DistanceLabelsModel" 0 0 n0 s0 (hm_n h') (hm_s h') p R s m args c) (hr : meth.sig.returnType = none) (hlk : meth.locks = false) (hk28 : ∀ (y0 : Nat) (y2 : Nat) (y3 : Int32) (y4 : Nat) (y5 : Int32) (g : hm_T), k28 y0 y2 y3 y4 y5 g = some h' → hm_G E 9 n0 s0 (hm_n h') (hm_s h') p l e R s m args below meth c (MQ below (hm_Qc E none h') args s (hm_n h' - n0) (hm_s h' - s0) (fun q => E.2.2 ≤ q)) 28 [(0, .ref y0), (2, .ref y2), (3, .int y3), (4, .ref y4), (5, .int y5)] [] g) : ∀ (N : Nat) (x0 : Nat) (x2 : Nat) (x3 : Int32) (x4 : Nat) (x5 : Int32) (x6 : Int32) (h : hm_T), f_R_fill_40 F k28 N x0 x2 x3 x4 x5 x6 h = some h' → hm_G E 9 n0 s0 (hm_n h') (hm_s h') p l e R s m args below meth c (MQ below (hm_Qc E none h') args s (hm_n h' - n0) (hm_s h' - s0) (fun q => E.2.2 ≤ q)) 40 [(0, .ref x0), (2, .ref x2), (3, .int x3), (4, .ref x4), (5, .int x5), (6, .int x6)] [] h := by
  intro N
  induction N with
  | zero => intro _ _ _ _ _ _ _ hf; cases hf
  | succ n ih => intro x0 x2 x3 x4 x5 x6 h hf; exact w_g_R_fill_40 C hr hlk hk28 ih hf
set_option maxRecDepth 20000 in
set_option maxHeartbeats 1000000 in
theorem w_g_R_fill_28 {p : Program} {l : Launch} {e : Env} {R : Room} {s : State} {m : MethodId} {args : Array Value} {below : List Frame} {meth : Method} {c : Code} {E : hm_E} {n0 s0 F : Nat} {h h' : hm_T} {x0 : Nat} {x2 : Nat} {x3 : Int32} {x4 : Nat} {x5 : Int32} {k28 : Nat → Nat → Int32 → Nat → Int32 → hm_T → Option hm_T} (C : hm_C E prog_6_method_14_code 9 "DistanceLabelsModel" 0 0 n0 s0 (hm_n h') (hm_s h') p R s m args c) (hr : meth.sig.returnType = none) (hlk : meth.locks = false) (hk28 : ∀ (y0 : Nat) (y2 : Nat) (y3 : Int32) (y4 : Nat) (y5 : Int32) (g : hm_T), k28 y0 y2 y3 y4 y5 g = some h' → hm_G E 9 n0 s0 (hm_n h') (hm_s h') p l e R s m args below meth c (MQ below (hm_Qc E none h') args s (hm_n h' - n0) (hm_s h' - s0) (fun q => E.2.2 ≤ q)) 28 [(0, .ref y0), (2, .ref y2), (3, .int y3), (4, .ref y4), (5, .int y5)] [] g) (hf : g_R_fill_28 F k28 x0 x2 x3 x4 x5 h = some h') : hm_G E 9 n0 s0 (hm_n h') (hm_s h') p l e R s m args below meth c (MQ below (hm_Qc E none h') args s (hm_n h' - n0) (hm_s h' - s0) (fun q => E.2.2 ≤ q)) 28 [(0, .ref x0), (2, .ref x2), (3, .int x3), (4, .ref x4), (5, .int x5)] [] h := by
  unfold g_R_fill_28 at hf
  refine hm_iload C d_R_fill_28 4 rfl ?_
  refine hm_aload_n C d_R_fill_30 rfl 0 rfl ?_
  obtain ⟨v1, ev1, hf⟩ := hm_bind hf
  refine hm_getI C F_4 1 (by decide) rfl k_159 d_R_fill_31 ev1 ?_
  refine hm_icmp_ge (tgt := 156) C d_R_fill_34 (by decide) (fun z2 => ?_) (fun z2 => ?_)
  · have hf := hm_ifp hf z2
    exact hm_vret C hr hlk d_R_fill_156 hf
  · have hf := hm_ifn hf z2
    refine hm_iconst (v := (0 : Int32)) C d_R_fill_37 (by decide) ?_
    refine hm_istore (lv' := [(6, .int (0 : Int32)), (0, .ref x0), (2, .ref x2), (3, .int x3), (4, .ref x4), (5, .int x5)]) C d_R_fill_38 (by decide) rfl ?_
    refine hm_sub (lv' := [(0, .ref x0), (2, .ref x2), (3, .int x3), (4, .ref x4), (5, .int x5), (6, .int (0 : Int32))]) [1, 2, 3, 4, 5, 0] rfl ?_
    exact w_R_fill_40L C hr hlk hk28 _ _ _ _ _ _ _ _ hf
theorem w_R_fill_28L {p : Program} {l : Launch} {e : Env} {R : Room} {s : State} {m : MethodId} {args : Array Value} {below : List Frame} {meth : Method} {c : Code} {E : hm_E} {n0 s0 F : Nat} {h' : hm_T} (C : hm_C E prog_6_method_14_code 9 "DistanceLabelsModel" 0 0 n0 s0 (hm_n h') (hm_s h') p R s m args c) (hr : meth.sig.returnType = none) (hlk : meth.locks = false) : ∀ (N : Nat) (x0 : Nat) (x2 : Nat) (x3 : Int32) (x4 : Nat) (x5 : Int32) (h : hm_T), f_R_fill_28 F N x0 x2 x3 x4 x5 h = some h' → hm_G E 9 n0 s0 (hm_n h') (hm_s h') p l e R s m args below meth c (MQ below (hm_Qc E none h') args s (hm_n h' - n0) (hm_s h' - s0) (fun q => E.2.2 ≤ q)) 28 [(0, .ref x0), (2, .ref x2), (3, .int x3), (4, .ref x4), (5, .int x5)] [] h := by
  intro N
  induction N with
  | zero => intro _ _ _ _ _ _ hf; cases hf
  | succ n ih => intro x0 x2 x3 x4 x5 h hf; exact w_g_R_fill_28 C hr hlk ih hf
set_option maxRecDepth 20000 in
set_option maxHeartbeats 1000000 in
theorem w_f_R_fill_25 {p : Program} {l : Launch} {e : Env} {R : Room} {s : State} {m : MethodId} {args : Array Value} {below : List Frame} {meth : Method} {c : Code} {E : hm_E} {n0 s0 F : Nat} {h h' : hm_T} {x0 : Nat} {x2 : Nat} {x3 : Int32} {x4 : Nat} (C : hm_C E prog_6_method_14_code 9 "DistanceLabelsModel" 0 0 n0 s0 (hm_n h') (hm_s h') p R s m args c) (hr : meth.sig.returnType = none) (hlk : meth.locks = false) (hf : f_R_fill_25 F x0 x2 x3 x4 h = some h') : hm_G E 9 n0 s0 (hm_n h') (hm_s h') p l e R s m args below meth c (MQ below (hm_Qc E none h') args s (hm_n h' - n0) (hm_s h' - s0) (fun q => E.2.2 ≤ q)) 25 [(0, .ref x0), (2, .ref x2), (3, .int x3), (4, .ref x4)] [] h := by
  unfold f_R_fill_25 at hf
  refine hm_iconst (v := (0 : Int32)) C d_R_fill_25 (by decide) ?_
  refine hm_istore (lv' := [(5, .int (0 : Int32)), (0, .ref x0), (2, .ref x2), (3, .int x3), (4, .ref x4)]) C d_R_fill_26 (by decide) rfl ?_
  refine hm_sub (lv' := [(0, .ref x0), (2, .ref x2), (3, .int x3), (4, .ref x4), (5, .int (0 : Int32))]) [1, 2, 3, 4, 0] rfl ?_
  exact w_R_fill_28L C hr hlk _ _ _ _ _ _ _ hf
set_option maxRecDepth 20000 in
set_option maxHeartbeats 1000000 in
theorem w_g_R_fill_3 {p : Program} {l : Launch} {e : Env} {R : Room} {s : State} {m : MethodId} {args : Array Value} {below : List Frame} {meth : Method} {c : Code} {E : hm_E} {n0 s0 F : Nat} {h h' : hm_T} {x0 : Nat} {x1 : Nat} {x2 : Nat} {x3 : Int32} {x4 : Nat} {x5 : Int32} {k3 : Nat → Nat → Nat → Int32 → Nat → Int32 → hm_T → Option hm_T} (C : hm_C E prog_6_method_14_code 9 "DistanceLabelsModel" 0 0 n0 s0 (hm_n h') (hm_s h') p R s m args c) (hr : meth.sig.returnType = none) (hlk : meth.locks = false) (hk3 : ∀ (y0 : Nat) (y1 : Nat) (y2 : Nat) (y3 : Int32) (y4 : Nat) (y5 : Int32) (g : hm_T), k3 y0 y1 y2 y3 y4 y5 g = some h' → hm_G E 9 n0 s0 (hm_n h') (hm_s h') p l e R s m args below meth c (MQ below (hm_Qc E none h') args s (hm_n h' - n0) (hm_s h' - s0) (fun q => E.2.2 ≤ q)) 3 [(0, .ref y0), (1, .ref y1), (2, .ref y2), (3, .int y3), (4, .ref y4), (5, .int y5)] [] g) (hf : g_R_fill_3 F k3 x0 x1 x2 x3 x4 x5 h = some h') : hm_G E 9 n0 s0 (hm_n h') (hm_s h') p l e R s m args below meth c (MQ below (hm_Qc E none h') args s (hm_n h' - n0) (hm_s h' - s0) (fun q => E.2.2 ≤ q)) 3 [(0, .ref x0), (1, .ref x1), (2, .ref x2), (3, .int x3), (4, .ref x4), (5, .int x5)] [] h := by
  unfold g_R_fill_3 at hf
  refine hm_iload C d_R_fill_3 5 rfl ?_
  refine hm_sipush (v := (256 : Int32)) C d_R_fill_5 (by decide) ?_
  refine hm_icmp_ge (tgt := 25) C d_R_fill_8 (by decide) (fun z1 => ?_) (fun z1 => ?_)
  · have hf := hm_ifp hf z1
    refine hm_sub (lv' := [(0, .ref x0), (2, .ref x2), (3, .int x3), (4, .ref x4)]) [0, 2, 3, 4] rfl ?_
    exact w_f_R_fill_25 C hr hlk hf
  · have hf := hm_ifn hf z1
    refine hm_aload_n C d_R_fill_11 rfl 2 rfl ?_
    refine hm_iload C d_R_fill_12 5 rfl ?_
    refine hm_aload_n C d_R_fill_14 rfl 1 rfl ?_
    refine hm_iload C d_R_fill_15 5 rfl ?_
    obtain ⟨v2, ev2, hf⟩ := hm_bind hf
    refine hm_iaload C d_R_fill_17 ev2 ?_
    obtain ⟨h3, eh3, hf⟩ := hm_bind hf
    refine hm_iastore C d_R_fill_18 eh3 ?_
    refine hm_iinc (v := (x5 + (1 : Int32))) (lv' := [(5, .int (x5 + (1 : Int32))), (0, .ref x0), (1, .ref x1), (2, .ref x2), (3, .int x3), (4, .ref x4)]) C d_R_fill_19 5 rfl rfl (by decide) rfl ?_
    refine hm_goto (tgt := 3) C d_R_fill_22 (by decide) ?_
    refine hm_sub (lv' := [(0, .ref x0), (1, .ref x1), (2, .ref x2), (3, .int x3), (4, .ref x4), (5, .int (x5 + (1 : Int32)))]) [1, 2, 3, 4, 5, 0] rfl ?_
    exact hk3 _ _ _ _ _ _ _ hf
theorem w_R_fill_3L {p : Program} {l : Launch} {e : Env} {R : Room} {s : State} {m : MethodId} {args : Array Value} {below : List Frame} {meth : Method} {c : Code} {E : hm_E} {n0 s0 F : Nat} {h' : hm_T} (C : hm_C E prog_6_method_14_code 9 "DistanceLabelsModel" 0 0 n0 s0 (hm_n h') (hm_s h') p R s m args c) (hr : meth.sig.returnType = none) (hlk : meth.locks = false) : ∀ (N : Nat) (x0 : Nat) (x1 : Nat) (x2 : Nat) (x3 : Int32) (x4 : Nat) (x5 : Int32) (h : hm_T), f_R_fill_3 F N x0 x1 x2 x3 x4 x5 h = some h' → hm_G E 9 n0 s0 (hm_n h') (hm_s h') p l e R s m args below meth c (MQ below (hm_Qc E none h') args s (hm_n h' - n0) (hm_s h' - s0) (fun q => E.2.2 ≤ q)) 3 [(0, .ref x0), (1, .ref x1), (2, .ref x2), (3, .int x3), (4, .ref x4), (5, .int x5)] [] h := by
  intro N
  induction N with
  | zero => intro _ _ _ _ _ _ _ hf; cases hf
  | succ n ih => intro x0 x1 x2 x3 x4 x5 h hf; exact w_g_R_fill_3 C hr hlk ih hf
set_option maxRecDepth 20000 in
set_option maxHeartbeats 1000000 in
theorem w_f_R_fill {p : Program} {l : Launch} {e : Env} {R : Room} {s : State} {m : MethodId} {args : Array Value} {below : List Frame} {meth : Method} {c : Code} {E : hm_E} {n0 s0 F : Nat} {h h' : hm_T} {x0 : Nat} {x1 : Nat} {x2 : Nat} {x3 : Int32} {x4 : Nat} (C : hm_C E prog_6_method_14_code 9 "DistanceLabelsModel" 0 0 n0 s0 (hm_n h') (hm_s h') p R s m args c) (hr : meth.sig.returnType = none) (hlk : meth.locks = false) (hf : f_R_fill F x0 x1 x2 x3 x4 h = some h') : hm_G E 9 n0 s0 (hm_n h') (hm_s h') p l e R s m args below meth c (MQ below (hm_Qc E none h') args s (hm_n h' - n0) (hm_s h' - s0) (fun q => E.2.2 ≤ q)) 0 [(0, .ref x0), (1, .ref x1), (2, .ref x2), (3, .int x3), (4, .ref x4)] [] h := by
  unfold f_R_fill at hf
  refine hm_iconst (v := (0 : Int32)) C d_R_fill_0 (by decide) ?_
  refine hm_istore (lv' := [(5, .int (0 : Int32)), (0, .ref x0), (1, .ref x1), (2, .ref x2), (3, .int x3), (4, .ref x4)]) C d_R_fill_1 (by decide) rfl ?_
  refine hm_sub (lv' := [(0, .ref x0), (1, .ref x1), (2, .ref x2), (3, .int x3), (4, .ref x4), (5, .int (0 : Int32))]) [1, 2, 3, 4, 5, 0] rfl ?_
  exact w_R_fill_3L C hr hlk _ _ _ _ _ _ _ _ hf
set_option maxRecDepth 20000 in
theorem c_R_fill {E : hm_E} {l : Launch} {F : Nat} {h h' : hm_T} {x0 : Nat} {x1 : Nat} {x2 : Nat} {x3 : Int32} {x4 : Nat} (hf : f_R_fill F x0 x1 x2 x3 x4 h = some h') : hm_M E l y_R_fill prog_6_method_14_code 9 none 0 0 [.ref x0, .ref x1, .ref x2, .int x3, .ref x4] h none h' :=
  hm_enter (by decide +kernel) (Nat.le_of_ble_eq_true rfl) (m_f_R_fill hf) (fun p e R s m below meth c C hr hlk hin => w_f_R_fill C hr hlk hf)
def f_R_isStation_123 (F : Nat) (k50 : Nat → Int32 → Int32 → Int32 → Int32 → Int32 → hm_T → Option (Int32 × hm_T)) (x0 : Nat) (x3 : Int32) (x4 : Int32) (x5 : Int32) (x7 : Int32) (t0 : Int32) (h : hm_T) : Option (Int32 × hm_T) :=
  k50 x0 x3 x4 x5 t0 (x7 + (1 : Int32)) h
def g_R_isStation_50 (F : Nat) (k50 : Nat → Int32 → Int32 → Int32 → Int32 → Int32 → hm_T → Option (Int32 × hm_T)) (x0 : Nat) (x3 : Int32) (x4 : Int32) (x5 : Int32) (x6 : Int32) (x7 : Int32) (h : hm_T) : Option (Int32 × hm_T) :=
  (hm_gr 4 25 3 h x0).bind (fun a1 => (hm_ild h a1 x7).bind (fun v2 => (if v2 = x3 then (hm_zr x6).bind (fun v4 => some (v4, h)) else (if x6 = 0 then (hm_zr x6).bind (fun v6 => some (v6, h)) else (hm_gr 4 25 3 h x0).bind (fun a7 => (hm_ild h a7 x7).bind (fun v8 => (hm_gr 4 25 6 h x0).bind (fun a9 => (hm_ild h a9 (((16 : Int32) * x4) + v8)).bind (fun v10 => (hm_gr 4 25 6 h x0).bind (fun a11 => (hm_ild h a11 (((16 : Int32) * v8) + x5)).bind (fun v12 => (hm_gr 4 25 6 h x0).bind (fun a13 => (hm_ild h a13 (((16 : Int32) * x4) + x5)).bind (fun v14 => (if (v10 + v12) = v14 then f_R_isStation_123 F k50 x0 x3 x4 x5 x7 (0 : Int32) h else f_R_isStation_123 F k50 x0 x3 x4 x5 x7 (1 : Int32) h)))))))))))))
def f_R_isStation_50 (F : Nat) : Nat → Nat → Int32 → Int32 → Int32 → Int32 → Int32 → hm_T → Option (Int32 × hm_T)
  | 0 => fun _ _ _ _ _ _ _ => none
  | n + 1 => g_R_isStation_50 F (f_R_isStation_50 F n)
def f_R_isStation_45 (F : Nat) (x0 : Nat) (x3 : Int32) (x4 : Int32) (x5 : Int32) (t0 : Int32) (h : hm_T) : Option (Int32 × hm_T) :=
  f_R_isStation_50 F F x0 x3 x4 x5 t0 (0 : Int32) h
def f_R_isStation_20 (F : Nat) (x0 : Nat) (x3 : Int32) (x4 : Int32) (t0 : Int32) (h : hm_T) : Option (Int32 × hm_T) :=
  (hm_gr 4 25 6 h x0).bind (fun a1 => (hm_ild h a1 (((16 : Int32) * x4) + t0)).bind (fun v2 => (if (1000000 : Int32) ≤ v2 then f_R_isStation_45 F x0 x3 x4 t0 (0 : Int32) h else f_R_isStation_45 F x0 x3 x4 t0 (1 : Int32) h)))
def f_R_isStation_9 (F : Nat) (x0 : Nat) (x1 : Int32) (x2 : Int32) (x3 : Int32) (t0 : Int32) (h : hm_T) : Option (Int32 × hm_T) :=
  (if x1 = 0 then f_R_isStation_20 F x0 x3 t0 x3 h else f_R_isStation_20 F x0 x3 t0 x2 h)
def f_R_isStation (F : Nat) (x0 : Nat) (x1 : Int32) (x2 : Int32) (x3 : Int32) (h : hm_T) : Option (Int32 × hm_T) :=
  (if x1 = 0 then f_R_isStation_9 F x0 x1 x2 x3 x2 h else f_R_isStation_9 F x0 x1 x2 x3 x3 h)
theorem m_f_R_isStation_123 {F : Nat} {r : Int32} {h h' : hm_T} {x0 : Nat} {x3 : Int32} {x4 : Int32} {x5 : Int32} {x7 : Int32} {t0 : Int32} {k50 : Nat → Int32 → Int32 → Int32 → Int32 → Int32 → hm_T → Option (Int32 × hm_T)} (hk50 : ∀ (y0 : Nat) (y3 : Int32) (y4 : Int32) (y5 : Int32) (y6 : Int32) (y7 : Int32) (g : hm_T), k50 y0 y3 y4 y5 y6 y7 g = some (r, h') → hm_le g h') (hf : f_R_isStation_123 F k50 x0 x3 x4 x5 x7 t0 h = some (r, h')) : hm_le h h' := by
  unfold f_R_isStation_123 at hf
  exact (hk50 _ _ _ _ _ _ _ hf)
theorem m_g_R_isStation_50 {F : Nat} {r : Int32} {h h' : hm_T} {x0 : Nat} {x3 : Int32} {x4 : Int32} {x5 : Int32} {x6 : Int32} {x7 : Int32} {k50 : Nat → Int32 → Int32 → Int32 → Int32 → Int32 → hm_T → Option (Int32 × hm_T)} (hk50 : ∀ (y0 : Nat) (y3 : Int32) (y4 : Int32) (y5 : Int32) (y6 : Int32) (y7 : Int32) (g : hm_T), k50 y0 y3 y4 y5 y6 y7 g = some (r, h') → hm_le g h') (hf : g_R_isStation_50 F k50 x0 x3 x4 x5 x6 x7 h = some (r, h')) : hm_le h h' := by
  unfold g_R_isStation_50 at hf
  obtain ⟨a1, ea1, hf⟩ := hm_bind hf
  obtain ⟨v2, ev2, hf⟩ := hm_bind hf
  by_cases z3 : v2 = x3
  · have hf := hm_ifp hf z3
    obtain ⟨v4, ev4, hf⟩ := hm_bind hf
    exact (hm_le.ret hf)
  · have hf := hm_ifn hf z3
    by_cases z5 : x6 = 0
    · have hf := hm_ifp hf z5
      obtain ⟨v6, ev6, hf⟩ := hm_bind hf
      exact (hm_le.ret hf)
    · have hf := hm_ifn hf z5
      obtain ⟨a7, ea7, hf⟩ := hm_bind hf
      obtain ⟨v8, ev8, hf⟩ := hm_bind hf
      obtain ⟨a9, ea9, hf⟩ := hm_bind hf
      obtain ⟨v10, ev10, hf⟩ := hm_bind hf
      obtain ⟨a11, ea11, hf⟩ := hm_bind hf
      obtain ⟨v12, ev12, hf⟩ := hm_bind hf
      obtain ⟨a13, ea13, hf⟩ := hm_bind hf
      obtain ⟨v14, ev14, hf⟩ := hm_bind hf
      by_cases z15 : (v10 + v12) = v14
      · have hf := hm_ifp hf z15
        exact (m_f_R_isStation_123 hk50 hf)
      · have hf := hm_ifn hf z15
        exact (m_f_R_isStation_123 hk50 hf)
theorem m_R_isStation_50L {F : Nat} {r : Int32} {h' : hm_T} : ∀ (N : Nat) (x0 : Nat) (x3 : Int32) (x4 : Int32) (x5 : Int32) (x6 : Int32) (x7 : Int32) (h : hm_T), f_R_isStation_50 F N x0 x3 x4 x5 x6 x7 h = some (r, h') → hm_le h h' := by
  intro N
  induction N with
  | zero => intro _ _ _ _ _ _ _ hf; cases hf
  | succ n ih => intro x0 x3 x4 x5 x6 x7 h hf; exact m_g_R_isStation_50 ih hf
theorem m_f_R_isStation_45 {F : Nat} {r : Int32} {h h' : hm_T} {x0 : Nat} {x3 : Int32} {x4 : Int32} {x5 : Int32} {t0 : Int32} (hf : f_R_isStation_45 F x0 x3 x4 x5 t0 h = some (r, h')) : hm_le h h' := by
  unfold f_R_isStation_45 at hf
  exact (m_R_isStation_50L _ _ _ _ _ _ _ _ hf)
theorem m_f_R_isStation_20 {F : Nat} {r : Int32} {h h' : hm_T} {x0 : Nat} {x3 : Int32} {x4 : Int32} {t0 : Int32} (hf : f_R_isStation_20 F x0 x3 x4 t0 h = some (r, h')) : hm_le h h' := by
  unfold f_R_isStation_20 at hf
  obtain ⟨a1, ea1, hf⟩ := hm_bind hf
  obtain ⟨v2, ev2, hf⟩ := hm_bind hf
  by_cases z3 : (1000000 : Int32) ≤ v2
  · have hf := hm_ifp hf z3
    exact (m_f_R_isStation_45 hf)
  · have hf := hm_ifn hf z3
    exact (m_f_R_isStation_45 hf)
theorem m_f_R_isStation_9 {F : Nat} {r : Int32} {h h' : hm_T} {x0 : Nat} {x1 : Int32} {x2 : Int32} {x3 : Int32} {t0 : Int32} (hf : f_R_isStation_9 F x0 x1 x2 x3 t0 h = some (r, h')) : hm_le h h' := by
  unfold f_R_isStation_9 at hf
  by_cases z1 : x1 = 0
  · have hf := hm_ifp hf z1
    exact (m_f_R_isStation_20 hf)
  · have hf := hm_ifn hf z1
    exact (m_f_R_isStation_20 hf)
theorem m_f_R_isStation {F : Nat} {r : Int32} {h h' : hm_T} {x0 : Nat} {x1 : Int32} {x2 : Int32} {x3 : Int32} (hf : f_R_isStation F x0 x1 x2 x3 h = some (r, h')) : hm_le h h' := by
  unfold f_R_isStation at hf
  by_cases z1 : x1 = 0
  · have hf := hm_ifp hf z1
    exact (m_f_R_isStation_9 hf)
  · have hf := hm_ifn hf z1
    exact (m_f_R_isStation_9 hf)
set_option maxRecDepth 20000 in
set_option maxHeartbeats 1000000 in
theorem w_f_R_isStation_123 {p : Program} {l : Launch} {e : Env} {R : Room} {s : State} {m : MethodId} {args : Array Value} {below : List Frame} {meth : Method} {c : Code} {E : hm_E} {n0 s0 F : Nat} {r : Int32} {h h' : hm_T} {x0 : Nat} {x3 : Int32} {x4 : Int32} {x5 : Int32} {x7 : Int32} {t0 : Int32} {k50 : Nat → Int32 → Int32 → Int32 → Int32 → Int32 → hm_T → Option (Int32 × hm_T)} (C : hm_C E prog_6_method_15_code 9 "DistanceLabelsModel" 0 0 n0 s0 (hm_n h') (hm_s h') p R s m args c) (hr : meth.sig.returnType = (some .boolean)) (hlk : meth.locks = false) (hk50 : ∀ (y0 : Nat) (y3 : Int32) (y4 : Int32) (y5 : Int32) (y6 : Int32) (y7 : Int32) (g : hm_T), k50 y0 y3 y4 y5 y6 y7 g = some (r, h') → hm_G E 9 n0 s0 (hm_n h') (hm_s h') p l e R s m args below meth c (MQ below (hm_Qc E (some (.int r)) h') args s (hm_n h' - n0) (hm_s h' - s0) (fun q => E.2.2 ≤ q)) 50 [(0, .ref y0), (3, .int y3), (4, .int y4), (5, .int y5), (6, .int y6), (7, .int y7)] [] g) (hf : f_R_isStation_123 F k50 x0 x3 x4 x5 x7 t0 h = some (r, h')) : hm_G E 9 n0 s0 (hm_n h') (hm_s h') p l e R s m args below meth c (MQ below (hm_Qc E (some (.int r)) h') args s (hm_n h' - n0) (hm_s h' - s0) (fun q => E.2.2 ≤ q)) 123 [(0, .ref x0), (3, .int x3), (4, .int x4), (5, .int x5), (7, .int x7)] [.int t0] h := by
  unfold f_R_isStation_123 at hf
  refine hm_istore (lv' := [(6, .int t0), (0, .ref x0), (3, .int x3), (4, .int x4), (5, .int x5), (7, .int x7)]) C d_R_isStation_123 (by decide) rfl ?_
  refine hm_iinc (v := (x7 + (1 : Int32))) (lv' := [(7, .int (x7 + (1 : Int32))), (6, .int t0), (0, .ref x0), (3, .int x3), (4, .int x4), (5, .int x5)]) C d_R_isStation_125 5 rfl rfl (by decide) rfl ?_
  refine hm_goto (tgt := 50) C d_R_isStation_128 (by decide) ?_
  refine hm_sub (lv' := [(0, .ref x0), (3, .int x3), (4, .int x4), (5, .int x5), (6, .int t0), (7, .int (x7 + (1 : Int32)))]) [2, 3, 4, 5, 1, 0] rfl ?_
  exact hk50 _ _ _ _ _ _ _ hf
set_option maxRecDepth 20000 in
set_option maxHeartbeats 1000000 in
theorem w_g_R_isStation_50 {p : Program} {l : Launch} {e : Env} {R : Room} {s : State} {m : MethodId} {args : Array Value} {below : List Frame} {meth : Method} {c : Code} {E : hm_E} {n0 s0 F : Nat} {r : Int32} {h h' : hm_T} {x0 : Nat} {x3 : Int32} {x4 : Int32} {x5 : Int32} {x6 : Int32} {x7 : Int32} {k50 : Nat → Int32 → Int32 → Int32 → Int32 → Int32 → hm_T → Option (Int32 × hm_T)} (C : hm_C E prog_6_method_15_code 9 "DistanceLabelsModel" 0 0 n0 s0 (hm_n h') (hm_s h') p R s m args c) (hr : meth.sig.returnType = (some .boolean)) (hlk : meth.locks = false) (hk50 : ∀ (y0 : Nat) (y3 : Int32) (y4 : Int32) (y5 : Int32) (y6 : Int32) (y7 : Int32) (g : hm_T), k50 y0 y3 y4 y5 y6 y7 g = some (r, h') → hm_G E 9 n0 s0 (hm_n h') (hm_s h') p l e R s m args below meth c (MQ below (hm_Qc E (some (.int r)) h') args s (hm_n h' - n0) (hm_s h' - s0) (fun q => E.2.2 ≤ q)) 50 [(0, .ref y0), (3, .int y3), (4, .int y4), (5, .int y5), (6, .int y6), (7, .int y7)] [] g) (hf : g_R_isStation_50 F k50 x0 x3 x4 x5 x6 x7 h = some (r, h')) : hm_G E 9 n0 s0 (hm_n h') (hm_s h') p l e R s m args below meth c (MQ below (hm_Qc E (some (.int r)) h') args s (hm_n h' - n0) (hm_s h' - s0) (fun q => E.2.2 ≤ q)) 50 [(0, .ref x0), (3, .int x3), (4, .int x4), (5, .int x5), (6, .int x6), (7, .int x7)] [] h := by
  unfold g_R_isStation_50 at hf
  refine hm_aload_n C d_R_isStation_50 rfl 0 rfl ?_
  obtain ⟨a1, ea1, hf⟩ := hm_bind hf
  refine hm_getR C F_4 3 (by decide) rfl k_141 d_R_isStation_51 ea1 ?_
  refine hm_iload C d_R_isStation_54 5 rfl ?_
  obtain ⟨v2, ev2, hf⟩ := hm_bind hf
  refine hm_iaload C d_R_isStation_56 ev2 ?_
  refine hm_iload_n C d_R_isStation_57 rfl 1 rfl ?_
  refine hm_icmp_eq (tgt := 131) C d_R_isStation_58 (by decide) (fun z3 => ?_) (fun z3 => ?_)
  · have hf := hm_ifp hf z3
    refine hm_iload C d_R_isStation_131 4 rfl ?_
    obtain ⟨v4, ev4, hf⟩ := hm_bind hf
    exact hm_zret C hr hlk d_R_isStation_133 ev4 hf
  · have hf := hm_ifn hf z3
    refine hm_iload C d_R_isStation_61 4 rfl ?_
    refine hm_if_eq (tgt := 131) C d_R_isStation_63 (by decide) (fun z5 => ?_) (fun z5 => ?_)
    · have hf := hm_ifp hf z5
      refine hm_iload C d_R_isStation_131 4 rfl ?_
      obtain ⟨v6, ev6, hf⟩ := hm_bind hf
      exact hm_zret C hr hlk d_R_isStation_133 ev6 hf
    · have hf := hm_ifn hf z5
      refine hm_aload_n C d_R_isStation_66 rfl 0 rfl ?_
      obtain ⟨a7, ea7, hf⟩ := hm_bind hf
      refine hm_getR C F_4 3 (by decide) rfl k_141 d_R_isStation_67 ea7 ?_
      refine hm_iload C d_R_isStation_70 5 rfl ?_
      obtain ⟨v8, ev8, hf⟩ := hm_bind hf
      refine hm_iaload C d_R_isStation_72 ev8 ?_
      refine hm_istore (lv' := [(8, .int v8), (0, .ref x0), (3, .int x3), (4, .int x4), (5, .int x5), (6, .int x6), (7, .int x7)]) C d_R_isStation_73 (by decide) rfl ?_
      refine hm_aload_n C d_R_isStation_75 rfl 1 rfl ?_
      obtain ⟨a9, ea9, hf⟩ := hm_bind hf
      refine hm_getR C F_4 6 (by decide) rfl k_143 d_R_isStation_76 ea9 ?_
      refine hm_bipush (v := (16 : Int32)) C d_R_isStation_79 (by decide) ?_
      refine hm_iload C d_R_isStation_81 3 rfl ?_
      refine hm_imul C d_R_isStation_83 ?_
      refine hm_iload C d_R_isStation_84 0 rfl ?_
      refine hm_iadd C d_R_isStation_86 ?_
      obtain ⟨v10, ev10, hf⟩ := hm_bind hf
      refine hm_iaload C d_R_isStation_87 ev10 ?_
      refine hm_aload_n C d_R_isStation_88 rfl 1 rfl ?_
      obtain ⟨a11, ea11, hf⟩ := hm_bind hf
      refine hm_getR C F_4 6 (by decide) rfl k_143 d_R_isStation_89 ea11 ?_
      refine hm_bipush (v := (16 : Int32)) C d_R_isStation_92 (by decide) ?_
      refine hm_iload C d_R_isStation_94 0 rfl ?_
      refine hm_imul C d_R_isStation_96 ?_
      refine hm_iload C d_R_isStation_97 4 rfl ?_
      refine hm_iadd C d_R_isStation_99 ?_
      obtain ⟨v12, ev12, hf⟩ := hm_bind hf
      refine hm_iaload C d_R_isStation_100 ev12 ?_
      refine hm_iadd C d_R_isStation_101 ?_
      refine hm_aload_n C d_R_isStation_102 rfl 1 rfl ?_
      obtain ⟨a13, ea13, hf⟩ := hm_bind hf
      refine hm_getR C F_4 6 (by decide) rfl k_143 d_R_isStation_103 ea13 ?_
      refine hm_bipush (v := (16 : Int32)) C d_R_isStation_106 (by decide) ?_
      refine hm_iload C d_R_isStation_108 3 rfl ?_
      refine hm_imul C d_R_isStation_110 ?_
      refine hm_iload C d_R_isStation_111 4 rfl ?_
      refine hm_iadd C d_R_isStation_113 ?_
      obtain ⟨v14, ev14, hf⟩ := hm_bind hf
      refine hm_iaload C d_R_isStation_114 ev14 ?_
      refine hm_icmp_eq (tgt := 122) C d_R_isStation_115 (by decide) (fun z15 => ?_) (fun z15 => ?_)
      · have hf := hm_ifp hf z15
        refine hm_iconst (v := (0 : Int32)) C d_R_isStation_122 (by decide) ?_
        refine hm_sub (lv' := [(0, .ref x0), (3, .int x3), (4, .int x4), (5, .int x5), (7, .int x7)]) [1, 2, 3, 4, 6] rfl ?_
        exact w_f_R_isStation_123 C hr hlk hk50 hf
      · have hf := hm_ifn hf z15
        refine hm_iconst (v := (1 : Int32)) C d_R_isStation_118 (by decide) ?_
        refine hm_goto (tgt := 123) C d_R_isStation_119 (by decide) ?_
        refine hm_sub (lv' := [(0, .ref x0), (3, .int x3), (4, .int x4), (5, .int x5), (7, .int x7)]) [1, 2, 3, 4, 6] rfl ?_
        exact w_f_R_isStation_123 C hr hlk hk50 hf
theorem w_R_isStation_50L {p : Program} {l : Launch} {e : Env} {R : Room} {s : State} {m : MethodId} {args : Array Value} {below : List Frame} {meth : Method} {c : Code} {E : hm_E} {n0 s0 F : Nat} {r : Int32} {h' : hm_T} (C : hm_C E prog_6_method_15_code 9 "DistanceLabelsModel" 0 0 n0 s0 (hm_n h') (hm_s h') p R s m args c) (hr : meth.sig.returnType = (some .boolean)) (hlk : meth.locks = false) : ∀ (N : Nat) (x0 : Nat) (x3 : Int32) (x4 : Int32) (x5 : Int32) (x6 : Int32) (x7 : Int32) (h : hm_T), f_R_isStation_50 F N x0 x3 x4 x5 x6 x7 h = some (r, h') → hm_G E 9 n0 s0 (hm_n h') (hm_s h') p l e R s m args below meth c (MQ below (hm_Qc E (some (.int r)) h') args s (hm_n h' - n0) (hm_s h' - s0) (fun q => E.2.2 ≤ q)) 50 [(0, .ref x0), (3, .int x3), (4, .int x4), (5, .int x5), (6, .int x6), (7, .int x7)] [] h := by
  intro N
  induction N with
  | zero => intro _ _ _ _ _ _ _ hf; cases hf
  | succ n ih => intro x0 x3 x4 x5 x6 x7 h hf; exact w_g_R_isStation_50 C hr hlk ih hf
set_option maxRecDepth 20000 in
set_option maxHeartbeats 1000000 in
theorem w_f_R_isStation_45 {p : Program} {l : Launch} {e : Env} {R : Room} {s : State} {m : MethodId} {args : Array Value} {below : List Frame} {meth : Method} {c : Code} {E : hm_E} {n0 s0 F : Nat} {r : Int32} {h h' : hm_T} {x0 : Nat} {x3 : Int32} {x4 : Int32} {x5 : Int32} {t0 : Int32} (C : hm_C E prog_6_method_15_code 9 "DistanceLabelsModel" 0 0 n0 s0 (hm_n h') (hm_s h') p R s m args c) (hr : meth.sig.returnType = (some .boolean)) (hlk : meth.locks = false) (hf : f_R_isStation_45 F x0 x3 x4 x5 t0 h = some (r, h')) : hm_G E 9 n0 s0 (hm_n h') (hm_s h') p l e R s m args below meth c (MQ below (hm_Qc E (some (.int r)) h') args s (hm_n h' - n0) (hm_s h' - s0) (fun q => E.2.2 ≤ q)) 45 [(0, .ref x0), (3, .int x3), (4, .int x4), (5, .int x5)] [.int t0] h := by
  unfold f_R_isStation_45 at hf
  refine hm_istore (lv' := [(6, .int t0), (0, .ref x0), (3, .int x3), (4, .int x4), (5, .int x5)]) C d_R_isStation_45 (by decide) rfl ?_
  refine hm_iconst (v := (0 : Int32)) C d_R_isStation_47 (by decide) ?_
  refine hm_istore (lv' := [(7, .int (0 : Int32)), (6, .int t0), (0, .ref x0), (3, .int x3), (4, .int x4), (5, .int x5)]) C d_R_isStation_48 (by decide) rfl ?_
  refine hm_sub (lv' := [(0, .ref x0), (3, .int x3), (4, .int x4), (5, .int x5), (6, .int t0), (7, .int (0 : Int32))]) [2, 3, 4, 5, 1, 0] rfl ?_
  exact w_R_isStation_50L C hr hlk _ _ _ _ _ _ _ _ hf
set_option maxRecDepth 20000 in
set_option maxHeartbeats 1000000 in
theorem w_f_R_isStation_20 {p : Program} {l : Launch} {e : Env} {R : Room} {s : State} {m : MethodId} {args : Array Value} {below : List Frame} {meth : Method} {c : Code} {E : hm_E} {n0 s0 F : Nat} {r : Int32} {h h' : hm_T} {x0 : Nat} {x3 : Int32} {x4 : Int32} {t0 : Int32} (C : hm_C E prog_6_method_15_code 9 "DistanceLabelsModel" 0 0 n0 s0 (hm_n h') (hm_s h') p R s m args c) (hr : meth.sig.returnType = (some .boolean)) (hlk : meth.locks = false) (hf : f_R_isStation_20 F x0 x3 x4 t0 h = some (r, h')) : hm_G E 9 n0 s0 (hm_n h') (hm_s h') p l e R s m args below meth c (MQ below (hm_Qc E (some (.int r)) h') args s (hm_n h' - n0) (hm_s h' - s0) (fun q => E.2.2 ≤ q)) 20 [(0, .ref x0), (3, .int x3), (4, .int x4)] [.int t0] h := by
  unfold f_R_isStation_20 at hf
  refine hm_istore (lv' := [(5, .int t0), (0, .ref x0), (3, .int x3), (4, .int x4)]) C d_R_isStation_20 (by decide) rfl ?_
  refine hm_aload_n C d_R_isStation_22 rfl 1 rfl ?_
  obtain ⟨a1, ea1, hf⟩ := hm_bind hf
  refine hm_getR C F_4 6 (by decide) rfl k_143 d_R_isStation_23 ea1 ?_
  refine hm_bipush (v := (16 : Int32)) C d_R_isStation_26 (by decide) ?_
  refine hm_iload C d_R_isStation_28 3 rfl ?_
  refine hm_imul C d_R_isStation_30 ?_
  refine hm_iload C d_R_isStation_31 0 rfl ?_
  refine hm_iadd C d_R_isStation_33 ?_
  obtain ⟨v2, ev2, hf⟩ := hm_bind hf
  refine hm_iaload C d_R_isStation_34 ev2 ?_
  refine hm_ldc (v := (1000000 : Int32)) C k_139 d_R_isStation_35 ?_
  refine hm_icmp_ge (tgt := 44) C d_R_isStation_37 (by decide) (fun z3 => ?_) (fun z3 => ?_)
  · have hf := hm_ifp hf z3
    refine hm_iconst (v := (0 : Int32)) C d_R_isStation_44 (by decide) ?_
    refine hm_sub (lv' := [(0, .ref x0), (3, .int x3), (4, .int x4), (5, .int t0)]) [1, 2, 3, 0] rfl ?_
    exact w_f_R_isStation_45 C hr hlk hf
  · have hf := hm_ifn hf z3
    refine hm_iconst (v := (1 : Int32)) C d_R_isStation_40 (by decide) ?_
    refine hm_goto (tgt := 45) C d_R_isStation_41 (by decide) ?_
    refine hm_sub (lv' := [(0, .ref x0), (3, .int x3), (4, .int x4), (5, .int t0)]) [1, 2, 3, 0] rfl ?_
    exact w_f_R_isStation_45 C hr hlk hf
set_option maxRecDepth 20000 in
set_option maxHeartbeats 1000000 in
theorem w_f_R_isStation_9 {p : Program} {l : Launch} {e : Env} {R : Room} {s : State} {m : MethodId} {args : Array Value} {below : List Frame} {meth : Method} {c : Code} {E : hm_E} {n0 s0 F : Nat} {r : Int32} {h h' : hm_T} {x0 : Nat} {x1 : Int32} {x2 : Int32} {x3 : Int32} {t0 : Int32} (C : hm_C E prog_6_method_15_code 9 "DistanceLabelsModel" 0 0 n0 s0 (hm_n h') (hm_s h') p R s m args c) (hr : meth.sig.returnType = (some .boolean)) (hlk : meth.locks = false) (hf : f_R_isStation_9 F x0 x1 x2 x3 t0 h = some (r, h')) : hm_G E 9 n0 s0 (hm_n h') (hm_s h') p l e R s m args below meth c (MQ below (hm_Qc E (some (.int r)) h') args s (hm_n h' - n0) (hm_s h' - s0) (fun q => E.2.2 ≤ q)) 9 [(0, .ref x0), (1, .int x1), (2, .int x2), (3, .int x3)] [.int t0] h := by
  unfold f_R_isStation_9 at hf
  refine hm_istore (lv' := [(4, .int t0), (0, .ref x0), (1, .int x1), (2, .int x2), (3, .int x3)]) C d_R_isStation_9 (by decide) rfl ?_
  refine hm_iload_n C d_R_isStation_11 rfl 2 rfl ?_
  refine hm_if_ne (tgt := 19) C d_R_isStation_12 (by decide) (fun z1 => ?_) (fun z1 => ?_)
  · have hf := hm_ifn hf z1
    refine hm_iload_n C d_R_isStation_19 rfl 3 rfl ?_
    refine hm_sub (lv' := [(0, .ref x0), (3, .int x3), (4, .int t0)]) [1, 4, 0] rfl ?_
    exact w_f_R_isStation_20 C hr hlk hf
  · have hf := hm_ifp hf z1
    refine hm_iload_n C d_R_isStation_15 rfl 4 rfl ?_
    refine hm_goto (tgt := 20) C d_R_isStation_16 (by decide) ?_
    refine hm_sub (lv' := [(0, .ref x0), (3, .int x3), (4, .int t0)]) [1, 4, 0] rfl ?_
    exact w_f_R_isStation_20 C hr hlk hf
set_option maxRecDepth 20000 in
set_option maxHeartbeats 1000000 in
theorem w_f_R_isStation {p : Program} {l : Launch} {e : Env} {R : Room} {s : State} {m : MethodId} {args : Array Value} {below : List Frame} {meth : Method} {c : Code} {E : hm_E} {n0 s0 F : Nat} {r : Int32} {h h' : hm_T} {x0 : Nat} {x1 : Int32} {x2 : Int32} {x3 : Int32} (C : hm_C E prog_6_method_15_code 9 "DistanceLabelsModel" 0 0 n0 s0 (hm_n h') (hm_s h') p R s m args c) (hr : meth.sig.returnType = (some .boolean)) (hlk : meth.locks = false) (hf : f_R_isStation F x0 x1 x2 x3 h = some (r, h')) : hm_G E 9 n0 s0 (hm_n h') (hm_s h') p l e R s m args below meth c (MQ below (hm_Qc E (some (.int r)) h') args s (hm_n h' - n0) (hm_s h' - s0) (fun q => E.2.2 ≤ q)) 0 [(0, .ref x0), (1, .int x1), (2, .int x2), (3, .int x3)] [] h := by
  unfold f_R_isStation at hf
  refine hm_iload_n C d_R_isStation_0 rfl 1 rfl ?_
  refine hm_if_ne (tgt := 8) C d_R_isStation_1 (by decide) (fun z1 => ?_) (fun z1 => ?_)
  · have hf := hm_ifn hf z1
    refine hm_iload_n C d_R_isStation_8 rfl 3 rfl ?_
    exact w_f_R_isStation_9 C hr hlk hf
  · have hf := hm_ifp hf z1
    refine hm_iload_n C d_R_isStation_4 rfl 2 rfl ?_
    refine hm_goto (tgt := 9) C d_R_isStation_5 (by decide) ?_
    exact w_f_R_isStation_9 C hr hlk hf
set_option maxRecDepth 20000 in
theorem c_R_isStation {E : hm_E} {l : Launch} {F : Nat} {r : Int32} {h h' : hm_T} {x0 : Nat} {x1 : Int32} {x2 : Int32} {x3 : Int32} (hf : f_R_isStation F x0 x1 x2 x3 h = some (r, h')) : hm_M E l y_R_isStation prog_6_method_15_code 9 (some .boolean) 0 0 [.ref x0, .int x1, .int x2, .int x3] h (some (.int r)) h' :=
  hm_enter (by decide +kernel) (Nat.le_of_ble_eq_true rfl) (m_f_R_isStation hf) (fun p e R s m below meth c C hr hlk hin => w_f_R_isStation C hr hlk hf)
def f_R_climbAll_332 (F : Nat) (k262 : Nat → Int32 → hm_T → Option hm_T) (x0 : Nat) (x1 : Int32) (x2 : Int32) (h : hm_T) : Option hm_T :=
  (hm_gr 4 25 15 h x0).bind (fun a1 => (hm_ist h a1 x1 x2).bind (fun h2 => k262 x0 (x1 + (1 : Int32)) h2))
def f_R_climbAll_325 (F : Nat) (k274 : Nat → Int32 → Int32 → Int32 → hm_T → Option hm_T) (x0 : Nat) (x1 : Int32) (x3 : Int32) (t0 : Int32) (h : hm_T) : Option hm_T :=
  k274 x0 x1 t0 (x3 + (1 : Int32)) h
def g_R_climbAll_274 (F : Nat) (k262 : Nat → Int32 → hm_T → Option hm_T) (k274 : Nat → Int32 → Int32 → Int32 → hm_T → Option hm_T) (x0 : Nat) (x1 : Int32) (x2 : Int32) (x3 : Int32) (h : hm_T) : Option hm_T :=
  (hm_gi 4 25 1 h x0).bind (fun v1 => (if v1 ≤ x3 then f_R_climbAll_332 F k262 x0 x1 x2 h else (hm_gr 4 25 21 h x0).bind (fun a3 => (if (16 : Int32) = 0 then none else (hm_ild h a3 (((16 : Int32) * (x1 / (16 : Int32))) + x3)).bind (fun v5 => (hm_gr 4 25 22 h x0).bind (fun a6 => (if (16 : Int32) = 0 then none else (hm_ild h a6 (((16 : Int32) * x3) + (x1 - x1 / (16 : Int32) * (16 : Int32)))).bind (fun v8 => (if x2 ≤ (v5 + v8) then f_R_climbAll_325 F k274 x0 x1 x3 x2 h else f_R_climbAll_325 F k274 x0 x1 x3 (v5 + v8) h)))))))))
def f_R_climbAll_274 (F : Nat) (k262 : Nat → Int32 → hm_T → Option hm_T) : Nat → Nat → Int32 → Int32 → Int32 → hm_T → Option hm_T
  | 0 => fun _ _ _ _ _ => none
  | n + 1 => g_R_climbAll_274 F k262 (f_R_climbAll_274 F k262 n)
def g_R_climbAll_262 (F : Nat) (k262 : Nat → Int32 → hm_T → Option hm_T) (x0 : Nat) (x1 : Int32) (h : hm_T) : Option hm_T :=
  (if (256 : Int32) ≤ x1 then some h else f_R_climbAll_274 F k262 F x0 x1 (1000000 : Int32) (0 : Int32) h)
def f_R_climbAll_262 (F : Nat) : Nat → Nat → Int32 → hm_T → Option hm_T
  | 0 => fun _ _ _ => none
  | n + 1 => g_R_climbAll_262 F (f_R_climbAll_262 F n)
def f_R_climbAll_260 (F : Nat) (x0 : Nat) (h : hm_T) : Option hm_T :=
  f_R_climbAll_262 F F x0 (0 : Int32) h
def f_R_climbAll_254 (F : Nat) (k52 : Nat → Int32 → hm_T → Option hm_T) (x0 : Nat) (x1 : Int32) (h : hm_T) : Option hm_T :=
  k52 x0 (x1 + (1 : Int32)) h
def f_R_climbAll_248 (F : Nat) (k69 : Nat → Int32 → Int32 → Int32 → hm_T → Option hm_T) (x0 : Nat) (x1 : Int32) (x2 : Int32) (x3 : Int32) (h : hm_T) : Option hm_T :=
  k69 x0 x1 x2 (x3 + (1 : Int32)) h
def f_R_climbAll_241 (F : Nat) (k85 : Nat → Int32 → Int32 → Int32 → Int32 → Int32 → hm_T → Option hm_T) (x0 : Nat) (x1 : Int32) (x2 : Int32) (x3 : Int32) (x4 : Int32) (x5 : Int32) (t0 : Int32) (t1 : Int32) (t2 : Nat) (h : hm_T) : Option hm_T :=
  (hm_ist h t2 t1 t0).bind (fun h1 => k85 x0 x1 x2 x3 x4 (x5 + (1 : Int32)) h1)
def f_R_climbAll_195 (F : Nat) (k85 : Nat → Int32 → Int32 → Int32 → Int32 → Int32 → hm_T → Option hm_T) (x0 : Nat) (x1 : Int32) (x2 : Int32) (x3 : Int32) (x4 : Int32) (x5 : Int32) (x7 : Int32) (t0 : Int32) (t1 : Int32) (t2 : Nat) (h : hm_T) : Option hm_T :=
  (hm_ist h t2 t1 t0).bind (fun h1 => (hm_gr 4 25 22 h1 x0).bind (fun a2 => (hm_gr 4 25 22 h1 x0).bind (fun a3 => (hm_ild h1 a3 (((16 : Int32) * x5) + x2)).bind (fun v4 => (if v4 ≤ x7 then (hm_gr 4 25 22 h1 x0).bind (fun a6 => (hm_ild h1 a6 (((16 : Int32) * x5) + x2)).bind (fun v7 => f_R_climbAll_241 F k85 x0 x1 x2 x3 x4 x5 v7 (((16 : Int32) * x5) + x2) a2 h1)) else f_R_climbAll_241 F k85 x0 x1 x2 x3 x4 x5 x7 (((16 : Int32) * x5) + x2) a2 h1)))))
def g_R_climbAll_85 (F : Nat) (k69 : Nat → Int32 → Int32 → Int32 → hm_T → Option hm_T) (k85 : Nat → Int32 → Int32 → Int32 → Int32 → Int32 → hm_T → Option hm_T) (x0 : Nat) (x1 : Int32) (x2 : Int32) (x3 : Int32) (x4 : Int32) (x5 : Int32) (h : hm_T) : Option hm_T :=
  (hm_gi 4 25 1 h x0).bind (fun v1 => (if v1 ≤ x5 then f_R_climbAll_248 F k69 x0 x1 x2 x3 h else (hm_gr 4 25 14 h x0).bind (fun a3 => (hm_ild h a3 (((16 : Int32) * x2) + x4)).bind (fun v4 => (hm_gr 4 25 21 h x0).bind (fun a5 => (hm_ild h a5 (((16 : Int32) * x4) + x5)).bind (fun v6 => (hm_gr 4 25 22 h x0).bind (fun a7 => (hm_ild h a7 (((16 : Int32) * x5) + x4)).bind (fun v8 => (hm_gr 4 25 14 h x0).bind (fun a9 => (hm_ild h a9 (((16 : Int32) * x4) + x2)).bind (fun v10 => (hm_gr 4 25 21 h x0).bind (fun a11 => (hm_gr 4 25 21 h x0).bind (fun a12 => (hm_ild h a12 (((16 : Int32) * x2) + x5)).bind (fun v13 => (if v13 ≤ (v4 + v6) then (hm_gr 4 25 21 h x0).bind (fun a15 => (hm_ild h a15 (((16 : Int32) * x2) + x5)).bind (fun v16 => f_R_climbAll_195 F k85 x0 x1 x2 x3 x4 x5 (v8 + v10) v16 (((16 : Int32) * x2) + x5) a11 h)) else f_R_climbAll_195 F k85 x0 x1 x2 x3 x4 x5 (v8 + v10) (v4 + v6) (((16 : Int32) * x2) + x5) a11 h))))))))))))))
def f_R_climbAll_85 (F : Nat) (k69 : Nat → Int32 → Int32 → Int32 → hm_T → Option hm_T) : Nat → Nat → Int32 → Int32 → Int32 → Int32 → Int32 → hm_T → Option hm_T
  | 0 => fun _ _ _ _ _ _ _ => none
  | n + 1 => g_R_climbAll_85 F k69 (f_R_climbAll_85 F k69 n)
def g_R_climbAll_69 (F : Nat) (k52 : Nat → Int32 → hm_T → Option hm_T) (k69 : Nat → Int32 → Int32 → Int32 → hm_T → Option hm_T) (x0 : Nat) (x1 : Int32) (x2 : Int32) (x3 : Int32) (h : hm_T) : Option hm_T :=
  (if x1 ≤ x3 then f_R_climbAll_254 F k52 x0 x1 h else (hm_gr 4 25 3 h x0).bind (fun a2 => (hm_ild h a2 x3).bind (fun v3 => f_R_climbAll_85 F k69 F x0 x1 x2 x3 v3 (0 : Int32) h)))
def f_R_climbAll_69 (F : Nat) (k52 : Nat → Int32 → hm_T → Option hm_T) : Nat → Nat → Int32 → Int32 → Int32 → hm_T → Option hm_T
  | 0 => fun _ _ _ _ _ => none
  | n + 1 => g_R_climbAll_69 F k52 (f_R_climbAll_69 F k52 n)
def g_R_climbAll_52 (F : Nat) (k52 : Nat → Int32 → hm_T → Option hm_T) (x0 : Nat) (x1 : Int32) (h : hm_T) : Option hm_T :=
  (hm_gi 4 25 1 h x0).bind (fun v1 => (if v1 ≤ x1 then f_R_climbAll_260 F x0 h else (hm_gr 4 25 3 h x0).bind (fun a3 => (hm_ild h a3 x1).bind (fun v4 => f_R_climbAll_69 F k52 F x0 x1 v4 (0 : Int32) h))))
def f_R_climbAll_52 (F : Nat) : Nat → Nat → Int32 → hm_T → Option hm_T
  | 0 => fun _ _ _ => none
  | n + 1 => g_R_climbAll_52 F (f_R_climbAll_52 F n)
def f_R_climbAll_50 (F : Nat) (x0 : Nat) (h : hm_T) : Option hm_T :=
  f_R_climbAll_52 F F x0 (0 : Int32) h
def f_R_climbAll_31 (F : Nat) (k2 : Nat → Int32 → hm_T → Option hm_T) (x0 : Nat) (x1 : Int32) (t0 : Int32) (t1 : Int32) (t2 : Nat) (h : hm_T) : Option hm_T :=
  (hm_ist h t2 t1 t0).bind (fun h1 => (hm_gr 4 25 22 h1 x0).bind (fun a2 => (hm_gr 4 25 21 h1 x0).bind (fun a3 => (hm_ild h1 a3 x1).bind (fun v4 => (hm_ist h1 a2 x1 v4).bind (fun h5 => k2 x0 (x1 + (1 : Int32)) h5)))))
def g_R_climbAll_2 (F : Nat) (k2 : Nat → Int32 → hm_T → Option hm_T) (x0 : Nat) (x1 : Int32) (h : hm_T) : Option hm_T :=
  (if (256 : Int32) ≤ x1 then f_R_climbAll_50 F x0 h else (hm_gr 4 25 21 h x0).bind (fun a2 => (if (16 : Int32) = 0 then none else (if (16 : Int32) = 0 then none else (if (x1 / (16 : Int32)) = (x1 - x1 / (16 : Int32) * (16 : Int32)) then f_R_climbAll_31 F k2 x0 x1 (0 : Int32) x1 a2 h else f_R_climbAll_31 F k2 x0 x1 (1000000 : Int32) x1 a2 h)))))
def f_R_climbAll_2 (F : Nat) : Nat → Nat → Int32 → hm_T → Option hm_T
  | 0 => fun _ _ _ => none
  | n + 1 => g_R_climbAll_2 F (f_R_climbAll_2 F n)
def f_R_climbAll (F : Nat) (x0 : Nat) (h : hm_T) : Option hm_T :=
  f_R_climbAll_2 F F x0 (0 : Int32) h
theorem m_f_R_climbAll_332 {F : Nat} {h h' : hm_T} {x0 : Nat} {x1 : Int32} {x2 : Int32} {k262 : Nat → Int32 → hm_T → Option hm_T} (hk262 : ∀ (y0 : Nat) (y1 : Int32) (g : hm_T), k262 y0 y1 g = some h' → hm_le g h') (hf : f_R_climbAll_332 F k262 x0 x1 x2 h = some h') : hm_le h h' := by
  unfold f_R_climbAll_332 at hf
  obtain ⟨a1, ea1, hf⟩ := hm_bind hf
  obtain ⟨h2, eh2, hf⟩ := hm_bind hf
  have mh2 := hm_le.ist eh2
  exact mh2.tr ((hk262 _ _ _ hf))
theorem m_f_R_climbAll_325 {F : Nat} {h h' : hm_T} {x0 : Nat} {x1 : Int32} {x3 : Int32} {t0 : Int32} {k274 : Nat → Int32 → Int32 → Int32 → hm_T → Option hm_T} (hk274 : ∀ (y0 : Nat) (y1 : Int32) (y2 : Int32) (y3 : Int32) (g : hm_T), k274 y0 y1 y2 y3 g = some h' → hm_le g h') (hf : f_R_climbAll_325 F k274 x0 x1 x3 t0 h = some h') : hm_le h h' := by
  unfold f_R_climbAll_325 at hf
  exact (hk274 _ _ _ _ _ hf)
theorem m_g_R_climbAll_274 {F : Nat} {h h' : hm_T} {x0 : Nat} {x1 : Int32} {x2 : Int32} {x3 : Int32} {k262 : Nat → Int32 → hm_T → Option hm_T} {k274 : Nat → Int32 → Int32 → Int32 → hm_T → Option hm_T} (hk262 : ∀ (y0 : Nat) (y1 : Int32) (g : hm_T), k262 y0 y1 g = some h' → hm_le g h') (hk274 : ∀ (y0 : Nat) (y1 : Int32) (y2 : Int32) (y3 : Int32) (g : hm_T), k274 y0 y1 y2 y3 g = some h' → hm_le g h') (hf : g_R_climbAll_274 F k262 k274 x0 x1 x2 x3 h = some h') : hm_le h h' := by
  unfold g_R_climbAll_274 at hf
  obtain ⟨v1, ev1, hf⟩ := hm_bind hf
  by_cases z2 : v1 ≤ x3
  · have hf := hm_ifp hf z2
    exact (m_f_R_climbAll_332 hk262 hf)
  · have hf := hm_ifn hf z2
    obtain ⟨a3, ea3, hf⟩ := hm_bind hf
    have z4 : ¬ (16 : Int32) = 0 := fun q => by rw [if_pos q] at hf; cases hf
    have hf := hm_ifn hf z4
    obtain ⟨v5, ev5, hf⟩ := hm_bind hf
    obtain ⟨a6, ea6, hf⟩ := hm_bind hf
    have z7 : ¬ (16 : Int32) = 0 := fun q => by rw [if_pos q] at hf; cases hf
    have hf := hm_ifn hf z7
    obtain ⟨v8, ev8, hf⟩ := hm_bind hf
    by_cases z9 : x2 ≤ (v5 + v8)
    · have hf := hm_ifp hf z9
      exact (m_f_R_climbAll_325 hk274 hf)
    · have hf := hm_ifn hf z9
      exact (m_f_R_climbAll_325 hk274 hf)
theorem m_R_climbAll_274L {F : Nat} {h' : hm_T} {k262 : Nat → Int32 → hm_T → Option hm_T} (hk262 : ∀ (y0 : Nat) (y1 : Int32) (g : hm_T), k262 y0 y1 g = some h' → hm_le g h') : ∀ (N : Nat) (x0 : Nat) (x1 : Int32) (x2 : Int32) (x3 : Int32) (h : hm_T), f_R_climbAll_274 F k262 N x0 x1 x2 x3 h = some h' → hm_le h h' := by
  intro N
  induction N with
  | zero => intro _ _ _ _ _ hf; cases hf
  | succ n ih => intro x0 x1 x2 x3 h hf; exact m_g_R_climbAll_274 hk262 ih hf
theorem m_g_R_climbAll_262 {F : Nat} {h h' : hm_T} {x0 : Nat} {x1 : Int32} {k262 : Nat → Int32 → hm_T → Option hm_T} (hk262 : ∀ (y0 : Nat) (y1 : Int32) (g : hm_T), k262 y0 y1 g = some h' → hm_le g h') (hf : g_R_climbAll_262 F k262 x0 x1 h = some h') : hm_le h h' := by
  unfold g_R_climbAll_262 at hf
  by_cases z1 : (256 : Int32) ≤ x1
  · have hf := hm_ifp hf z1
    exact (hm_le.retv hf)
  · have hf := hm_ifn hf z1
    exact (m_R_climbAll_274L hk262 _ _ _ _ _ _ hf)
theorem m_R_climbAll_262L {F : Nat} {h' : hm_T} : ∀ (N : Nat) (x0 : Nat) (x1 : Int32) (h : hm_T), f_R_climbAll_262 F N x0 x1 h = some h' → hm_le h h' := by
  intro N
  induction N with
  | zero => intro _ _ _ hf; cases hf
  | succ n ih => intro x0 x1 h hf; exact m_g_R_climbAll_262 ih hf
theorem m_f_R_climbAll_260 {F : Nat} {h h' : hm_T} {x0 : Nat} (hf : f_R_climbAll_260 F x0 h = some h') : hm_le h h' := by
  unfold f_R_climbAll_260 at hf
  exact (m_R_climbAll_262L _ _ _ _ hf)
theorem m_f_R_climbAll_254 {F : Nat} {h h' : hm_T} {x0 : Nat} {x1 : Int32} {k52 : Nat → Int32 → hm_T → Option hm_T} (hk52 : ∀ (y0 : Nat) (y1 : Int32) (g : hm_T), k52 y0 y1 g = some h' → hm_le g h') (hf : f_R_climbAll_254 F k52 x0 x1 h = some h') : hm_le h h' := by
  unfold f_R_climbAll_254 at hf
  exact (hk52 _ _ _ hf)
theorem m_f_R_climbAll_248 {F : Nat} {h h' : hm_T} {x0 : Nat} {x1 : Int32} {x2 : Int32} {x3 : Int32} {k69 : Nat → Int32 → Int32 → Int32 → hm_T → Option hm_T} (hk69 : ∀ (y0 : Nat) (y1 : Int32) (y2 : Int32) (y3 : Int32) (g : hm_T), k69 y0 y1 y2 y3 g = some h' → hm_le g h') (hf : f_R_climbAll_248 F k69 x0 x1 x2 x3 h = some h') : hm_le h h' := by
  unfold f_R_climbAll_248 at hf
  exact (hk69 _ _ _ _ _ hf)
theorem m_f_R_climbAll_241 {F : Nat} {h h' : hm_T} {x0 : Nat} {x1 : Int32} {x2 : Int32} {x3 : Int32} {x4 : Int32} {x5 : Int32} {t0 : Int32} {t1 : Int32} {t2 : Nat} {k85 : Nat → Int32 → Int32 → Int32 → Int32 → Int32 → hm_T → Option hm_T} (hk85 : ∀ (y0 : Nat) (y1 : Int32) (y2 : Int32) (y3 : Int32) (y4 : Int32) (y5 : Int32) (g : hm_T), k85 y0 y1 y2 y3 y4 y5 g = some h' → hm_le g h') (hf : f_R_climbAll_241 F k85 x0 x1 x2 x3 x4 x5 t0 t1 t2 h = some h') : hm_le h h' := by
  unfold f_R_climbAll_241 at hf
  obtain ⟨h1, eh1, hf⟩ := hm_bind hf
  have mh1 := hm_le.ist eh1
  exact mh1.tr ((hk85 _ _ _ _ _ _ _ hf))
theorem m_f_R_climbAll_195 {F : Nat} {h h' : hm_T} {x0 : Nat} {x1 : Int32} {x2 : Int32} {x3 : Int32} {x4 : Int32} {x5 : Int32} {x7 : Int32} {t0 : Int32} {t1 : Int32} {t2 : Nat} {k85 : Nat → Int32 → Int32 → Int32 → Int32 → Int32 → hm_T → Option hm_T} (hk85 : ∀ (y0 : Nat) (y1 : Int32) (y2 : Int32) (y3 : Int32) (y4 : Int32) (y5 : Int32) (g : hm_T), k85 y0 y1 y2 y3 y4 y5 g = some h' → hm_le g h') (hf : f_R_climbAll_195 F k85 x0 x1 x2 x3 x4 x5 x7 t0 t1 t2 h = some h') : hm_le h h' := by
  unfold f_R_climbAll_195 at hf
  obtain ⟨h1, eh1, hf⟩ := hm_bind hf
  have mh1 := hm_le.ist eh1
  obtain ⟨a2, ea2, hf⟩ := hm_bind hf
  obtain ⟨a3, ea3, hf⟩ := hm_bind hf
  obtain ⟨v4, ev4, hf⟩ := hm_bind hf
  by_cases z5 : v4 ≤ x7
  · have hf := hm_ifp hf z5
    obtain ⟨a6, ea6, hf⟩ := hm_bind hf
    obtain ⟨v7, ev7, hf⟩ := hm_bind hf
    exact mh1.tr ((m_f_R_climbAll_241 hk85 hf))
  · have hf := hm_ifn hf z5
    exact mh1.tr ((m_f_R_climbAll_241 hk85 hf))
theorem m_g_R_climbAll_85 {F : Nat} {h h' : hm_T} {x0 : Nat} {x1 : Int32} {x2 : Int32} {x3 : Int32} {x4 : Int32} {x5 : Int32} {k69 : Nat → Int32 → Int32 → Int32 → hm_T → Option hm_T} {k85 : Nat → Int32 → Int32 → Int32 → Int32 → Int32 → hm_T → Option hm_T} (hk69 : ∀ (y0 : Nat) (y1 : Int32) (y2 : Int32) (y3 : Int32) (g : hm_T), k69 y0 y1 y2 y3 g = some h' → hm_le g h') (hk85 : ∀ (y0 : Nat) (y1 : Int32) (y2 : Int32) (y3 : Int32) (y4 : Int32) (y5 : Int32) (g : hm_T), k85 y0 y1 y2 y3 y4 y5 g = some h' → hm_le g h') (hf : g_R_climbAll_85 F k69 k85 x0 x1 x2 x3 x4 x5 h = some h') : hm_le h h' := by
  unfold g_R_climbAll_85 at hf
  obtain ⟨v1, ev1, hf⟩ := hm_bind hf
  by_cases z2 : v1 ≤ x5
  · have hf := hm_ifp hf z2
    exact (m_f_R_climbAll_248 hk69 hf)
  · have hf := hm_ifn hf z2
    obtain ⟨a3, ea3, hf⟩ := hm_bind hf
    obtain ⟨v4, ev4, hf⟩ := hm_bind hf
    obtain ⟨a5, ea5, hf⟩ := hm_bind hf
    obtain ⟨v6, ev6, hf⟩ := hm_bind hf
    obtain ⟨a7, ea7, hf⟩ := hm_bind hf
    obtain ⟨v8, ev8, hf⟩ := hm_bind hf
    obtain ⟨a9, ea9, hf⟩ := hm_bind hf
    obtain ⟨v10, ev10, hf⟩ := hm_bind hf
    obtain ⟨a11, ea11, hf⟩ := hm_bind hf
    obtain ⟨a12, ea12, hf⟩ := hm_bind hf
    obtain ⟨v13, ev13, hf⟩ := hm_bind hf
    by_cases z14 : v13 ≤ (v4 + v6)
    · have hf := hm_ifp hf z14
      obtain ⟨a15, ea15, hf⟩ := hm_bind hf
      obtain ⟨v16, ev16, hf⟩ := hm_bind hf
      exact (m_f_R_climbAll_195 hk85 hf)
    · have hf := hm_ifn hf z14
      exact (m_f_R_climbAll_195 hk85 hf)
theorem m_R_climbAll_85L {F : Nat} {h' : hm_T} {k69 : Nat → Int32 → Int32 → Int32 → hm_T → Option hm_T} (hk69 : ∀ (y0 : Nat) (y1 : Int32) (y2 : Int32) (y3 : Int32) (g : hm_T), k69 y0 y1 y2 y3 g = some h' → hm_le g h') : ∀ (N : Nat) (x0 : Nat) (x1 : Int32) (x2 : Int32) (x3 : Int32) (x4 : Int32) (x5 : Int32) (h : hm_T), f_R_climbAll_85 F k69 N x0 x1 x2 x3 x4 x5 h = some h' → hm_le h h' := by
  intro N
  induction N with
  | zero => intro _ _ _ _ _ _ _ hf; cases hf
  | succ n ih => intro x0 x1 x2 x3 x4 x5 h hf; exact m_g_R_climbAll_85 hk69 ih hf
theorem m_g_R_climbAll_69 {F : Nat} {h h' : hm_T} {x0 : Nat} {x1 : Int32} {x2 : Int32} {x3 : Int32} {k52 : Nat → Int32 → hm_T → Option hm_T} {k69 : Nat → Int32 → Int32 → Int32 → hm_T → Option hm_T} (hk52 : ∀ (y0 : Nat) (y1 : Int32) (g : hm_T), k52 y0 y1 g = some h' → hm_le g h') (hk69 : ∀ (y0 : Nat) (y1 : Int32) (y2 : Int32) (y3 : Int32) (g : hm_T), k69 y0 y1 y2 y3 g = some h' → hm_le g h') (hf : g_R_climbAll_69 F k52 k69 x0 x1 x2 x3 h = some h') : hm_le h h' := by
  unfold g_R_climbAll_69 at hf
  by_cases z1 : x1 ≤ x3
  · have hf := hm_ifp hf z1
    exact (m_f_R_climbAll_254 hk52 hf)
  · have hf := hm_ifn hf z1
    obtain ⟨a2, ea2, hf⟩ := hm_bind hf
    obtain ⟨v3, ev3, hf⟩ := hm_bind hf
    exact (m_R_climbAll_85L hk69 _ _ _ _ _ _ _ _ hf)
theorem m_R_climbAll_69L {F : Nat} {h' : hm_T} {k52 : Nat → Int32 → hm_T → Option hm_T} (hk52 : ∀ (y0 : Nat) (y1 : Int32) (g : hm_T), k52 y0 y1 g = some h' → hm_le g h') : ∀ (N : Nat) (x0 : Nat) (x1 : Int32) (x2 : Int32) (x3 : Int32) (h : hm_T), f_R_climbAll_69 F k52 N x0 x1 x2 x3 h = some h' → hm_le h h' := by
  intro N
  induction N with
  | zero => intro _ _ _ _ _ hf; cases hf
  | succ n ih => intro x0 x1 x2 x3 h hf; exact m_g_R_climbAll_69 hk52 ih hf
theorem m_g_R_climbAll_52 {F : Nat} {h h' : hm_T} {x0 : Nat} {x1 : Int32} {k52 : Nat → Int32 → hm_T → Option hm_T} (hk52 : ∀ (y0 : Nat) (y1 : Int32) (g : hm_T), k52 y0 y1 g = some h' → hm_le g h') (hf : g_R_climbAll_52 F k52 x0 x1 h = some h') : hm_le h h' := by
  unfold g_R_climbAll_52 at hf
  obtain ⟨v1, ev1, hf⟩ := hm_bind hf
  by_cases z2 : v1 ≤ x1
  · have hf := hm_ifp hf z2
    exact (m_f_R_climbAll_260 hf)
  · have hf := hm_ifn hf z2
    obtain ⟨a3, ea3, hf⟩ := hm_bind hf
    obtain ⟨v4, ev4, hf⟩ := hm_bind hf
    exact (m_R_climbAll_69L hk52 _ _ _ _ _ _ hf)
theorem m_R_climbAll_52L {F : Nat} {h' : hm_T} : ∀ (N : Nat) (x0 : Nat) (x1 : Int32) (h : hm_T), f_R_climbAll_52 F N x0 x1 h = some h' → hm_le h h' := by
  intro N
  induction N with
  | zero => intro _ _ _ hf; cases hf
  | succ n ih => intro x0 x1 h hf; exact m_g_R_climbAll_52 ih hf
theorem m_f_R_climbAll_50 {F : Nat} {h h' : hm_T} {x0 : Nat} (hf : f_R_climbAll_50 F x0 h = some h') : hm_le h h' := by
  unfold f_R_climbAll_50 at hf
  exact (m_R_climbAll_52L _ _ _ _ hf)
theorem m_f_R_climbAll_31 {F : Nat} {h h' : hm_T} {x0 : Nat} {x1 : Int32} {t0 : Int32} {t1 : Int32} {t2 : Nat} {k2 : Nat → Int32 → hm_T → Option hm_T} (hk2 : ∀ (y0 : Nat) (y1 : Int32) (g : hm_T), k2 y0 y1 g = some h' → hm_le g h') (hf : f_R_climbAll_31 F k2 x0 x1 t0 t1 t2 h = some h') : hm_le h h' := by
  unfold f_R_climbAll_31 at hf
  obtain ⟨h1, eh1, hf⟩ := hm_bind hf
  have mh1 := hm_le.ist eh1
  obtain ⟨a2, ea2, hf⟩ := hm_bind hf
  obtain ⟨a3, ea3, hf⟩ := hm_bind hf
  obtain ⟨v4, ev4, hf⟩ := hm_bind hf
  obtain ⟨h5, eh5, hf⟩ := hm_bind hf
  have mh5 := hm_le.ist eh5
  exact mh1.tr (mh5.tr ((hk2 _ _ _ hf)))
theorem m_g_R_climbAll_2 {F : Nat} {h h' : hm_T} {x0 : Nat} {x1 : Int32} {k2 : Nat → Int32 → hm_T → Option hm_T} (hk2 : ∀ (y0 : Nat) (y1 : Int32) (g : hm_T), k2 y0 y1 g = some h' → hm_le g h') (hf : g_R_climbAll_2 F k2 x0 x1 h = some h') : hm_le h h' := by
  unfold g_R_climbAll_2 at hf
  by_cases z1 : (256 : Int32) ≤ x1
  · have hf := hm_ifp hf z1
    exact (m_f_R_climbAll_50 hf)
  · have hf := hm_ifn hf z1
    obtain ⟨a2, ea2, hf⟩ := hm_bind hf
    have z3 : ¬ (16 : Int32) = 0 := fun q => by rw [if_pos q] at hf; cases hf
    have hf := hm_ifn hf z3
    have z4 : ¬ (16 : Int32) = 0 := fun q => by rw [if_pos q] at hf; cases hf
    have hf := hm_ifn hf z4
    by_cases z5 : (x1 / (16 : Int32)) = (x1 - x1 / (16 : Int32) * (16 : Int32))
    · have hf := hm_ifp hf z5
      exact (m_f_R_climbAll_31 hk2 hf)
    · have hf := hm_ifn hf z5
      exact (m_f_R_climbAll_31 hk2 hf)
theorem m_R_climbAll_2L {F : Nat} {h' : hm_T} : ∀ (N : Nat) (x0 : Nat) (x1 : Int32) (h : hm_T), f_R_climbAll_2 F N x0 x1 h = some h' → hm_le h h' := by
  intro N
  induction N with
  | zero => intro _ _ _ hf; cases hf
  | succ n ih => intro x0 x1 h hf; exact m_g_R_climbAll_2 ih hf
theorem m_f_R_climbAll {F : Nat} {h h' : hm_T} {x0 : Nat} (hf : f_R_climbAll F x0 h = some h') : hm_le h h' := by
  unfold f_R_climbAll at hf
  exact (m_R_climbAll_2L _ _ _ _ hf)
set_option maxRecDepth 20000 in
set_option maxHeartbeats 1000000 in
theorem w_f_R_climbAll_332 {p : Program} {l : Launch} {e : Env} {R : Room} {s : State} {m : MethodId} {args : Array Value} {below : List Frame} {meth : Method} {c : Code} {E : hm_E} {n0 s0 F : Nat} {h h' : hm_T} {x0 : Nat} {x1 : Int32} {x2 : Int32} {k262 : Nat → Int32 → hm_T → Option hm_T} (C : hm_C E prog_6_method_18_code 8 "DistanceLabelsModel" 0 0 n0 s0 (hm_n h') (hm_s h') p R s m args c) (hr : meth.sig.returnType = none) (hlk : meth.locks = false) (hk262 : ∀ (y0 : Nat) (y1 : Int32) (g : hm_T), k262 y0 y1 g = some h' → hm_G E 8 n0 s0 (hm_n h') (hm_s h') p l e R s m args below meth c (MQ below (hm_Qc E none h') args s (hm_n h' - n0) (hm_s h' - s0) (fun q => E.2.2 ≤ q)) 262 [(0, .ref y0), (1, .int y1)] [] g) (hf : f_R_climbAll_332 F k262 x0 x1 x2 h = some h') : hm_G E 8 n0 s0 (hm_n h') (hm_s h') p l e R s m args below meth c (MQ below (hm_Qc E none h') args s (hm_n h' - n0) (hm_s h' - s0) (fun q => E.2.2 ≤ q)) 332 [(0, .ref x0), (1, .int x1), (2, .int x2)] [] h := by
  unfold f_R_climbAll_332 at hf
  refine hm_aload_n C d_R_climbAll_332 rfl 0 rfl ?_
  obtain ⟨a1, ea1, hf⟩ := hm_bind hf
  refine hm_getR C F_4 15 (by decide) rfl k_151 d_R_climbAll_333 ea1 ?_
  refine hm_iload_n C d_R_climbAll_336 rfl 1 rfl ?_
  refine hm_iload_n C d_R_climbAll_337 rfl 2 rfl ?_
  obtain ⟨h2, eh2, hf⟩ := hm_bind hf
  refine hm_iastore C d_R_climbAll_338 eh2 ?_
  refine hm_iinc (v := (x1 + (1 : Int32))) (lv' := [(1, .int (x1 + (1 : Int32))), (0, .ref x0), (2, .int x2)]) C d_R_climbAll_339 1 rfl rfl (by decide) rfl ?_
  refine hm_goto (tgt := 262) C d_R_climbAll_342 (by decide) ?_
  refine hm_sub (lv' := [(0, .ref x0), (1, .int (x1 + (1 : Int32)))]) [1, 0] rfl ?_
  exact hk262 _ _ _ hf
set_option maxRecDepth 20000 in
set_option maxHeartbeats 1000000 in
theorem w_f_R_climbAll_325 {p : Program} {l : Launch} {e : Env} {R : Room} {s : State} {m : MethodId} {args : Array Value} {below : List Frame} {meth : Method} {c : Code} {E : hm_E} {n0 s0 F : Nat} {h h' : hm_T} {x0 : Nat} {x1 : Int32} {x3 : Int32} {t0 : Int32} {k274 : Nat → Int32 → Int32 → Int32 → hm_T → Option hm_T} (C : hm_C E prog_6_method_18_code 8 "DistanceLabelsModel" 0 0 n0 s0 (hm_n h') (hm_s h') p R s m args c) (hr : meth.sig.returnType = none) (hlk : meth.locks = false) (hk274 : ∀ (y0 : Nat) (y1 : Int32) (y2 : Int32) (y3 : Int32) (g : hm_T), k274 y0 y1 y2 y3 g = some h' → hm_G E 8 n0 s0 (hm_n h') (hm_s h') p l e R s m args below meth c (MQ below (hm_Qc E none h') args s (hm_n h' - n0) (hm_s h' - s0) (fun q => E.2.2 ≤ q)) 274 [(0, .ref y0), (1, .int y1), (2, .int y2), (3, .int y3)] [] g) (hf : f_R_climbAll_325 F k274 x0 x1 x3 t0 h = some h') : hm_G E 8 n0 s0 (hm_n h') (hm_s h') p l e R s m args below meth c (MQ below (hm_Qc E none h') args s (hm_n h' - n0) (hm_s h' - s0) (fun q => E.2.2 ≤ q)) 325 [(0, .ref x0), (1, .int x1), (3, .int x3)] [.int t0] h := by
  unfold f_R_climbAll_325 at hf
  refine hm_istore_n (lv' := [(2, .int t0), (0, .ref x0), (1, .int x1), (3, .int x3)]) C d_R_climbAll_325 rfl (by decide) rfl ?_
  refine hm_iinc (v := (x3 + (1 : Int32))) (lv' := [(3, .int (x3 + (1 : Int32))), (2, .int t0), (0, .ref x0), (1, .int x1)]) C d_R_climbAll_326 3 rfl rfl (by decide) rfl ?_
  refine hm_goto (tgt := 274) C d_R_climbAll_329 (by decide) ?_
  refine hm_sub (lv' := [(0, .ref x0), (1, .int x1), (2, .int t0), (3, .int (x3 + (1 : Int32)))]) [2, 3, 1, 0] rfl ?_
  exact hk274 _ _ _ _ _ hf
set_option maxRecDepth 20000 in
set_option maxHeartbeats 1000000 in
theorem w_g_R_climbAll_274 {p : Program} {l : Launch} {e : Env} {R : Room} {s : State} {m : MethodId} {args : Array Value} {below : List Frame} {meth : Method} {c : Code} {E : hm_E} {n0 s0 F : Nat} {h h' : hm_T} {x0 : Nat} {x1 : Int32} {x2 : Int32} {x3 : Int32} {k262 : Nat → Int32 → hm_T → Option hm_T} {k274 : Nat → Int32 → Int32 → Int32 → hm_T → Option hm_T} (C : hm_C E prog_6_method_18_code 8 "DistanceLabelsModel" 0 0 n0 s0 (hm_n h') (hm_s h') p R s m args c) (hr : meth.sig.returnType = none) (hlk : meth.locks = false) (hk262 : ∀ (y0 : Nat) (y1 : Int32) (g : hm_T), k262 y0 y1 g = some h' → hm_G E 8 n0 s0 (hm_n h') (hm_s h') p l e R s m args below meth c (MQ below (hm_Qc E none h') args s (hm_n h' - n0) (hm_s h' - s0) (fun q => E.2.2 ≤ q)) 262 [(0, .ref y0), (1, .int y1)] [] g) (hk274 : ∀ (y0 : Nat) (y1 : Int32) (y2 : Int32) (y3 : Int32) (g : hm_T), k274 y0 y1 y2 y3 g = some h' → hm_G E 8 n0 s0 (hm_n h') (hm_s h') p l e R s m args below meth c (MQ below (hm_Qc E none h') args s (hm_n h' - n0) (hm_s h' - s0) (fun q => E.2.2 ≤ q)) 274 [(0, .ref y0), (1, .int y1), (2, .int y2), (3, .int y3)] [] g) (hf : g_R_climbAll_274 F k262 k274 x0 x1 x2 x3 h = some h') : hm_G E 8 n0 s0 (hm_n h') (hm_s h') p l e R s m args below meth c (MQ below (hm_Qc E none h') args s (hm_n h' - n0) (hm_s h' - s0) (fun q => E.2.2 ≤ q)) 274 [(0, .ref x0), (1, .int x1), (2, .int x2), (3, .int x3)] [] h := by
  unfold g_R_climbAll_274 at hf
  refine hm_iload_n C d_R_climbAll_274 rfl 3 rfl ?_
  refine hm_aload_n C d_R_climbAll_275 rfl 0 rfl ?_
  obtain ⟨v1, ev1, hf⟩ := hm_bind hf
  refine hm_getI C F_4 1 (by decide) rfl k_159 d_R_climbAll_276 ev1 ?_
  refine hm_icmp_ge (tgt := 332) C d_R_climbAll_279 (by decide) (fun z2 => ?_) (fun z2 => ?_)
  · have hf := hm_ifp hf z2
    refine hm_sub (lv' := [(0, .ref x0), (1, .int x1), (2, .int x2)]) [0, 1, 2] rfl ?_
    exact w_f_R_climbAll_332 C hr hlk hk262 hf
  · have hf := hm_ifn hf z2
    refine hm_aload_n C d_R_climbAll_282 rfl 0 rfl ?_
    obtain ⟨a3, ea3, hf⟩ := hm_bind hf
    refine hm_getR C F_4 21 (by decide) rfl k_156 d_R_climbAll_283 ea3 ?_
    refine hm_bipush (v := (16 : Int32)) C d_R_climbAll_286 (by decide) ?_
    refine hm_iload_n C d_R_climbAll_288 rfl 1 rfl ?_
    refine hm_bipush (v := (16 : Int32)) C d_R_climbAll_289 (by decide) ?_
    have z4 : ¬ (16 : Int32) = 0 := fun q => by rw [if_pos q] at hf; cases hf
    have hf := hm_ifn hf z4
    refine hm_idiv C d_R_climbAll_291 z4 ?_
    refine hm_imul C d_R_climbAll_292 ?_
    refine hm_iload_n C d_R_climbAll_293 rfl 3 rfl ?_
    refine hm_iadd C d_R_climbAll_294 ?_
    obtain ⟨v5, ev5, hf⟩ := hm_bind hf
    refine hm_iaload C d_R_climbAll_295 ev5 ?_
    refine hm_aload_n C d_R_climbAll_296 rfl 0 rfl ?_
    obtain ⟨a6, ea6, hf⟩ := hm_bind hf
    refine hm_getR C F_4 22 (by decide) rfl k_157 d_R_climbAll_297 ea6 ?_
    refine hm_bipush (v := (16 : Int32)) C d_R_climbAll_300 (by decide) ?_
    refine hm_iload_n C d_R_climbAll_302 rfl 3 rfl ?_
    refine hm_imul C d_R_climbAll_303 ?_
    refine hm_iload_n C d_R_climbAll_304 rfl 1 rfl ?_
    refine hm_bipush (v := (16 : Int32)) C d_R_climbAll_305 (by decide) ?_
    have z7 : ¬ (16 : Int32) = 0 := fun q => by rw [if_pos q] at hf; cases hf
    have hf := hm_ifn hf z7
    refine hm_irem C d_R_climbAll_307 z7 ?_
    refine hm_iadd C d_R_climbAll_308 ?_
    obtain ⟨v8, ev8, hf⟩ := hm_bind hf
    refine hm_iaload C d_R_climbAll_309 ev8 ?_
    refine hm_iadd C d_R_climbAll_310 ?_
    refine hm_istore (lv' := [(4, .int (v5 + v8)), (0, .ref x0), (1, .int x1), (2, .int x2), (3, .int x3)]) C d_R_climbAll_311 (by decide) rfl ?_
    refine hm_iload C d_R_climbAll_313 0 rfl ?_
    refine hm_iload_n C d_R_climbAll_315 rfl 3 rfl ?_
    refine hm_icmp_ge (tgt := 324) C d_R_climbAll_316 (by decide) (fun z9 => ?_) (fun z9 => ?_)
    · have hf := hm_ifp hf z9
      refine hm_iload_n C d_R_climbAll_324 rfl 3 rfl ?_
      refine hm_sub (lv' := [(0, .ref x0), (1, .int x1), (3, .int x3)]) [1, 2, 4] rfl ?_
      exact w_f_R_climbAll_325 C hr hlk hk274 hf
    · have hf := hm_ifn hf z9
      refine hm_iload C d_R_climbAll_319 0 rfl ?_
      refine hm_goto (tgt := 325) C d_R_climbAll_321 (by decide) ?_
      refine hm_sub (lv' := [(0, .ref x0), (1, .int x1), (3, .int x3)]) [1, 2, 4] rfl ?_
      exact w_f_R_climbAll_325 C hr hlk hk274 hf
theorem w_R_climbAll_274L {p : Program} {l : Launch} {e : Env} {R : Room} {s : State} {m : MethodId} {args : Array Value} {below : List Frame} {meth : Method} {c : Code} {E : hm_E} {n0 s0 F : Nat} {h' : hm_T} {k262 : Nat → Int32 → hm_T → Option hm_T} (C : hm_C E prog_6_method_18_code 8 "DistanceLabelsModel" 0 0 n0 s0 (hm_n h') (hm_s h') p R s m args c) (hr : meth.sig.returnType = none) (hlk : meth.locks = false) (hk262 : ∀ (y0 : Nat) (y1 : Int32) (g : hm_T), k262 y0 y1 g = some h' → hm_G E 8 n0 s0 (hm_n h') (hm_s h') p l e R s m args below meth c (MQ below (hm_Qc E none h') args s (hm_n h' - n0) (hm_s h' - s0) (fun q => E.2.2 ≤ q)) 262 [(0, .ref y0), (1, .int y1)] [] g) : ∀ (N : Nat) (x0 : Nat) (x1 : Int32) (x2 : Int32) (x3 : Int32) (h : hm_T), f_R_climbAll_274 F k262 N x0 x1 x2 x3 h = some h' → hm_G E 8 n0 s0 (hm_n h') (hm_s h') p l e R s m args below meth c (MQ below (hm_Qc E none h') args s (hm_n h' - n0) (hm_s h' - s0) (fun q => E.2.2 ≤ q)) 274 [(0, .ref x0), (1, .int x1), (2, .int x2), (3, .int x3)] [] h := by
  intro N
  induction N with
  | zero => intro _ _ _ _ _ hf; cases hf
  | succ n ih => intro x0 x1 x2 x3 h hf; exact w_g_R_climbAll_274 C hr hlk hk262 ih hf
set_option maxRecDepth 20000 in
set_option maxHeartbeats 1000000 in
theorem w_g_R_climbAll_262 {p : Program} {l : Launch} {e : Env} {R : Room} {s : State} {m : MethodId} {args : Array Value} {below : List Frame} {meth : Method} {c : Code} {E : hm_E} {n0 s0 F : Nat} {h h' : hm_T} {x0 : Nat} {x1 : Int32} {k262 : Nat → Int32 → hm_T → Option hm_T} (C : hm_C E prog_6_method_18_code 8 "DistanceLabelsModel" 0 0 n0 s0 (hm_n h') (hm_s h') p R s m args c) (hr : meth.sig.returnType = none) (hlk : meth.locks = false) (hk262 : ∀ (y0 : Nat) (y1 : Int32) (g : hm_T), k262 y0 y1 g = some h' → hm_G E 8 n0 s0 (hm_n h') (hm_s h') p l e R s m args below meth c (MQ below (hm_Qc E none h') args s (hm_n h' - n0) (hm_s h' - s0) (fun q => E.2.2 ≤ q)) 262 [(0, .ref y0), (1, .int y1)] [] g) (hf : g_R_climbAll_262 F k262 x0 x1 h = some h') : hm_G E 8 n0 s0 (hm_n h') (hm_s h') p l e R s m args below meth c (MQ below (hm_Qc E none h') args s (hm_n h' - n0) (hm_s h' - s0) (fun q => E.2.2 ≤ q)) 262 [(0, .ref x0), (1, .int x1)] [] h := by
  unfold g_R_climbAll_262 at hf
  refine hm_iload_n C d_R_climbAll_262 rfl 1 rfl ?_
  refine hm_sipush (v := (256 : Int32)) C d_R_climbAll_263 (by decide) ?_
  refine hm_icmp_ge (tgt := 345) C d_R_climbAll_266 (by decide) (fun z1 => ?_) (fun z1 => ?_)
  · have hf := hm_ifp hf z1
    exact hm_vret C hr hlk d_R_climbAll_345 hf
  · have hf := hm_ifn hf z1
    refine hm_ldc (v := (1000000 : Int32)) C k_139 d_R_climbAll_269 ?_
    refine hm_istore_n (lv' := [(2, .int (1000000 : Int32)), (0, .ref x0), (1, .int x1)]) C d_R_climbAll_271 rfl (by decide) rfl ?_
    refine hm_iconst (v := (0 : Int32)) C d_R_climbAll_272 (by decide) ?_
    refine hm_istore_n (lv' := [(3, .int (0 : Int32)), (2, .int (1000000 : Int32)), (0, .ref x0), (1, .int x1)]) C d_R_climbAll_273 rfl (by decide) rfl ?_
    refine hm_sub (lv' := [(0, .ref x0), (1, .int x1), (2, .int (1000000 : Int32)), (3, .int (0 : Int32))]) [2, 3, 1, 0] rfl ?_
    exact w_R_climbAll_274L C hr hlk hk262 _ _ _ _ _ _ hf
theorem w_R_climbAll_262L {p : Program} {l : Launch} {e : Env} {R : Room} {s : State} {m : MethodId} {args : Array Value} {below : List Frame} {meth : Method} {c : Code} {E : hm_E} {n0 s0 F : Nat} {h' : hm_T} (C : hm_C E prog_6_method_18_code 8 "DistanceLabelsModel" 0 0 n0 s0 (hm_n h') (hm_s h') p R s m args c) (hr : meth.sig.returnType = none) (hlk : meth.locks = false) : ∀ (N : Nat) (x0 : Nat) (x1 : Int32) (h : hm_T), f_R_climbAll_262 F N x0 x1 h = some h' → hm_G E 8 n0 s0 (hm_n h') (hm_s h') p l e R s m args below meth c (MQ below (hm_Qc E none h') args s (hm_n h' - n0) (hm_s h' - s0) (fun q => E.2.2 ≤ q)) 262 [(0, .ref x0), (1, .int x1)] [] h := by
  intro N
  induction N with
  | zero => intro _ _ _ hf; cases hf
  | succ n ih => intro x0 x1 h hf; exact w_g_R_climbAll_262 C hr hlk ih hf
set_option maxRecDepth 20000 in
set_option maxHeartbeats 1000000 in
theorem w_f_R_climbAll_260 {p : Program} {l : Launch} {e : Env} {R : Room} {s : State} {m : MethodId} {args : Array Value} {below : List Frame} {meth : Method} {c : Code} {E : hm_E} {n0 s0 F : Nat} {h h' : hm_T} {x0 : Nat} (C : hm_C E prog_6_method_18_code 8 "DistanceLabelsModel" 0 0 n0 s0 (hm_n h') (hm_s h') p R s m args c) (hr : meth.sig.returnType = none) (hlk : meth.locks = false) (hf : f_R_climbAll_260 F x0 h = some h') : hm_G E 8 n0 s0 (hm_n h') (hm_s h') p l e R s m args below meth c (MQ below (hm_Qc E none h') args s (hm_n h' - n0) (hm_s h' - s0) (fun q => E.2.2 ≤ q)) 260 [(0, .ref x0)] [] h := by
  unfold f_R_climbAll_260 at hf
  refine hm_iconst (v := (0 : Int32)) C d_R_climbAll_260 (by decide) ?_
  refine hm_istore_n (lv' := [(1, .int (0 : Int32)), (0, .ref x0)]) C d_R_climbAll_261 rfl (by decide) rfl ?_
  refine hm_sub (lv' := [(0, .ref x0), (1, .int (0 : Int32))]) [1, 0] rfl ?_
  exact w_R_climbAll_262L C hr hlk _ _ _ _ hf
set_option maxRecDepth 20000 in
set_option maxHeartbeats 1000000 in
theorem w_f_R_climbAll_254 {p : Program} {l : Launch} {e : Env} {R : Room} {s : State} {m : MethodId} {args : Array Value} {below : List Frame} {meth : Method} {c : Code} {E : hm_E} {n0 s0 F : Nat} {h h' : hm_T} {x0 : Nat} {x1 : Int32} {k52 : Nat → Int32 → hm_T → Option hm_T} (C : hm_C E prog_6_method_18_code 8 "DistanceLabelsModel" 0 0 n0 s0 (hm_n h') (hm_s h') p R s m args c) (hr : meth.sig.returnType = none) (hlk : meth.locks = false) (hk52 : ∀ (y0 : Nat) (y1 : Int32) (g : hm_T), k52 y0 y1 g = some h' → hm_G E 8 n0 s0 (hm_n h') (hm_s h') p l e R s m args below meth c (MQ below (hm_Qc E none h') args s (hm_n h' - n0) (hm_s h' - s0) (fun q => E.2.2 ≤ q)) 52 [(0, .ref y0), (1, .int y1)] [] g) (hf : f_R_climbAll_254 F k52 x0 x1 h = some h') : hm_G E 8 n0 s0 (hm_n h') (hm_s h') p l e R s m args below meth c (MQ below (hm_Qc E none h') args s (hm_n h' - n0) (hm_s h' - s0) (fun q => E.2.2 ≤ q)) 254 [(0, .ref x0), (1, .int x1)] [] h := by
  unfold f_R_climbAll_254 at hf
  refine hm_iinc (v := (x1 + (1 : Int32))) (lv' := [(1, .int (x1 + (1 : Int32))), (0, .ref x0)]) C d_R_climbAll_254 1 rfl rfl (by decide) rfl ?_
  refine hm_goto (tgt := 52) C d_R_climbAll_257 (by decide) ?_
  refine hm_sub (lv' := [(0, .ref x0), (1, .int (x1 + (1 : Int32)))]) [1, 0] rfl ?_
  exact hk52 _ _ _ hf
set_option maxRecDepth 20000 in
set_option maxHeartbeats 1000000 in
theorem w_f_R_climbAll_248 {p : Program} {l : Launch} {e : Env} {R : Room} {s : State} {m : MethodId} {args : Array Value} {below : List Frame} {meth : Method} {c : Code} {E : hm_E} {n0 s0 F : Nat} {h h' : hm_T} {x0 : Nat} {x1 : Int32} {x2 : Int32} {x3 : Int32} {k69 : Nat → Int32 → Int32 → Int32 → hm_T → Option hm_T} (C : hm_C E prog_6_method_18_code 8 "DistanceLabelsModel" 0 0 n0 s0 (hm_n h') (hm_s h') p R s m args c) (hr : meth.sig.returnType = none) (hlk : meth.locks = false) (hk69 : ∀ (y0 : Nat) (y1 : Int32) (y2 : Int32) (y3 : Int32) (g : hm_T), k69 y0 y1 y2 y3 g = some h' → hm_G E 8 n0 s0 (hm_n h') (hm_s h') p l e R s m args below meth c (MQ below (hm_Qc E none h') args s (hm_n h' - n0) (hm_s h' - s0) (fun q => E.2.2 ≤ q)) 69 [(0, .ref y0), (1, .int y1), (2, .int y2), (3, .int y3)] [] g) (hf : f_R_climbAll_248 F k69 x0 x1 x2 x3 h = some h') : hm_G E 8 n0 s0 (hm_n h') (hm_s h') p l e R s m args below meth c (MQ below (hm_Qc E none h') args s (hm_n h' - n0) (hm_s h' - s0) (fun q => E.2.2 ≤ q)) 248 [(0, .ref x0), (1, .int x1), (2, .int x2), (3, .int x3)] [] h := by
  unfold f_R_climbAll_248 at hf
  refine hm_iinc (v := (x3 + (1 : Int32))) (lv' := [(3, .int (x3 + (1 : Int32))), (0, .ref x0), (1, .int x1), (2, .int x2)]) C d_R_climbAll_248 3 rfl rfl (by decide) rfl ?_
  refine hm_goto (tgt := 69) C d_R_climbAll_251 (by decide) ?_
  refine hm_sub (lv' := [(0, .ref x0), (1, .int x1), (2, .int x2), (3, .int (x3 + (1 : Int32)))]) [1, 2, 3, 0] rfl ?_
  exact hk69 _ _ _ _ _ hf
set_option maxRecDepth 20000 in
set_option maxHeartbeats 1000000 in
theorem w_f_R_climbAll_241 {p : Program} {l : Launch} {e : Env} {R : Room} {s : State} {m : MethodId} {args : Array Value} {below : List Frame} {meth : Method} {c : Code} {E : hm_E} {n0 s0 F : Nat} {h h' : hm_T} {x0 : Nat} {x1 : Int32} {x2 : Int32} {x3 : Int32} {x4 : Int32} {x5 : Int32} {t0 : Int32} {t1 : Int32} {t2 : Nat} {k85 : Nat → Int32 → Int32 → Int32 → Int32 → Int32 → hm_T → Option hm_T} (C : hm_C E prog_6_method_18_code 8 "DistanceLabelsModel" 0 0 n0 s0 (hm_n h') (hm_s h') p R s m args c) (hr : meth.sig.returnType = none) (hlk : meth.locks = false) (hk85 : ∀ (y0 : Nat) (y1 : Int32) (y2 : Int32) (y3 : Int32) (y4 : Int32) (y5 : Int32) (g : hm_T), k85 y0 y1 y2 y3 y4 y5 g = some h' → hm_G E 8 n0 s0 (hm_n h') (hm_s h') p l e R s m args below meth c (MQ below (hm_Qc E none h') args s (hm_n h' - n0) (hm_s h' - s0) (fun q => E.2.2 ≤ q)) 85 [(0, .ref y0), (1, .int y1), (2, .int y2), (3, .int y3), (4, .int y4), (5, .int y5)] [] g) (hf : f_R_climbAll_241 F k85 x0 x1 x2 x3 x4 x5 t0 t1 t2 h = some h') : hm_G E 8 n0 s0 (hm_n h') (hm_s h') p l e R s m args below meth c (MQ below (hm_Qc E none h') args s (hm_n h' - n0) (hm_s h' - s0) (fun q => E.2.2 ≤ q)) 241 [(0, .ref x0), (1, .int x1), (2, .int x2), (3, .int x3), (4, .int x4), (5, .int x5)] [.int t0, .int t1, .ref t2] h := by
  unfold f_R_climbAll_241 at hf
  obtain ⟨h1, eh1, hf⟩ := hm_bind hf
  refine hm_iastore C d_R_climbAll_241 eh1 ?_
  refine hm_iinc (v := (x5 + (1 : Int32))) (lv' := [(5, .int (x5 + (1 : Int32))), (0, .ref x0), (1, .int x1), (2, .int x2), (3, .int x3), (4, .int x4)]) C d_R_climbAll_242 5 rfl rfl (by decide) rfl ?_
  refine hm_goto (tgt := 85) C d_R_climbAll_245 (by decide) ?_
  refine hm_sub (lv' := [(0, .ref x0), (1, .int x1), (2, .int x2), (3, .int x3), (4, .int x4), (5, .int (x5 + (1 : Int32)))]) [1, 2, 3, 4, 5, 0] rfl ?_
  exact hk85 _ _ _ _ _ _ _ hf
set_option maxRecDepth 20000 in
set_option maxHeartbeats 1000000 in
theorem w_f_R_climbAll_195 {p : Program} {l : Launch} {e : Env} {R : Room} {s : State} {m : MethodId} {args : Array Value} {below : List Frame} {meth : Method} {c : Code} {E : hm_E} {n0 s0 F : Nat} {h h' : hm_T} {x0 : Nat} {x1 : Int32} {x2 : Int32} {x3 : Int32} {x4 : Int32} {x5 : Int32} {x7 : Int32} {t0 : Int32} {t1 : Int32} {t2 : Nat} {k85 : Nat → Int32 → Int32 → Int32 → Int32 → Int32 → hm_T → Option hm_T} (C : hm_C E prog_6_method_18_code 8 "DistanceLabelsModel" 0 0 n0 s0 (hm_n h') (hm_s h') p R s m args c) (hr : meth.sig.returnType = none) (hlk : meth.locks = false) (hk85 : ∀ (y0 : Nat) (y1 : Int32) (y2 : Int32) (y3 : Int32) (y4 : Int32) (y5 : Int32) (g : hm_T), k85 y0 y1 y2 y3 y4 y5 g = some h' → hm_G E 8 n0 s0 (hm_n h') (hm_s h') p l e R s m args below meth c (MQ below (hm_Qc E none h') args s (hm_n h' - n0) (hm_s h' - s0) (fun q => E.2.2 ≤ q)) 85 [(0, .ref y0), (1, .int y1), (2, .int y2), (3, .int y3), (4, .int y4), (5, .int y5)] [] g) (hf : f_R_climbAll_195 F k85 x0 x1 x2 x3 x4 x5 x7 t0 t1 t2 h = some h') : hm_G E 8 n0 s0 (hm_n h') (hm_s h') p l e R s m args below meth c (MQ below (hm_Qc E none h') args s (hm_n h' - n0) (hm_s h' - s0) (fun q => E.2.2 ≤ q)) 195 [(0, .ref x0), (1, .int x1), (2, .int x2), (3, .int x3), (4, .int x4), (5, .int x5), (7, .int x7)] [.int t0, .int t1, .ref t2] h := by
  unfold f_R_climbAll_195 at hf
  obtain ⟨h1, eh1, hf⟩ := hm_bind hf
  refine hm_iastore C d_R_climbAll_195 eh1 ?_
  refine hm_aload_n C d_R_climbAll_196 rfl 0 rfl ?_
  obtain ⟨a2, ea2, hf⟩ := hm_bind hf
  refine hm_getR C F_4 22 (by decide) rfl k_157 d_R_climbAll_197 ea2 ?_
  refine hm_bipush (v := (16 : Int32)) C d_R_climbAll_200 (by decide) ?_
  refine hm_iload C d_R_climbAll_202 5 rfl ?_
  refine hm_imul C d_R_climbAll_204 ?_
  refine hm_iload_n C d_R_climbAll_205 rfl 2 rfl ?_
  refine hm_iadd C d_R_climbAll_206 ?_
  refine hm_iload C d_R_climbAll_207 6 rfl ?_
  refine hm_aload_n C d_R_climbAll_209 rfl 0 rfl ?_
  obtain ⟨a3, ea3, hf⟩ := hm_bind hf
  refine hm_getR C F_4 22 (by decide) rfl k_157 d_R_climbAll_210 ea3 ?_
  refine hm_bipush (v := (16 : Int32)) C d_R_climbAll_213 (by decide) ?_
  refine hm_iload C d_R_climbAll_215 5 rfl ?_
  refine hm_imul C d_R_climbAll_217 ?_
  refine hm_iload_n C d_R_climbAll_218 rfl 2 rfl ?_
  refine hm_iadd C d_R_climbAll_219 ?_
  obtain ⟨v4, ev4, hf⟩ := hm_bind hf
  refine hm_iaload C d_R_climbAll_220 ev4 ?_
  refine hm_icmp_ge (tgt := 229) C d_R_climbAll_221 (by decide) (fun z5 => ?_) (fun z5 => ?_)
  · have hf := hm_ifp hf z5
    refine hm_aload_n C d_R_climbAll_229 rfl 0 rfl ?_
    obtain ⟨a6, ea6, hf⟩ := hm_bind hf
    refine hm_getR C F_4 22 (by decide) rfl k_157 d_R_climbAll_230 ea6 ?_
    refine hm_bipush (v := (16 : Int32)) C d_R_climbAll_233 (by decide) ?_
    refine hm_iload C d_R_climbAll_235 5 rfl ?_
    refine hm_imul C d_R_climbAll_237 ?_
    refine hm_iload_n C d_R_climbAll_238 rfl 2 rfl ?_
    refine hm_iadd C d_R_climbAll_239 ?_
    obtain ⟨v7, ev7, hf⟩ := hm_bind hf
    refine hm_iaload C d_R_climbAll_240 ev7 ?_
    refine hm_sub (lv' := [(0, .ref x0), (1, .int x1), (2, .int x2), (3, .int x3), (4, .int x4), (5, .int x5)]) [0, 1, 2, 3, 4, 5] rfl ?_
    exact w_f_R_climbAll_241 C hr hlk hk85 hf
  · have hf := hm_ifn hf z5
    refine hm_iload C d_R_climbAll_224 6 rfl ?_
    refine hm_goto (tgt := 241) C d_R_climbAll_226 (by decide) ?_
    refine hm_sub (lv' := [(0, .ref x0), (1, .int x1), (2, .int x2), (3, .int x3), (4, .int x4), (5, .int x5)]) [0, 1, 2, 3, 4, 5] rfl ?_
    exact w_f_R_climbAll_241 C hr hlk hk85 hf
set_option maxRecDepth 20000 in
set_option maxHeartbeats 1000000 in
theorem w_g_R_climbAll_85 {p : Program} {l : Launch} {e : Env} {R : Room} {s : State} {m : MethodId} {args : Array Value} {below : List Frame} {meth : Method} {c : Code} {E : hm_E} {n0 s0 F : Nat} {h h' : hm_T} {x0 : Nat} {x1 : Int32} {x2 : Int32} {x3 : Int32} {x4 : Int32} {x5 : Int32} {k69 : Nat → Int32 → Int32 → Int32 → hm_T → Option hm_T} {k85 : Nat → Int32 → Int32 → Int32 → Int32 → Int32 → hm_T → Option hm_T} (C : hm_C E prog_6_method_18_code 8 "DistanceLabelsModel" 0 0 n0 s0 (hm_n h') (hm_s h') p R s m args c) (hr : meth.sig.returnType = none) (hlk : meth.locks = false) (hk69 : ∀ (y0 : Nat) (y1 : Int32) (y2 : Int32) (y3 : Int32) (g : hm_T), k69 y0 y1 y2 y3 g = some h' → hm_G E 8 n0 s0 (hm_n h') (hm_s h') p l e R s m args below meth c (MQ below (hm_Qc E none h') args s (hm_n h' - n0) (hm_s h' - s0) (fun q => E.2.2 ≤ q)) 69 [(0, .ref y0), (1, .int y1), (2, .int y2), (3, .int y3)] [] g) (hk85 : ∀ (y0 : Nat) (y1 : Int32) (y2 : Int32) (y3 : Int32) (y4 : Int32) (y5 : Int32) (g : hm_T), k85 y0 y1 y2 y3 y4 y5 g = some h' → hm_G E 8 n0 s0 (hm_n h') (hm_s h') p l e R s m args below meth c (MQ below (hm_Qc E none h') args s (hm_n h' - n0) (hm_s h' - s0) (fun q => E.2.2 ≤ q)) 85 [(0, .ref y0), (1, .int y1), (2, .int y2), (3, .int y3), (4, .int y4), (5, .int y5)] [] g) (hf : g_R_climbAll_85 F k69 k85 x0 x1 x2 x3 x4 x5 h = some h') : hm_G E 8 n0 s0 (hm_n h') (hm_s h') p l e R s m args below meth c (MQ below (hm_Qc E none h') args s (hm_n h' - n0) (hm_s h' - s0) (fun q => E.2.2 ≤ q)) 85 [(0, .ref x0), (1, .int x1), (2, .int x2), (3, .int x3), (4, .int x4), (5, .int x5)] [] h := by
  unfold g_R_climbAll_85 at hf
  refine hm_iload C d_R_climbAll_85 5 rfl ?_
  refine hm_aload_n C d_R_climbAll_87 rfl 0 rfl ?_
  obtain ⟨v1, ev1, hf⟩ := hm_bind hf
  refine hm_getI C F_4 1 (by decide) rfl k_159 d_R_climbAll_88 ev1 ?_
  refine hm_icmp_ge (tgt := 248) C d_R_climbAll_91 (by decide) (fun z2 => ?_) (fun z2 => ?_)
  · have hf := hm_ifp hf z2
    refine hm_sub (lv' := [(0, .ref x0), (1, .int x1), (2, .int x2), (3, .int x3)]) [0, 1, 2, 3] rfl ?_
    exact w_f_R_climbAll_248 C hr hlk hk69 hf
  · have hf := hm_ifn hf z2
    refine hm_aload_n C d_R_climbAll_94 rfl 0 rfl ?_
    obtain ⟨a3, ea3, hf⟩ := hm_bind hf
    refine hm_getR C F_4 14 (by decide) rfl k_150 d_R_climbAll_95 ea3 ?_
    refine hm_bipush (v := (16 : Int32)) C d_R_climbAll_98 (by decide) ?_
    refine hm_iload_n C d_R_climbAll_100 rfl 2 rfl ?_
    refine hm_imul C d_R_climbAll_101 ?_
    refine hm_iload C d_R_climbAll_102 4 rfl ?_
    refine hm_iadd C d_R_climbAll_104 ?_
    obtain ⟨v4, ev4, hf⟩ := hm_bind hf
    refine hm_iaload C d_R_climbAll_105 ev4 ?_
    refine hm_aload_n C d_R_climbAll_106 rfl 0 rfl ?_
    obtain ⟨a5, ea5, hf⟩ := hm_bind hf
    refine hm_getR C F_4 21 (by decide) rfl k_156 d_R_climbAll_107 ea5 ?_
    refine hm_bipush (v := (16 : Int32)) C d_R_climbAll_110 (by decide) ?_
    refine hm_iload C d_R_climbAll_112 4 rfl ?_
    refine hm_imul C d_R_climbAll_114 ?_
    refine hm_iload C d_R_climbAll_115 5 rfl ?_
    refine hm_iadd C d_R_climbAll_117 ?_
    obtain ⟨v6, ev6, hf⟩ := hm_bind hf
    refine hm_iaload C d_R_climbAll_118 ev6 ?_
    refine hm_iadd C d_R_climbAll_119 ?_
    refine hm_istore (lv' := [(6, .int (v4 + v6)), (0, .ref x0), (1, .int x1), (2, .int x2), (3, .int x3), (4, .int x4), (5, .int x5)]) C d_R_climbAll_120 (by decide) rfl ?_
    refine hm_aload_n C d_R_climbAll_122 rfl 1 rfl ?_
    obtain ⟨a7, ea7, hf⟩ := hm_bind hf
    refine hm_getR C F_4 22 (by decide) rfl k_157 d_R_climbAll_123 ea7 ?_
    refine hm_bipush (v := (16 : Int32)) C d_R_climbAll_126 (by decide) ?_
    refine hm_iload C d_R_climbAll_128 6 rfl ?_
    refine hm_imul C d_R_climbAll_130 ?_
    refine hm_iload C d_R_climbAll_131 5 rfl ?_
    refine hm_iadd C d_R_climbAll_133 ?_
    obtain ⟨v8, ev8, hf⟩ := hm_bind hf
    refine hm_iaload C d_R_climbAll_134 ev8 ?_
    refine hm_aload_n C d_R_climbAll_135 rfl 1 rfl ?_
    obtain ⟨a9, ea9, hf⟩ := hm_bind hf
    refine hm_getR C F_4 14 (by decide) rfl k_150 d_R_climbAll_136 ea9 ?_
    refine hm_bipush (v := (16 : Int32)) C d_R_climbAll_139 (by decide) ?_
    refine hm_iload C d_R_climbAll_141 5 rfl ?_
    refine hm_imul C d_R_climbAll_143 ?_
    refine hm_iload_n C d_R_climbAll_144 rfl 3 rfl ?_
    refine hm_iadd C d_R_climbAll_145 ?_
    obtain ⟨v10, ev10, hf⟩ := hm_bind hf
    refine hm_iaload C d_R_climbAll_146 ev10 ?_
    refine hm_iadd C d_R_climbAll_147 ?_
    refine hm_istore (lv' := [(7, .int (v8 + v10)), (6, .int (v4 + v6)), (0, .ref x0), (1, .int x1), (2, .int x2), (3, .int x3), (4, .int x4), (5, .int x5)]) C d_R_climbAll_148 (by decide) rfl ?_
    refine hm_aload_n C d_R_climbAll_150 rfl 2 rfl ?_
    obtain ⟨a11, ea11, hf⟩ := hm_bind hf
    refine hm_getR C F_4 21 (by decide) rfl k_156 d_R_climbAll_151 ea11 ?_
    refine hm_bipush (v := (16 : Int32)) C d_R_climbAll_154 (by decide) ?_
    refine hm_iload_n C d_R_climbAll_156 rfl 4 rfl ?_
    refine hm_imul C d_R_climbAll_157 ?_
    refine hm_iload C d_R_climbAll_158 7 rfl ?_
    refine hm_iadd C d_R_climbAll_160 ?_
    refine hm_iload C d_R_climbAll_161 1 rfl ?_
    refine hm_aload_n C d_R_climbAll_163 rfl 2 rfl ?_
    obtain ⟨a12, ea12, hf⟩ := hm_bind hf
    refine hm_getR C F_4 21 (by decide) rfl k_156 d_R_climbAll_164 ea12 ?_
    refine hm_bipush (v := (16 : Int32)) C d_R_climbAll_167 (by decide) ?_
    refine hm_iload_n C d_R_climbAll_169 rfl 4 rfl ?_
    refine hm_imul C d_R_climbAll_170 ?_
    refine hm_iload C d_R_climbAll_171 7 rfl ?_
    refine hm_iadd C d_R_climbAll_173 ?_
    obtain ⟨v13, ev13, hf⟩ := hm_bind hf
    refine hm_iaload C d_R_climbAll_174 ev13 ?_
    refine hm_icmp_ge (tgt := 183) C d_R_climbAll_175 (by decide) (fun z14 => ?_) (fun z14 => ?_)
    · have hf := hm_ifp hf z14
      refine hm_aload_n C d_R_climbAll_183 rfl 2 rfl ?_
      obtain ⟨a15, ea15, hf⟩ := hm_bind hf
      refine hm_getR C F_4 21 (by decide) rfl k_156 d_R_climbAll_184 ea15 ?_
      refine hm_bipush (v := (16 : Int32)) C d_R_climbAll_187 (by decide) ?_
      refine hm_iload_n C d_R_climbAll_189 rfl 4 rfl ?_
      refine hm_imul C d_R_climbAll_190 ?_
      refine hm_iload C d_R_climbAll_191 7 rfl ?_
      refine hm_iadd C d_R_climbAll_193 ?_
      obtain ⟨v16, ev16, hf⟩ := hm_bind hf
      refine hm_iaload C d_R_climbAll_194 ev16 ?_
      refine hm_sub (lv' := [(0, .ref x0), (1, .int x1), (2, .int x2), (3, .int x3), (4, .int x4), (5, .int x5), (7, .int (v8 + v10))]) [2, 3, 4, 5, 6, 7, 0] rfl ?_
      exact w_f_R_climbAll_195 C hr hlk hk85 hf
    · have hf := hm_ifn hf z14
      refine hm_iload C d_R_climbAll_178 1 rfl ?_
      refine hm_goto (tgt := 195) C d_R_climbAll_180 (by decide) ?_
      refine hm_sub (lv' := [(0, .ref x0), (1, .int x1), (2, .int x2), (3, .int x3), (4, .int x4), (5, .int x5), (7, .int (v8 + v10))]) [2, 3, 4, 5, 6, 7, 0] rfl ?_
      exact w_f_R_climbAll_195 C hr hlk hk85 hf
theorem w_R_climbAll_85L {p : Program} {l : Launch} {e : Env} {R : Room} {s : State} {m : MethodId} {args : Array Value} {below : List Frame} {meth : Method} {c : Code} {E : hm_E} {n0 s0 F : Nat} {h' : hm_T} {k69 : Nat → Int32 → Int32 → Int32 → hm_T → Option hm_T} (C : hm_C E prog_6_method_18_code 8 "DistanceLabelsModel" 0 0 n0 s0 (hm_n h') (hm_s h') p R s m args c) (hr : meth.sig.returnType = none) (hlk : meth.locks = false) (hk69 : ∀ (y0 : Nat) (y1 : Int32) (y2 : Int32) (y3 : Int32) (g : hm_T), k69 y0 y1 y2 y3 g = some h' → hm_G E 8 n0 s0 (hm_n h') (hm_s h') p l e R s m args below meth c (MQ below (hm_Qc E none h') args s (hm_n h' - n0) (hm_s h' - s0) (fun q => E.2.2 ≤ q)) 69 [(0, .ref y0), (1, .int y1), (2, .int y2), (3, .int y3)] [] g) : ∀ (N : Nat) (x0 : Nat) (x1 : Int32) (x2 : Int32) (x3 : Int32) (x4 : Int32) (x5 : Int32) (h : hm_T), f_R_climbAll_85 F k69 N x0 x1 x2 x3 x4 x5 h = some h' → hm_G E 8 n0 s0 (hm_n h') (hm_s h') p l e R s m args below meth c (MQ below (hm_Qc E none h') args s (hm_n h' - n0) (hm_s h' - s0) (fun q => E.2.2 ≤ q)) 85 [(0, .ref x0), (1, .int x1), (2, .int x2), (3, .int x3), (4, .int x4), (5, .int x5)] [] h := by
  intro N
  induction N with
  | zero => intro _ _ _ _ _ _ _ hf; cases hf
  | succ n ih => intro x0 x1 x2 x3 x4 x5 h hf; exact w_g_R_climbAll_85 C hr hlk hk69 ih hf
set_option maxRecDepth 20000 in
set_option maxHeartbeats 1000000 in
theorem w_g_R_climbAll_69 {p : Program} {l : Launch} {e : Env} {R : Room} {s : State} {m : MethodId} {args : Array Value} {below : List Frame} {meth : Method} {c : Code} {E : hm_E} {n0 s0 F : Nat} {h h' : hm_T} {x0 : Nat} {x1 : Int32} {x2 : Int32} {x3 : Int32} {k52 : Nat → Int32 → hm_T → Option hm_T} {k69 : Nat → Int32 → Int32 → Int32 → hm_T → Option hm_T} (C : hm_C E prog_6_method_18_code 8 "DistanceLabelsModel" 0 0 n0 s0 (hm_n h') (hm_s h') p R s m args c) (hr : meth.sig.returnType = none) (hlk : meth.locks = false) (hk52 : ∀ (y0 : Nat) (y1 : Int32) (g : hm_T), k52 y0 y1 g = some h' → hm_G E 8 n0 s0 (hm_n h') (hm_s h') p l e R s m args below meth c (MQ below (hm_Qc E none h') args s (hm_n h' - n0) (hm_s h' - s0) (fun q => E.2.2 ≤ q)) 52 [(0, .ref y0), (1, .int y1)] [] g) (hk69 : ∀ (y0 : Nat) (y1 : Int32) (y2 : Int32) (y3 : Int32) (g : hm_T), k69 y0 y1 y2 y3 g = some h' → hm_G E 8 n0 s0 (hm_n h') (hm_s h') p l e R s m args below meth c (MQ below (hm_Qc E none h') args s (hm_n h' - n0) (hm_s h' - s0) (fun q => E.2.2 ≤ q)) 69 [(0, .ref y0), (1, .int y1), (2, .int y2), (3, .int y3)] [] g) (hf : g_R_climbAll_69 F k52 k69 x0 x1 x2 x3 h = some h') : hm_G E 8 n0 s0 (hm_n h') (hm_s h') p l e R s m args below meth c (MQ below (hm_Qc E none h') args s (hm_n h' - n0) (hm_s h' - s0) (fun q => E.2.2 ≤ q)) 69 [(0, .ref x0), (1, .int x1), (2, .int x2), (3, .int x3)] [] h := by
  unfold g_R_climbAll_69 at hf
  refine hm_iload_n C d_R_climbAll_69 rfl 3 rfl ?_
  refine hm_iload_n C d_R_climbAll_70 rfl 1 rfl ?_
  refine hm_icmp_ge (tgt := 254) C d_R_climbAll_71 (by decide) (fun z1 => ?_) (fun z1 => ?_)
  · have hf := hm_ifp hf z1
    refine hm_sub (lv' := [(0, .ref x0), (1, .int x1)]) [0, 1] rfl ?_
    exact w_f_R_climbAll_254 C hr hlk hk52 hf
  · have hf := hm_ifn hf z1
    refine hm_aload_n C d_R_climbAll_74 rfl 0 rfl ?_
    obtain ⟨a2, ea2, hf⟩ := hm_bind hf
    refine hm_getR C F_4 3 (by decide) rfl k_141 d_R_climbAll_75 ea2 ?_
    refine hm_iload_n C d_R_climbAll_78 rfl 3 rfl ?_
    obtain ⟨v3, ev3, hf⟩ := hm_bind hf
    refine hm_iaload C d_R_climbAll_79 ev3 ?_
    refine hm_istore (lv' := [(4, .int v3), (0, .ref x0), (1, .int x1), (2, .int x2), (3, .int x3)]) C d_R_climbAll_80 (by decide) rfl ?_
    refine hm_iconst (v := (0 : Int32)) C d_R_climbAll_82 (by decide) ?_
    refine hm_istore (lv' := [(5, .int (0 : Int32)), (4, .int v3), (0, .ref x0), (1, .int x1), (2, .int x2), (3, .int x3)]) C d_R_climbAll_83 (by decide) rfl ?_
    refine hm_sub (lv' := [(0, .ref x0), (1, .int x1), (2, .int x2), (3, .int x3), (4, .int v3), (5, .int (0 : Int32))]) [2, 3, 4, 5, 1, 0] rfl ?_
    exact w_R_climbAll_85L C hr hlk hk69 _ _ _ _ _ _ _ _ hf
theorem w_R_climbAll_69L {p : Program} {l : Launch} {e : Env} {R : Room} {s : State} {m : MethodId} {args : Array Value} {below : List Frame} {meth : Method} {c : Code} {E : hm_E} {n0 s0 F : Nat} {h' : hm_T} {k52 : Nat → Int32 → hm_T → Option hm_T} (C : hm_C E prog_6_method_18_code 8 "DistanceLabelsModel" 0 0 n0 s0 (hm_n h') (hm_s h') p R s m args c) (hr : meth.sig.returnType = none) (hlk : meth.locks = false) (hk52 : ∀ (y0 : Nat) (y1 : Int32) (g : hm_T), k52 y0 y1 g = some h' → hm_G E 8 n0 s0 (hm_n h') (hm_s h') p l e R s m args below meth c (MQ below (hm_Qc E none h') args s (hm_n h' - n0) (hm_s h' - s0) (fun q => E.2.2 ≤ q)) 52 [(0, .ref y0), (1, .int y1)] [] g) : ∀ (N : Nat) (x0 : Nat) (x1 : Int32) (x2 : Int32) (x3 : Int32) (h : hm_T), f_R_climbAll_69 F k52 N x0 x1 x2 x3 h = some h' → hm_G E 8 n0 s0 (hm_n h') (hm_s h') p l e R s m args below meth c (MQ below (hm_Qc E none h') args s (hm_n h' - n0) (hm_s h' - s0) (fun q => E.2.2 ≤ q)) 69 [(0, .ref x0), (1, .int x1), (2, .int x2), (3, .int x3)] [] h := by
  intro N
  induction N with
  | zero => intro _ _ _ _ _ hf; cases hf
  | succ n ih => intro x0 x1 x2 x3 h hf; exact w_g_R_climbAll_69 C hr hlk hk52 ih hf
set_option maxRecDepth 20000 in
set_option maxHeartbeats 1000000 in
theorem w_g_R_climbAll_52 {p : Program} {l : Launch} {e : Env} {R : Room} {s : State} {m : MethodId} {args : Array Value} {below : List Frame} {meth : Method} {c : Code} {E : hm_E} {n0 s0 F : Nat} {h h' : hm_T} {x0 : Nat} {x1 : Int32} {k52 : Nat → Int32 → hm_T → Option hm_T} (C : hm_C E prog_6_method_18_code 8 "DistanceLabelsModel" 0 0 n0 s0 (hm_n h') (hm_s h') p R s m args c) (hr : meth.sig.returnType = none) (hlk : meth.locks = false) (hk52 : ∀ (y0 : Nat) (y1 : Int32) (g : hm_T), k52 y0 y1 g = some h' → hm_G E 8 n0 s0 (hm_n h') (hm_s h') p l e R s m args below meth c (MQ below (hm_Qc E none h') args s (hm_n h' - n0) (hm_s h' - s0) (fun q => E.2.2 ≤ q)) 52 [(0, .ref y0), (1, .int y1)] [] g) (hf : g_R_climbAll_52 F k52 x0 x1 h = some h') : hm_G E 8 n0 s0 (hm_n h') (hm_s h') p l e R s m args below meth c (MQ below (hm_Qc E none h') args s (hm_n h' - n0) (hm_s h' - s0) (fun q => E.2.2 ≤ q)) 52 [(0, .ref x0), (1, .int x1)] [] h := by
  unfold g_R_climbAll_52 at hf
  refine hm_iload_n C d_R_climbAll_52 rfl 1 rfl ?_
  refine hm_aload_n C d_R_climbAll_53 rfl 0 rfl ?_
  obtain ⟨v1, ev1, hf⟩ := hm_bind hf
  refine hm_getI C F_4 1 (by decide) rfl k_159 d_R_climbAll_54 ev1 ?_
  refine hm_icmp_ge (tgt := 260) C d_R_climbAll_57 (by decide) (fun z2 => ?_) (fun z2 => ?_)
  · have hf := hm_ifp hf z2
    refine hm_sub (lv' := [(0, .ref x0)]) [0] rfl ?_
    exact w_f_R_climbAll_260 C hr hlk hf
  · have hf := hm_ifn hf z2
    refine hm_aload_n C d_R_climbAll_60 rfl 0 rfl ?_
    obtain ⟨a3, ea3, hf⟩ := hm_bind hf
    refine hm_getR C F_4 3 (by decide) rfl k_141 d_R_climbAll_61 ea3 ?_
    refine hm_iload_n C d_R_climbAll_64 rfl 1 rfl ?_
    obtain ⟨v4, ev4, hf⟩ := hm_bind hf
    refine hm_iaload C d_R_climbAll_65 ev4 ?_
    refine hm_istore_n (lv' := [(2, .int v4), (0, .ref x0), (1, .int x1)]) C d_R_climbAll_66 rfl (by decide) rfl ?_
    refine hm_iconst (v := (0 : Int32)) C d_R_climbAll_67 (by decide) ?_
    refine hm_istore_n (lv' := [(3, .int (0 : Int32)), (2, .int v4), (0, .ref x0), (1, .int x1)]) C d_R_climbAll_68 rfl (by decide) rfl ?_
    refine hm_sub (lv' := [(0, .ref x0), (1, .int x1), (2, .int v4), (3, .int (0 : Int32))]) [2, 3, 1, 0] rfl ?_
    exact w_R_climbAll_69L C hr hlk hk52 _ _ _ _ _ _ hf
theorem w_R_climbAll_52L {p : Program} {l : Launch} {e : Env} {R : Room} {s : State} {m : MethodId} {args : Array Value} {below : List Frame} {meth : Method} {c : Code} {E : hm_E} {n0 s0 F : Nat} {h' : hm_T} (C : hm_C E prog_6_method_18_code 8 "DistanceLabelsModel" 0 0 n0 s0 (hm_n h') (hm_s h') p R s m args c) (hr : meth.sig.returnType = none) (hlk : meth.locks = false) : ∀ (N : Nat) (x0 : Nat) (x1 : Int32) (h : hm_T), f_R_climbAll_52 F N x0 x1 h = some h' → hm_G E 8 n0 s0 (hm_n h') (hm_s h') p l e R s m args below meth c (MQ below (hm_Qc E none h') args s (hm_n h' - n0) (hm_s h' - s0) (fun q => E.2.2 ≤ q)) 52 [(0, .ref x0), (1, .int x1)] [] h := by
  intro N
  induction N with
  | zero => intro _ _ _ hf; cases hf
  | succ n ih => intro x0 x1 h hf; exact w_g_R_climbAll_52 C hr hlk ih hf
set_option maxRecDepth 20000 in
set_option maxHeartbeats 1000000 in
theorem w_f_R_climbAll_50 {p : Program} {l : Launch} {e : Env} {R : Room} {s : State} {m : MethodId} {args : Array Value} {below : List Frame} {meth : Method} {c : Code} {E : hm_E} {n0 s0 F : Nat} {h h' : hm_T} {x0 : Nat} (C : hm_C E prog_6_method_18_code 8 "DistanceLabelsModel" 0 0 n0 s0 (hm_n h') (hm_s h') p R s m args c) (hr : meth.sig.returnType = none) (hlk : meth.locks = false) (hf : f_R_climbAll_50 F x0 h = some h') : hm_G E 8 n0 s0 (hm_n h') (hm_s h') p l e R s m args below meth c (MQ below (hm_Qc E none h') args s (hm_n h' - n0) (hm_s h' - s0) (fun q => E.2.2 ≤ q)) 50 [(0, .ref x0)] [] h := by
  unfold f_R_climbAll_50 at hf
  refine hm_iconst (v := (0 : Int32)) C d_R_climbAll_50 (by decide) ?_
  refine hm_istore_n (lv' := [(1, .int (0 : Int32)), (0, .ref x0)]) C d_R_climbAll_51 rfl (by decide) rfl ?_
  refine hm_sub (lv' := [(0, .ref x0), (1, .int (0 : Int32))]) [1, 0] rfl ?_
  exact w_R_climbAll_52L C hr hlk _ _ _ _ hf
set_option maxRecDepth 20000 in
set_option maxHeartbeats 1000000 in
theorem w_f_R_climbAll_31 {p : Program} {l : Launch} {e : Env} {R : Room} {s : State} {m : MethodId} {args : Array Value} {below : List Frame} {meth : Method} {c : Code} {E : hm_E} {n0 s0 F : Nat} {h h' : hm_T} {x0 : Nat} {x1 : Int32} {t0 : Int32} {t1 : Int32} {t2 : Nat} {k2 : Nat → Int32 → hm_T → Option hm_T} (C : hm_C E prog_6_method_18_code 8 "DistanceLabelsModel" 0 0 n0 s0 (hm_n h') (hm_s h') p R s m args c) (hr : meth.sig.returnType = none) (hlk : meth.locks = false) (hk2 : ∀ (y0 : Nat) (y1 : Int32) (g : hm_T), k2 y0 y1 g = some h' → hm_G E 8 n0 s0 (hm_n h') (hm_s h') p l e R s m args below meth c (MQ below (hm_Qc E none h') args s (hm_n h' - n0) (hm_s h' - s0) (fun q => E.2.2 ≤ q)) 2 [(0, .ref y0), (1, .int y1)] [] g) (hf : f_R_climbAll_31 F k2 x0 x1 t0 t1 t2 h = some h') : hm_G E 8 n0 s0 (hm_n h') (hm_s h') p l e R s m args below meth c (MQ below (hm_Qc E none h') args s (hm_n h' - n0) (hm_s h' - s0) (fun q => E.2.2 ≤ q)) 31 [(0, .ref x0), (1, .int x1)] [.int t0, .int t1, .ref t2] h := by
  unfold f_R_climbAll_31 at hf
  obtain ⟨h1, eh1, hf⟩ := hm_bind hf
  refine hm_iastore C d_R_climbAll_31 eh1 ?_
  refine hm_aload_n C d_R_climbAll_32 rfl 0 rfl ?_
  obtain ⟨a2, ea2, hf⟩ := hm_bind hf
  refine hm_getR C F_4 22 (by decide) rfl k_157 d_R_climbAll_33 ea2 ?_
  refine hm_iload_n C d_R_climbAll_36 rfl 1 rfl ?_
  refine hm_aload_n C d_R_climbAll_37 rfl 0 rfl ?_
  obtain ⟨a3, ea3, hf⟩ := hm_bind hf
  refine hm_getR C F_4 21 (by decide) rfl k_156 d_R_climbAll_38 ea3 ?_
  refine hm_iload_n C d_R_climbAll_41 rfl 1 rfl ?_
  obtain ⟨v4, ev4, hf⟩ := hm_bind hf
  refine hm_iaload C d_R_climbAll_42 ev4 ?_
  obtain ⟨h5, eh5, hf⟩ := hm_bind hf
  refine hm_iastore C d_R_climbAll_43 eh5 ?_
  refine hm_iinc (v := (x1 + (1 : Int32))) (lv' := [(1, .int (x1 + (1 : Int32))), (0, .ref x0)]) C d_R_climbAll_44 1 rfl rfl (by decide) rfl ?_
  refine hm_goto (tgt := 2) C d_R_climbAll_47 (by decide) ?_
  refine hm_sub (lv' := [(0, .ref x0), (1, .int (x1 + (1 : Int32)))]) [1, 0] rfl ?_
  exact hk2 _ _ _ hf
set_option maxRecDepth 20000 in
set_option maxHeartbeats 1000000 in
theorem w_g_R_climbAll_2 {p : Program} {l : Launch} {e : Env} {R : Room} {s : State} {m : MethodId} {args : Array Value} {below : List Frame} {meth : Method} {c : Code} {E : hm_E} {n0 s0 F : Nat} {h h' : hm_T} {x0 : Nat} {x1 : Int32} {k2 : Nat → Int32 → hm_T → Option hm_T} (C : hm_C E prog_6_method_18_code 8 "DistanceLabelsModel" 0 0 n0 s0 (hm_n h') (hm_s h') p R s m args c) (hr : meth.sig.returnType = none) (hlk : meth.locks = false) (hk2 : ∀ (y0 : Nat) (y1 : Int32) (g : hm_T), k2 y0 y1 g = some h' → hm_G E 8 n0 s0 (hm_n h') (hm_s h') p l e R s m args below meth c (MQ below (hm_Qc E none h') args s (hm_n h' - n0) (hm_s h' - s0) (fun q => E.2.2 ≤ q)) 2 [(0, .ref y0), (1, .int y1)] [] g) (hf : g_R_climbAll_2 F k2 x0 x1 h = some h') : hm_G E 8 n0 s0 (hm_n h') (hm_s h') p l e R s m args below meth c (MQ below (hm_Qc E none h') args s (hm_n h' - n0) (hm_s h' - s0) (fun q => E.2.2 ≤ q)) 2 [(0, .ref x0), (1, .int x1)] [] h := by
  unfold g_R_climbAll_2 at hf
  refine hm_iload_n C d_R_climbAll_2 rfl 1 rfl ?_
  refine hm_sipush (v := (256 : Int32)) C d_R_climbAll_3 (by decide) ?_
  refine hm_icmp_ge (tgt := 50) C d_R_climbAll_6 (by decide) (fun z1 => ?_) (fun z1 => ?_)
  · have hf := hm_ifp hf z1
    refine hm_sub (lv' := [(0, .ref x0)]) [0] rfl ?_
    exact w_f_R_climbAll_50 C hr hlk hf
  · have hf := hm_ifn hf z1
    refine hm_aload_n C d_R_climbAll_9 rfl 0 rfl ?_
    obtain ⟨a2, ea2, hf⟩ := hm_bind hf
    refine hm_getR C F_4 21 (by decide) rfl k_156 d_R_climbAll_10 ea2 ?_
    refine hm_iload_n C d_R_climbAll_13 rfl 1 rfl ?_
    refine hm_iload_n C d_R_climbAll_14 rfl 1 rfl ?_
    refine hm_bipush (v := (16 : Int32)) C d_R_climbAll_15 (by decide) ?_
    have z3 : ¬ (16 : Int32) = 0 := fun q => by rw [if_pos q] at hf; cases hf
    have hf := hm_ifn hf z3
    refine hm_idiv C d_R_climbAll_17 z3 ?_
    refine hm_iload_n C d_R_climbAll_18 rfl 1 rfl ?_
    refine hm_bipush (v := (16 : Int32)) C d_R_climbAll_19 (by decide) ?_
    have z4 : ¬ (16 : Int32) = 0 := fun q => by rw [if_pos q] at hf; cases hf
    have hf := hm_ifn hf z4
    refine hm_irem C d_R_climbAll_21 z4 ?_
    refine hm_icmp_ne (tgt := 29) C d_R_climbAll_22 (by decide) (fun z5 => ?_) (fun z5 => ?_)
    · have hf := hm_ifn hf z5
      refine hm_ldc (v := (1000000 : Int32)) C k_139 d_R_climbAll_29 ?_
      exact w_f_R_climbAll_31 C hr hlk hk2 hf
    · have hf := hm_ifp hf z5
      refine hm_iconst (v := (0 : Int32)) C d_R_climbAll_25 (by decide) ?_
      refine hm_goto (tgt := 31) C d_R_climbAll_26 (by decide) ?_
      exact w_f_R_climbAll_31 C hr hlk hk2 hf
theorem w_R_climbAll_2L {p : Program} {l : Launch} {e : Env} {R : Room} {s : State} {m : MethodId} {args : Array Value} {below : List Frame} {meth : Method} {c : Code} {E : hm_E} {n0 s0 F : Nat} {h' : hm_T} (C : hm_C E prog_6_method_18_code 8 "DistanceLabelsModel" 0 0 n0 s0 (hm_n h') (hm_s h') p R s m args c) (hr : meth.sig.returnType = none) (hlk : meth.locks = false) : ∀ (N : Nat) (x0 : Nat) (x1 : Int32) (h : hm_T), f_R_climbAll_2 F N x0 x1 h = some h' → hm_G E 8 n0 s0 (hm_n h') (hm_s h') p l e R s m args below meth c (MQ below (hm_Qc E none h') args s (hm_n h' - n0) (hm_s h' - s0) (fun q => E.2.2 ≤ q)) 2 [(0, .ref x0), (1, .int x1)] [] h := by
  intro N
  induction N with
  | zero => intro _ _ _ hf; cases hf
  | succ n ih => intro x0 x1 h hf; exact w_g_R_climbAll_2 C hr hlk ih hf
set_option maxRecDepth 20000 in
set_option maxHeartbeats 1000000 in
theorem w_f_R_climbAll {p : Program} {l : Launch} {e : Env} {R : Room} {s : State} {m : MethodId} {args : Array Value} {below : List Frame} {meth : Method} {c : Code} {E : hm_E} {n0 s0 F : Nat} {h h' : hm_T} {x0 : Nat} (C : hm_C E prog_6_method_18_code 8 "DistanceLabelsModel" 0 0 n0 s0 (hm_n h') (hm_s h') p R s m args c) (hr : meth.sig.returnType = none) (hlk : meth.locks = false) (hf : f_R_climbAll F x0 h = some h') : hm_G E 8 n0 s0 (hm_n h') (hm_s h') p l e R s m args below meth c (MQ below (hm_Qc E none h') args s (hm_n h' - n0) (hm_s h' - s0) (fun q => E.2.2 ≤ q)) 0 [(0, .ref x0)] [] h := by
  unfold f_R_climbAll at hf
  refine hm_iconst (v := (0 : Int32)) C d_R_climbAll_0 (by decide) ?_
  refine hm_istore_n (lv' := [(1, .int (0 : Int32)), (0, .ref x0)]) C d_R_climbAll_1 rfl (by decide) rfl ?_
  refine hm_sub (lv' := [(0, .ref x0), (1, .int (0 : Int32))]) [1, 0] rfl ?_
  exact w_R_climbAll_2L C hr hlk _ _ _ _ hf
set_option maxRecDepth 20000 in
theorem c_R_climbAll {E : hm_E} {l : Launch} {F : Nat} {h h' : hm_T} {x0 : Nat} (hf : f_R_climbAll F x0 h = some h') : hm_M E l y_R_climbAll prog_6_method_18_code 8 none 0 0 [.ref x0] h none h' :=
  hm_enter (by decide +kernel) (Nat.le_of_ble_eq_true rfl) (m_f_R_climbAll hf) (fun p e R s m below meth c C hr hlk hin => w_f_R_climbAll C hr hlk hf)
