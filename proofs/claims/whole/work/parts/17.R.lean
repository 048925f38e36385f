def f_R_nth_68 (F : Nat) (x0 : Nat) (x4 : Int32) (h : hm_T) : Option (Int32 × hm_T) :=
  (hm_pi 4 25 23 h x0 x4).bind (fun h1 => some ((-1 : Int32), h1))
def f_R_nth_62 (F : Nat) (k6 : Nat → Int32 → Int32 → Int32 → Int32 → Int32 → hm_T → Option (Int32 × hm_T)) (x0 : Nat) (x1 : Int32) (x2 : Int32) (x3 : Int32) (x4 : Int32) (x5 : Int32) (h : hm_T) : Option (Int32 × hm_T) :=
  k6 x0 x1 x2 x3 x4 (x5 + (1 : Int32)) h
def f_R_nth_51 (F : Nat) (x0 : Nat) (x5 : Int32) (h : hm_T) : Option (Int32 × hm_T) :=
  (hm_gr 4 25 3 h x0).bind (fun a1 => (hm_ild h a1 x5).bind (fun v2 => some (v2, h)))
def g_R_nth_6 (F : Nat) (k6 : Nat → Int32 → Int32 → Int32 → Int32 → Int32 → hm_T → Option (Int32 × hm_T)) (x0 : Nat) (x1 : Int32) (x2 : Int32) (x3 : Int32) (x4 : Int32) (x5 : Int32) (h : hm_T) : Option (Int32 × hm_T) :=
  (hm_gi 4 25 1 h x0).bind (fun v1 => (if v1 ≤ x5 then f_R_nth_68 F x0 x4 h else (hm_gr 4 25 3 h x0).bind (fun a3 => (hm_ild h a3 x5).bind (fun v4 => (hm_gr 4 25 9 h x0).bind (fun a5 => (hm_ild h a5 ((((256 : Int32) * x1) + ((16 : Int32) * x2)) + v4)).bind (fun v6 => (if v6 ≤ 0 then f_R_nth_62 F k6 x0 x1 x2 x3 x4 x5 h else (if x4 = x3 then f_R_nth_51 F x0 x5 h else f_R_nth_62 F k6 x0 x1 x2 x3 (x4 + (1 : Int32)) x5 h))))))))
def f_R_nth_6 (F : Nat) : Nat → Nat → Int32 → Int32 → Int32 → Int32 → Int32 → hm_T → Option (Int32 × hm_T)
  | 0 => fun _ _ _ _ _ _ _ => none
  | n + 1 => g_R_nth_6 F (f_R_nth_6 F n)
def f_R_nth (F : Nat) (x0 : Nat) (x1 : Int32) (x2 : Int32) (x3 : Int32) (h : hm_T) : Option (Int32 × hm_T) :=
  f_R_nth_6 F F x0 x1 x2 x3 (0 : Int32) (0 : Int32) h
theorem m_f_R_nth_68 {F : Nat} {r : Int32} {h h' : hm_T} {x0 : Nat} {x4 : Int32} (hf : f_R_nth_68 F x0 x4 h = some (r, h')) : hm_le h h' := by
  unfold f_R_nth_68 at hf
  obtain ⟨h1, eh1, hf⟩ := hm_bind hf
  have mh1 := hm_le.pi eh1
  exact mh1.tr ((hm_le.ret hf))
theorem m_f_R_nth_62 {F : Nat} {r : Int32} {h h' : hm_T} {x0 : Nat} {x1 : Int32} {x2 : Int32} {x3 : Int32} {x4 : Int32} {x5 : Int32} {k6 : Nat → Int32 → Int32 → Int32 → Int32 → Int32 → hm_T → Option (Int32 × hm_T)} (hk6 : ∀ (y0 : Nat) (y1 : Int32) (y2 : Int32) (y3 : Int32) (y4 : Int32) (y5 : Int32) (g : hm_T), k6 y0 y1 y2 y3 y4 y5 g = some (r, h') → hm_le g h') (hf : f_R_nth_62 F k6 x0 x1 x2 x3 x4 x5 h = some (r, h')) : hm_le h h' := by
  unfold f_R_nth_62 at hf
  exact (hk6 _ _ _ _ _ _ _ hf)
theorem m_f_R_nth_51 {F : Nat} {r : Int32} {h h' : hm_T} {x0 : Nat} {x5 : Int32} (hf : f_R_nth_51 F x0 x5 h = some (r, h')) : hm_le h h' := by
  unfold f_R_nth_51 at hf
  obtain ⟨a1, ea1, hf⟩ := hm_bind hf
  obtain ⟨v2, ev2, hf⟩ := hm_bind hf
  exact (hm_le.ret hf)
theorem m_g_R_nth_6 {F : Nat} {r : Int32} {h h' : hm_T} {x0 : Nat} {x1 : Int32} {x2 : Int32} {x3 : Int32} {x4 : Int32} {x5 : Int32} {k6 : Nat → Int32 → Int32 → Int32 → Int32 → Int32 → hm_T → Option (Int32 × hm_T)} (hk6 : ∀ (y0 : Nat) (y1 : Int32) (y2 : Int32) (y3 : Int32) (y4 : Int32) (y5 : Int32) (g : hm_T), k6 y0 y1 y2 y3 y4 y5 g = some (r, h') → hm_le g h') (hf : g_R_nth_6 F k6 x0 x1 x2 x3 x4 x5 h = some (r, h')) : hm_le h h' := by
  unfold g_R_nth_6 at hf
  obtain ⟨v1, ev1, hf⟩ := hm_bind hf
  by_cases z2 : v1 ≤ x5
  · have hf := hm_ifp hf z2
    exact (m_f_R_nth_68 hf)
  · have hf := hm_ifn hf z2
    obtain ⟨a3, ea3, hf⟩ := hm_bind hf
    obtain ⟨v4, ev4, hf⟩ := hm_bind hf
    obtain ⟨a5, ea5, hf⟩ := hm_bind hf
    obtain ⟨v6, ev6, hf⟩ := hm_bind hf
    by_cases z7 : v6 ≤ 0
    · have hf := hm_ifp hf z7
      exact (m_f_R_nth_62 hk6 hf)
    · have hf := hm_ifn hf z7
      by_cases z8 : x4 = x3
      · have hf := hm_ifp hf z8
        exact (m_f_R_nth_51 hf)
      · have hf := hm_ifn hf z8
        exact (m_f_R_nth_62 hk6 hf)
theorem m_R_nth_6L {F : Nat} {r : Int32} {h' : hm_T} : ∀ (N : Nat) (x0 : Nat) (x1 : Int32) (x2 : Int32) (x3 : Int32) (x4 : Int32) (x5 : Int32) (h : hm_T), f_R_nth_6 F N x0 x1 x2 x3 x4 x5 h = some (r, h') → hm_le h h' := by
  intro N
  induction N with
  | zero => intro _ _ _ _ _ _ _ hf; cases hf
  | succ n ih => intro x0 x1 x2 x3 x4 x5 h hf; exact m_g_R_nth_6 ih hf
theorem m_f_R_nth {F : Nat} {r : Int32} {h h' : hm_T} {x0 : Nat} {x1 : Int32} {x2 : Int32} {x3 : Int32} (hf : f_R_nth F x0 x1 x2 x3 h = some (r, h')) : hm_le h h' := by
  unfold f_R_nth at hf
  exact (m_R_nth_6L _ _ _ _ _ _ _ _ hf)
set_option maxRecDepth 20000 in
set_option maxHeartbeats 1000000 in
theorem w_f_R_nth_68 {p : Program} {l : Launch} {e : Env} {R : Room} {s : State} {m : MethodId} {args : Array Value} {below : List Frame} {meth : Method} {c : Code} {E : hm_E} {n0 s0 F : Nat} {r : Int32} {h h' : hm_T} {x0 : Nat} {x4 : Int32} (C : hm_C E prog_6_method_19_code 7 "DistanceLabelsModel" 0 0 n0 s0 (hm_n h') (hm_s h') p R s m args c) (hr : meth.sig.returnType = (some .int)) (hlk : meth.locks = false) (hf : f_R_nth_68 F x0 x4 h = some (r, h')) : hm_G E 7 n0 s0 (hm_n h') (hm_s h') p l e R s m args below meth c (MQ below (hm_Qc E (some (.int r)) h') args s (hm_n h' - n0) (hm_s h' - s0) (fun q => E.2.2 ≤ q)) 68 [(0, .ref x0), (4, .int x4)] [] h := by
  unfold f_R_nth_68 at hf
  refine hm_aload_n C d_R_nth_68 rfl 0 rfl ?_
  refine hm_iload C d_R_nth_69 1 rfl ?_
  obtain ⟨h1, eh1, hf⟩ := hm_bind hf
  refine hm_putI C F_4 23 (by decide) rfl k_189 (Or.inl rfl) rfl d_R_nth_71 eh1 ?_
  refine hm_iconst (v := (-1 : Int32)) C d_R_nth_74 (by decide) ?_
  exact hm_iret C hr hlk d_R_nth_75 hf
set_option maxRecDepth 20000 in
set_option maxHeartbeats 1000000 in
theorem w_f_R_nth_62 {p : Program} {l : Launch} {e : Env} {R : Room} {s : State} {m : MethodId} {args : Array Value} {below : List Frame} {meth : Method} {c : Code} {E : hm_E} {n0 s0 F : Nat} {r : Int32} {h h' : hm_T} {x0 : Nat} {x1 : Int32} {x2 : Int32} {x3 : Int32} {x4 : Int32} {x5 : Int32} {k6 : Nat → Int32 → Int32 → Int32 → Int32 → Int32 → hm_T → Option (Int32 × hm_T)} (C : hm_C E prog_6_method_19_code 7 "DistanceLabelsModel" 0 0 n0 s0 (hm_n h') (hm_s h') p R s m args c) (hr : meth.sig.returnType = (some .int)) (hlk : meth.locks = false) (hk6 : ∀ (y0 : Nat) (y1 : Int32) (y2 : Int32) (y3 : Int32) (y4 : Int32) (y5 : Int32) (g : hm_T), k6 y0 y1 y2 y3 y4 y5 g = some (r, h') → hm_G E 7 n0 s0 (hm_n h') (hm_s h') p l e R s m args below meth c (MQ below (hm_Qc E (some (.int r)) h') args s (hm_n h' - n0) (hm_s h' - s0) (fun q => E.2.2 ≤ q)) 6 [(0, .ref y0), (1, .int y1), (2, .int y2), (3, .int y3), (4, .int y4), (5, .int y5)] [] g) (hf : f_R_nth_62 F k6 x0 x1 x2 x3 x4 x5 h = some (r, h')) : hm_G E 7 n0 s0 (hm_n h') (hm_s h') p l e R s m args below meth c (MQ below (hm_Qc E (some (.int r)) h') args s (hm_n h' - n0) (hm_s h' - s0) (fun q => E.2.2 ≤ q)) 62 [(0, .ref x0), (1, .int x1), (2, .int x2), (3, .int x3), (4, .int x4), (5, .int x5)] [] h := by
  unfold f_R_nth_62 at hf
  refine hm_iinc (v := (x5 + (1 : Int32))) (lv' := [(5, .int (x5 + (1 : Int32))), (0, .ref x0), (1, .int x1), (2, .int x2), (3, .int x3), (4, .int x4)]) C d_R_nth_62 5 rfl rfl (by decide) rfl ?_
  refine hm_goto (tgt := 6) C d_R_nth_65 (by decide) ?_
  refine hm_sub (lv' := [(0, .ref x0), (1, .int x1), (2, .int x2), (3, .int x3), (4, .int x4), (5, .int (x5 + (1 : Int32)))]) [1, 2, 3, 4, 5, 0] rfl ?_
  exact hk6 _ _ _ _ _ _ _ hf
set_option maxRecDepth 20000 in
set_option maxHeartbeats 1000000 in
theorem w_f_R_nth_51 {p : Program} {l : Launch} {e : Env} {R : Room} {s : State} {m : MethodId} {args : Array Value} {below : List Frame} {meth : Method} {c : Code} {E : hm_E} {n0 s0 F : Nat} {r : Int32} {h h' : hm_T} {x0 : Nat} {x5 : Int32} (C : hm_C E prog_6_method_19_code 7 "DistanceLabelsModel" 0 0 n0 s0 (hm_n h') (hm_s h') p R s m args c) (hr : meth.sig.returnType = (some .int)) (hlk : meth.locks = false) (hf : f_R_nth_51 F x0 x5 h = some (r, h')) : hm_G E 7 n0 s0 (hm_n h') (hm_s h') p l e R s m args below meth c (MQ below (hm_Qc E (some (.int r)) h') args s (hm_n h' - n0) (hm_s h' - s0) (fun q => E.2.2 ≤ q)) 51 [(0, .ref x0), (5, .int x5)] [] h := by
  unfold f_R_nth_51 at hf
  refine hm_aload_n C d_R_nth_51 rfl 0 rfl ?_
  obtain ⟨a1, ea1, hf⟩ := hm_bind hf
  refine hm_getR C F_4 3 (by decide) rfl k_141 d_R_nth_52 ea1 ?_
  refine hm_iload C d_R_nth_55 1 rfl ?_
  obtain ⟨v2, ev2, hf⟩ := hm_bind hf
  refine hm_iaload C d_R_nth_57 ev2 ?_
  exact hm_iret C hr hlk d_R_nth_58 hf
set_option maxRecDepth 20000 in
set_option maxHeartbeats 1000000 in
theorem w_g_R_nth_6 {p : Program} {l : Launch} {e : Env} {R : Room} {s : State} {m : MethodId} {args : Array Value} {below : List Frame} {meth : Method} {c : Code} {E : hm_E} {n0 s0 F : Nat} {r : Int32} {h h' : hm_T} {x0 : Nat} {x1 : Int32} {x2 : Int32} {x3 : Int32} {x4 : Int32} {x5 : Int32} {k6 : Nat → Int32 → Int32 → Int32 → Int32 → Int32 → hm_T → Option (Int32 × hm_T)} (C : hm_C E prog_6_method_19_code 7 "DistanceLabelsModel" 0 0 n0 s0 (hm_n h') (hm_s h') p R s m args c) (hr : meth.sig.returnType = (some .int)) (hlk : meth.locks = false) (hk6 : ∀ (y0 : Nat) (y1 : Int32) (y2 : Int32) (y3 : Int32) (y4 : Int32) (y5 : Int32) (g : hm_T), k6 y0 y1 y2 y3 y4 y5 g = some (r, h') → hm_G E 7 n0 s0 (hm_n h') (hm_s h') p l e R s m args below meth c (MQ below (hm_Qc E (some (.int r)) h') args s (hm_n h' - n0) (hm_s h' - s0) (fun q => E.2.2 ≤ q)) 6 [(0, .ref y0), (1, .int y1), (2, .int y2), (3, .int y3), (4, .int y4), (5, .int y5)] [] g) (hf : g_R_nth_6 F k6 x0 x1 x2 x3 x4 x5 h = some (r, h')) : hm_G E 7 n0 s0 (hm_n h') (hm_s h') p l e R s m args below meth c (MQ below (hm_Qc E (some (.int r)) h') args s (hm_n h' - n0) (hm_s h' - s0) (fun q => E.2.2 ≤ q)) 6 [(0, .ref x0), (1, .int x1), (2, .int x2), (3, .int x3), (4, .int x4), (5, .int x5)] [] h := by
  unfold g_R_nth_6 at hf
  refine hm_iload C d_R_nth_6 5 rfl ?_
  refine hm_aload_n C d_R_nth_8 rfl 0 rfl ?_
  obtain ⟨v1, ev1, hf⟩ := hm_bind hf
  refine hm_getI C F_4 1 (by decide) rfl k_159 d_R_nth_9 ev1 ?_
  refine hm_icmp_ge (tgt := 68) C d_R_nth_12 (by decide) (fun z2 => ?_) (fun z2 => ?_)
  · have hf := hm_ifp hf z2
    refine hm_sub (lv' := [(0, .ref x0), (4, .int x4)]) [0, 4] rfl ?_
    exact w_f_R_nth_68 C hr hlk hf
  · have hf := hm_ifn hf z2
    refine hm_sipush (v := (256 : Int32)) C d_R_nth_15 (by decide) ?_
    refine hm_iload_n C d_R_nth_18 rfl 1 rfl ?_
    refine hm_imul C d_R_nth_19 ?_
    refine hm_bipush (v := (16 : Int32)) C d_R_nth_20 (by decide) ?_
    refine hm_iload_n C d_R_nth_22 rfl 2 rfl ?_
    refine hm_imul C d_R_nth_23 ?_
    refine hm_iadd C d_R_nth_24 ?_
    refine hm_aload_n C d_R_nth_25 rfl 0 rfl ?_
    obtain ⟨a3, ea3, hf⟩ := hm_bind hf
    refine hm_getR C F_4 3 (by decide) rfl k_141 d_R_nth_26 ea3 ?_
    refine hm_iload C d_R_nth_29 5 rfl ?_
    obtain ⟨v4, ev4, hf⟩ := hm_bind hf
    refine hm_iaload C d_R_nth_31 ev4 ?_
    refine hm_iadd C d_R_nth_32 ?_
    refine hm_istore (lv' := [(6, .int ((((256 : Int32) * x1) + ((16 : Int32) * x2)) + v4)), (0, .ref x0), (1, .int x1), (2, .int x2), (3, .int x3), (4, .int x4), (5, .int x5)]) C d_R_nth_33 (by decide) rfl ?_
    refine hm_aload_n C d_R_nth_35 rfl 1 rfl ?_
    obtain ⟨a5, ea5, hf⟩ := hm_bind hf
    refine hm_getR C F_4 9 (by decide) rfl k_146 d_R_nth_36 ea5 ?_
    refine hm_iload C d_R_nth_39 0 rfl ?_
    obtain ⟨v6, ev6, hf⟩ := hm_bind hf
    refine hm_iaload C d_R_nth_41 ev6 ?_
    refine hm_if_le (tgt := 62) C d_R_nth_42 (by decide) (fun z7 => ?_) (fun z7 => ?_)
    · have hf := hm_ifp hf z7
      refine hm_sub (lv' := [(0, .ref x0), (1, .int x1), (2, .int x2), (3, .int x3), (4, .int x4), (5, .int x5)]) [1, 2, 3, 4, 5, 6] rfl ?_
      exact w_f_R_nth_62 C hr hlk hk6 hf
    · have hf := hm_ifn hf z7
      refine hm_iload C d_R_nth_45 5 rfl ?_
      refine hm_iload_n C d_R_nth_47 rfl 4 rfl ?_
      refine hm_icmp_ne (tgt := 59) C d_R_nth_48 (by decide) (fun z8 => ?_) (fun z8 => ?_)
      · have hf := hm_ifn hf z8
        refine hm_iinc (v := (x4 + (1 : Int32))) (lv' := [(4, .int (x4 + (1 : Int32))), (6, .int ((((256 : Int32) * x1) + ((16 : Int32) * x2)) + v4)), (0, .ref x0), (1, .int x1), (2, .int x2), (3, .int x3), (5, .int x5)]) C d_R_nth_59 5 rfl rfl (by decide) rfl ?_
        refine hm_sub (lv' := [(0, .ref x0), (1, .int x1), (2, .int x2), (3, .int x3), (4, .int (x4 + (1 : Int32))), (5, .int x5)]) [2, 3, 4, 5, 0, 6] rfl ?_
        exact w_f_R_nth_62 C hr hlk hk6 hf
      · have hf := hm_ifp hf z8
        refine hm_sub (lv' := [(0, .ref x0), (5, .int x5)]) [1, 6] rfl ?_
        exact w_f_R_nth_51 C hr hlk hf
theorem w_R_nth_6L {p : Program} {l : Launch} {e : Env} {R : Room} {s : State} {m : MethodId} {args : Array Value} {below : List Frame} {meth : Method} {c : Code} {E : hm_E} {n0 s0 F : Nat} {r : Int32} {h' : hm_T} (C : hm_C E prog_6_method_19_code 7 "DistanceLabelsModel" 0 0 n0 s0 (hm_n h') (hm_s h') p R s m args c) (hr : meth.sig.returnType = (some .int)) (hlk : meth.locks = false) : ∀ (N : Nat) (x0 : Nat) (x1 : Int32) (x2 : Int32) (x3 : Int32) (x4 : Int32) (x5 : Int32) (h : hm_T), f_R_nth_6 F N x0 x1 x2 x3 x4 x5 h = some (r, h') → hm_G E 7 n0 s0 (hm_n h') (hm_s h') p l e R s m args below meth c (MQ below (hm_Qc E (some (.int r)) h') args s (hm_n h' - n0) (hm_s h' - s0) (fun q => E.2.2 ≤ q)) 6 [(0, .ref x0), (1, .int x1), (2, .int x2), (3, .int x3), (4, .int x4), (5, .int x5)] [] h := by
  intro N
  induction N with
  | zero => intro _ _ _ _ _ _ _ hf; cases hf
  | succ n ih => intro x0 x1 x2 x3 x4 x5 h hf; exact w_g_R_nth_6 C hr hlk ih hf
set_option maxRecDepth 20000 in
set_option maxHeartbeats 1000000 in
theorem w_f_R_nth {p : Program} {l : Launch} {e : Env} {R : Room} {s : State} {m : MethodId} {args : Array Value} {below : List Frame} {meth : Method} {c : Code} {E : hm_E} {n0 s0 F : Nat} {r : Int32} {h h' : hm_T} {x0 : Nat} {x1 : Int32} {x2 : Int32} {x3 : Int32} (C : hm_C E prog_6_method_19_code 7 "DistanceLabelsModel" 0 0 n0 s0 (hm_n h') (hm_s h') p R s m args c) (hr : meth.sig.returnType = (some .int)) (hlk : meth.locks = false) (hf : f_R_nth F x0 x1 x2 x3 h = some (r, h')) : hm_G E 7 n0 s0 (hm_n h') (hm_s h') p l e R s m args below meth c (MQ below (hm_Qc E (some (.int r)) h') args s (hm_n h' - n0) (hm_s h' - s0) (fun q => E.2.2 ≤ q)) 0 [(0, .ref x0), (1, .int x1), (2, .int x2), (3, .int x3)] [] h := by
  unfold f_R_nth at hf
  refine hm_iconst (v := (0 : Int32)) C d_R_nth_0 (by decide) ?_
  refine hm_istore (lv' := [(4, .int (0 : Int32)), (0, .ref x0), (1, .int x1), (2, .int x2), (3, .int x3)]) C d_R_nth_1 (by decide) rfl ?_
  refine hm_iconst (v := (0 : Int32)) C d_R_nth_3 (by decide) ?_
  refine hm_istore (lv' := [(5, .int (0 : Int32)), (4, .int (0 : Int32)), (0, .ref x0), (1, .int x1), (2, .int x2), (3, .int x3)]) C d_R_nth_4 (by decide) rfl ?_
  refine hm_sub (lv' := [(0, .ref x0), (1, .int x1), (2, .int x2), (3, .int x3), (4, .int (0 : Int32)), (5, .int (0 : Int32))]) [2, 3, 4, 5, 1, 0] rfl ?_
  exact w_R_nth_6L C hr hlk _ _ _ _ _ _ _ _ hf
set_option maxRecDepth 20000 in
theorem c_R_nth {E : hm_E} {l : Launch} {F : Nat} {r : Int32} {h h' : hm_T} {x0 : Nat} {x1 : Int32} {x2 : Int32} {x3 : Int32} (hf : f_R_nth F x0 x1 x2 x3 h = some (r, h')) : hm_M E l y_R_nth prog_6_method_19_code 7 (some .int) 0 0 [.ref x0, .int x1, .int x2, .int x3] h (some (.int r)) h' :=
  hm_enter (by decide +kernel) (Nat.le_of_ble_eq_true rfl) (m_f_R_nth hf) (fun p e R s m below meth c C hr hlk hin => w_f_R_nth C hr hlk hf)
def f_R_label_67 (F : Nat) (x0 : Nat) (x1 : Int32) (x2 : Int32) (x3 : Int32) (x4 : Int32) (t0 : Int32) (t1 : Int32) (t2 : Int32) (t3 : Nat) (h : hm_T) : Option (Int32 × hm_T) :=
  (hm_is 4 25 h t3).bind (fun u1 => hm_and (f_R_nth F t3 t2 t1 t0 h) (fun v2 h2 => (if 0 ≤ x3 then (if 0 ≤ v2 then (if x4 = 0 then some (v2, h2) else (hm_gr 4 25 9 h2 x0).bind (fun a6 => (hm_ild h2 a6 ((((256 : Int32) * x1) + ((16 : Int32) * x2)) + v2)).bind (fun v7 => some ((v7 - (1 : Int32)), h2)))) else some ((-2 : Int32), h2)) else (hm_gi 4 25 23 h2 x0).bind (fun v8 => some (v8, h2)))))
def f_R_label_54 (F : Nat) (x0 : Nat) (x1 : Int32) (x2 : Int32) (x3 : Int32) (x4 : Int32) (h : hm_T) : Option (Int32 × hm_T) :=
  (if 0 ≤ x3 then f_R_label_67 F x0 x1 x2 x3 x4 x3 x2 x1 x0 h else f_R_label_67 F x0 x1 x2 x3 x4 (99 : Int32) x2 x1 x0 h)
def f_R_label (F : Nat) (x0 : Nat) (x1 : Int32) (x2 : Int32) (x3 : Int32) (x4 : Int32) (h : hm_T) : Option (Int32 × hm_T) :=
  (hm_pi 4 25 0 h x0 (0 : Int32)).bind (fun h1 => (hm_gi 4 25 5 h1 x0).bind (fun v2 => (if v2 = 0 then some ((-4 : Int32), h1) else hm_and (f_R_in F x1 (0 : Int32) (1 : Int32) h1) (fun v4 h4 => (if v4 = 0 then some ((-2 : Int32), h4) else (hm_is 4 25 h4 x0).bind (fun u6 => hm_and (f_R_noNode F x0 x2 h4) (fun v7 h7 => (if v7 = 0 then (if x3 < (-1 : Int32) then some ((-2 : Int32), h7) else (if x3 < 0 then f_R_label_54 F x0 x1 x2 x3 x4 h7 else hm_and (f_R_in F x4 (0 : Int32) (1 : Int32) h7) (fun v11 h11 => (if v11 = 0 then some ((-2 : Int32), h11) else f_R_label_54 F x0 x1 x2 x3 x4 h11)))) else some ((-2 : Int32), h7)))))))))
theorem m_f_R_label_67 {F : Nat} {r : Int32} {h h' : hm_T} {x0 : Nat} {x1 : Int32} {x2 : Int32} {x3 : Int32} {x4 : Int32} {t0 : Int32} {t1 : Int32} {t2 : Int32} {t3 : Nat} (hf : f_R_label_67 F x0 x1 x2 x3 x4 t0 t1 t2 t3 h = some (r, h')) : hm_le h h' := by
  unfold f_R_label_67 at hf
  obtain ⟨u1, eu1, hf⟩ := hm_bind hf
  obtain ⟨v2, h2, eh2, hf⟩ := hm_and_of hf
  have mh2 := m_f_R_nth eh2
  by_cases z3 : 0 ≤ x3
  · have hf := hm_ifp hf z3
    by_cases z4 : 0 ≤ v2
    · have hf := hm_ifp hf z4
      by_cases z5 : x4 = 0
      · have hf := hm_ifp hf z5
        exact mh2.tr ((hm_le.ret hf))
      · have hf := hm_ifn hf z5
        obtain ⟨a6, ea6, hf⟩ := hm_bind hf
        obtain ⟨v7, ev7, hf⟩ := hm_bind hf
        exact mh2.tr ((hm_le.ret hf))
    · have hf := hm_ifn hf z4
      exact mh2.tr ((hm_le.ret hf))
  · have hf := hm_ifn hf z3
    obtain ⟨v8, ev8, hf⟩ := hm_bind hf
    exact mh2.tr ((hm_le.ret hf))
theorem m_f_R_label_54 {F : Nat} {r : Int32} {h h' : hm_T} {x0 : Nat} {x1 : Int32} {x2 : Int32} {x3 : Int32} {x4 : Int32} (hf : f_R_label_54 F x0 x1 x2 x3 x4 h = some (r, h')) : hm_le h h' := by
  unfold f_R_label_54 at hf
  by_cases z1 : 0 ≤ x3
  · have hf := hm_ifp hf z1
    exact (m_f_R_label_67 hf)
  · have hf := hm_ifn hf z1
    exact (m_f_R_label_67 hf)
theorem m_f_R_label {F : Nat} {r : Int32} {h h' : hm_T} {x0 : Nat} {x1 : Int32} {x2 : Int32} {x3 : Int32} {x4 : Int32} (hf : f_R_label F x0 x1 x2 x3 x4 h = some (r, h')) : hm_le h h' := by
  unfold f_R_label at hf
  obtain ⟨h1, eh1, hf⟩ := hm_bind hf
  have mh1 := hm_le.pi eh1
  obtain ⟨v2, ev2, hf⟩ := hm_bind hf
  by_cases z3 : v2 = 0
  · have hf := hm_ifp hf z3
    exact mh1.tr ((hm_le.ret hf))
  · have hf := hm_ifn hf z3
    obtain ⟨v4, h4, eh4, hf⟩ := hm_and_of hf
    have mh4 := m_f_R_in eh4
    by_cases z5 : v4 = 0
    · have hf := hm_ifp hf z5
      exact mh1.tr (mh4.tr ((hm_le.ret hf)))
    · have hf := hm_ifn hf z5
      obtain ⟨u6, eu6, hf⟩ := hm_bind hf
      obtain ⟨v7, h7, eh7, hf⟩ := hm_and_of hf
      have mh7 := m_f_R_noNode eh7
      by_cases z8 : v7 = 0
      · have hf := hm_ifp hf z8
        by_cases z9 : x3 < (-1 : Int32)
        · have hf := hm_ifp hf z9
          exact mh1.tr (mh4.tr (mh7.tr ((hm_le.ret hf))))
        · have hf := hm_ifn hf z9
          by_cases z10 : x3 < 0
          · have hf := hm_ifp hf z10
            exact mh1.tr (mh4.tr (mh7.tr ((m_f_R_label_54 hf))))
          · have hf := hm_ifn hf z10
            obtain ⟨v11, h11, eh11, hf⟩ := hm_and_of hf
            have mh11 := m_f_R_in eh11
            by_cases z12 : v11 = 0
            · have hf := hm_ifp hf z12
              exact mh1.tr (mh4.tr (mh7.tr (mh11.tr ((hm_le.ret hf)))))
            · have hf := hm_ifn hf z12
              exact mh1.tr (mh4.tr (mh7.tr (mh11.tr ((m_f_R_label_54 hf)))))
      · have hf := hm_ifn hf z8
        exact mh1.tr (mh4.tr (mh7.tr ((hm_le.ret hf))))
set_option maxRecDepth 20000 in
set_option maxHeartbeats 1000000 in
theorem w_f_R_label_67 {p : Program} {l : Launch} {e : Env} {R : Room} {s : State} {m : MethodId} {args : Array Value} {below : List Frame} {meth : Method} {c : Code} {E : hm_E} {n0 s0 F : Nat} {r : Int32} {h h' : hm_T} {x0 : Nat} {x1 : Int32} {x2 : Int32} {x3 : Int32} {x4 : Int32} {t0 : Int32} {t1 : Int32} {t2 : Int32} {t3 : Nat} (C : hm_C E prog_6_method_20_code 6 "DistanceLabelsModel" 2 43 n0 s0 (hm_n h') (hm_s h') p R s m args c) (hr : meth.sig.returnType = (some .int)) (hlk : meth.locks = false) (hf : f_R_label_67 F x0 x1 x2 x3 x4 t0 t1 t2 t3 h = some (r, h')) : hm_G E 6 n0 s0 (hm_n h') (hm_s h') p l e R s m args below meth c (MQ below (hm_Qc E (some (.int r)) h') args s (hm_n h' - n0) (hm_s h' - s0) (fun q => E.2.2 ≤ q)) 67 [(0, .ref x0), (1, .int x1), (2, .int x2), (3, .int x3), (4, .int x4)] [.int t0, .int t1, .int t2, .ref t3] h := by
  unfold f_R_label_67 at hf
  obtain ⟨u1, eu1, hf⟩ := hm_bind hf
  obtain ⟨v2, h2, eh2, hf⟩ := hm_and_of hf
  refine hm_callV (vs := [.int t2, .int t1, .int t0]) (st := []) (sb := [.int v2]) C (c_R_nth eh2) Y_R_nth F_4 eu1 k_191 k_192 k_190 (by decide) (by decide) rfl (Nat.le_of_ble_eq_true rfl) d_R_label_67 rfl rfl ?_
  refine hm_istore (lv' := [(5, .int v2), (0, .ref x0), (1, .int x1), (2, .int x2), (3, .int x3), (4, .int x4)]) C d_R_label_70 (by decide) rfl ?_
  refine hm_iload_n C d_R_label_72 rfl 4 rfl ?_
  refine hm_if_ge (tgt := 81) C d_R_label_73 (by decide) (fun z3 => ?_) (fun z3 => ?_)
  · have hf := hm_ifp hf z3
    refine hm_iload C d_R_label_81 0 rfl ?_
    refine hm_if_ge (tgt := 91) C d_R_label_83 (by decide) (fun z4 => ?_) (fun z4 => ?_)
    · have hf := hm_ifp hf z4
      refine hm_iload C d_R_label_91 5 rfl ?_
      refine hm_if_ne (tgt := 101) C d_R_label_93 (by decide) (fun z5 => ?_) (fun z5 => ?_)
      · have hf := hm_ifn hf z5
        refine hm_aload_n C d_R_label_101 rfl 1 rfl ?_
        obtain ⟨a6, ea6, hf⟩ := hm_bind hf
        refine hm_getR C F_4 9 (by decide) rfl k_146 d_R_label_102 ea6 ?_
        refine hm_sipush (v := (256 : Int32)) C d_R_label_105 (by decide) ?_
        refine hm_iload_n C d_R_label_108 rfl 2 rfl ?_
        refine hm_imul C d_R_label_109 ?_
        refine hm_bipush (v := (16 : Int32)) C d_R_label_110 (by decide) ?_
        refine hm_iload_n C d_R_label_112 rfl 3 rfl ?_
        refine hm_imul C d_R_label_113 ?_
        refine hm_iadd C d_R_label_114 ?_
        refine hm_iload C d_R_label_115 0 rfl ?_
        refine hm_iadd C d_R_label_117 ?_
        obtain ⟨v7, ev7, hf⟩ := hm_bind hf
        refine hm_iaload C d_R_label_118 ev7 ?_
        refine hm_iconst (v := (1 : Int32)) C d_R_label_119 (by decide) ?_
        refine hm_isub C d_R_label_120 ?_
        exact hm_iret C hr hlk d_R_label_121 hf
      · have hf := hm_ifp hf z5
        refine hm_iload C d_R_label_96 0 rfl ?_
        refine hm_goto (tgt := 121) C d_R_label_98 (by decide) ?_
        exact hm_iret C hr hlk d_R_label_121 hf
    · have hf := hm_ifn hf z4
      refine hm_bipush (v := (-2 : Int32)) C d_R_label_86 (by decide) ?_
      refine hm_goto (tgt := 121) C d_R_label_88 (by decide) ?_
      exact hm_iret C hr hlk d_R_label_121 hf
  · have hf := hm_ifn hf z3
    refine hm_aload_n C d_R_label_76 rfl 1 rfl ?_
    obtain ⟨v8, ev8, hf⟩ := hm_bind hf
    refine hm_getI C F_4 23 (by decide) rfl k_189 d_R_label_77 ev8 ?_
    exact hm_iret C hr hlk d_R_label_80 hf
set_option maxRecDepth 20000 in
set_option maxHeartbeats 1000000 in
theorem w_f_R_label_54 {p : Program} {l : Launch} {e : Env} {R : Room} {s : State} {m : MethodId} {args : Array Value} {below : List Frame} {meth : Method} {c : Code} {E : hm_E} {n0 s0 F : Nat} {r : Int32} {h h' : hm_T} {x0 : Nat} {x1 : Int32} {x2 : Int32} {x3 : Int32} {x4 : Int32} (C : hm_C E prog_6_method_20_code 6 "DistanceLabelsModel" 2 43 n0 s0 (hm_n h') (hm_s h') p R s m args c) (hr : meth.sig.returnType = (some .int)) (hlk : meth.locks = false) (hf : f_R_label_54 F x0 x1 x2 x3 x4 h = some (r, h')) : hm_G E 6 n0 s0 (hm_n h') (hm_s h') p l e R s m args below meth c (MQ below (hm_Qc E (some (.int r)) h') args s (hm_n h' - n0) (hm_s h' - s0) (fun q => E.2.2 ≤ q)) 54 [(0, .ref x0), (1, .int x1), (2, .int x2), (3, .int x3), (4, .int x4)] [] h := by
  unfold f_R_label_54 at hf
  refine hm_aload_n C d_R_label_54 rfl 0 rfl ?_
  refine hm_iload_n C d_R_label_55 rfl 1 rfl ?_
  refine hm_iload_n C d_R_label_56 rfl 2 rfl ?_
  refine hm_iload_n C d_R_label_57 rfl 3 rfl ?_
  refine hm_if_ge (tgt := 66) C d_R_label_58 (by decide) (fun z1 => ?_) (fun z1 => ?_)
  · have hf := hm_ifp hf z1
    refine hm_iload_n C d_R_label_66 rfl 3 rfl ?_
    exact w_f_R_label_67 C hr hlk hf
  · have hf := hm_ifn hf z1
    refine hm_bipush (v := (99 : Int32)) C d_R_label_61 (by decide) ?_
    refine hm_goto (tgt := 67) C d_R_label_63 (by decide) ?_
    exact w_f_R_label_67 C hr hlk hf
set_option maxRecDepth 20000 in
set_option maxHeartbeats 1000000 in
theorem w_f_R_label {p : Program} {l : Launch} {e : Env} {R : Room} {s : State} {m : MethodId} {args : Array Value} {below : List Frame} {meth : Method} {c : Code} {E : hm_E} {n0 s0 F : Nat} {r : Int32} {h h' : hm_T} {x0 : Nat} {x1 : Int32} {x2 : Int32} {x3 : Int32} {x4 : Int32} (C : hm_C E prog_6_method_20_code 6 "DistanceLabelsModel" 2 43 n0 s0 (hm_n h') (hm_s h') p R s m args c) (hr : meth.sig.returnType = (some .int)) (hlk : meth.locks = false) (hf : f_R_label F x0 x1 x2 x3 x4 h = some (r, h')) : hm_G E 6 n0 s0 (hm_n h') (hm_s h') p l e R s m args below meth c (MQ below (hm_Qc E (some (.int r)) h') args s (hm_n h' - n0) (hm_s h' - s0) (fun q => E.2.2 ≤ q)) 0 [(0, .ref x0), (1, .int x1), (2, .int x2), (3, .int x3), (4, .int x4)] [] h := by
  unfold f_R_label at hf
  refine hm_aload_n C d_R_label_0 rfl 0 rfl ?_
  refine hm_iconst (v := (0 : Int32)) C d_R_label_1 (by decide) ?_
  obtain ⟨h1, eh1, hf⟩ := hm_bind hf
  refine hm_putI C F_4 0 (by decide) rfl k_158 (Or.inl rfl) rfl d_R_label_2 eh1 ?_
  refine hm_aload_n C d_R_label_5 rfl 0 rfl ?_
  obtain ⟨v2, ev2, hf⟩ := hm_bind hf
  refine hm_getI C F_4 5 (by decide) rfl k_165 d_R_label_6 ev2 ?_
  refine hm_if_ne (tgt := 15) C d_R_label_9 (by decide) (fun z3 => ?_) (fun z3 => ?_)
  · have hf := hm_ifn hf z3
    refine hm_iload_n C d_R_label_15 rfl 1 rfl ?_
    refine hm_iconst (v := (0 : Int32)) C d_R_label_16 (by decide) ?_
    refine hm_iconst (v := (1 : Int32)) C d_R_label_17 (by decide) ?_
    obtain ⟨v4, h4, eh4, hf⟩ := hm_and_of hf
    refine hm_callS (vs := [.int x1, .int (0 : Int32), .int (1 : Int32)]) (st := []) (sb := [.int v4]) C (c_R_in eh4) Y_R_in k_161 k_160 (by decide) (by decide) rfl (Nat.le_of_ble_eq_true rfl) d_R_label_18 rfl rfl ?_
    refine hm_if_eq (tgt := 51) C d_R_label_21 (by decide) (fun z5 => ?_) (fun z5 => ?_)
    · have hf := hm_ifp hf z5
      refine hm_bipush (v := (-2 : Int32)) C d_R_label_51 (by decide) ?_
      exact hm_iret C hr hlk d_R_label_53 hf
    · have hf := hm_ifn hf z5
      refine hm_aload_n C d_R_label_24 rfl 0 rfl ?_
      refine hm_iload_n C d_R_label_25 rfl 2 rfl ?_
      obtain ⟨u6, eu6, hf⟩ := hm_bind hf
      obtain ⟨v7, h7, eh7, hf⟩ := hm_and_of hf
      refine hm_callV (vs := [.int x2]) (st := []) (sb := [.int v7]) C (c_R_noNode eh7) Y_R_noNode F_4 eu6 k_163 k_164 k_162 (by decide) (by decide) rfl (Nat.le_of_ble_eq_true rfl) d_R_label_26 rfl rfl ?_
      refine hm_if_ne (tgt := 51) C d_R_label_29 (by decide) (fun z8 => ?_) (fun z8 => ?_)
      · have hf := hm_ifn hf z8
        refine hm_bipush (v := (-2 : Int32)) C d_R_label_51 (by decide) ?_
        exact hm_iret C hr hlk d_R_label_53 hf
      · have hf := hm_ifp hf z8
        refine hm_iload_n C d_R_label_32 rfl 3 rfl ?_
        refine hm_iconst (v := (-1 : Int32)) C d_R_label_33 (by decide) ?_
        refine hm_icmp_lt (tgt := 51) C d_R_label_34 (by decide) (fun z9 => ?_) (fun z9 => ?_)
        · have hf := hm_ifp hf z9
          refine hm_bipush (v := (-2 : Int32)) C d_R_label_51 (by decide) ?_
          exact hm_iret C hr hlk d_R_label_53 hf
        · have hf := hm_ifn hf z9
          refine hm_iload_n C d_R_label_37 rfl 3 rfl ?_
          refine hm_if_lt (tgt := 54) C d_R_label_38 (by decide) (fun z10 => ?_) (fun z10 => ?_)
          · have hf := hm_ifp hf z10
            exact w_f_R_label_54 C hr hlk hf
          · have hf := hm_ifn hf z10
            refine hm_iload C d_R_label_41 4 rfl ?_
            refine hm_iconst (v := (0 : Int32)) C d_R_label_43 (by decide) ?_
            refine hm_iconst (v := (1 : Int32)) C d_R_label_44 (by decide) ?_
            obtain ⟨v11, h11, eh11, hf⟩ := hm_and_of hf
            refine hm_callS (vs := [.int x4, .int (0 : Int32), .int (1 : Int32)]) (st := []) (sb := [.int v11]) C (c_R_in eh11) Y_R_in k_161 k_160 (by decide) (by decide) rfl (Nat.le_of_ble_eq_true rfl) d_R_label_45 rfl rfl ?_
            refine hm_if_ne (tgt := 54) C d_R_label_48 (by decide) (fun z12 => ?_) (fun z12 => ?_)
            · have hf := hm_ifn hf z12
              exact w_f_R_label_54 C hr hlk hf
            · have hf := hm_ifp hf z12
              refine hm_bipush (v := (-2 : Int32)) C d_R_label_51 (by decide) ?_
              exact hm_iret C hr hlk d_R_label_53 hf
  · have hf := hm_ifp hf z3
    refine hm_bipush (v := (-4 : Int32)) C d_R_label_12 (by decide) ?_
    exact hm_iret C hr hlk d_R_label_14 hf
set_option maxRecDepth 20000 in
theorem c_R_label {E : hm_E} {l : Launch} {F : Nat} {r : Int32} {h h' : hm_T} {x0 : Nat} {x1 : Int32} {x2 : Int32} {x3 : Int32} {x4 : Int32} (hf : f_R_label F x0 x1 x2 x3 x4 h = some (r, h')) : hm_M E l y_R_label prog_6_method_20_code 6 (some .int) 2 43 [.ref x0, .int x1, .int x2, .int x3, .int x4] h (some (.int r)) h' :=
  hm_enter (by decide +kernel) (Nat.le_of_ble_eq_true rfl) (m_f_R_label hf) (fun p e R s m below meth c C hr hlk hin => w_f_R_label C hr hlk hf)
def f_R_meet_99 (F : Nat) (k11 : Nat → Int32 → Int32 → Int32 → Int32 → hm_T → Option (Int32 × hm_T)) (x0 : Nat) (x1 : Int32) (x2 : Int32) (x3 : Int32) (x4 : Int32) (h : hm_T) : Option (Int32 × hm_T) :=
  k11 x0 x1 x2 x3 (x4 + (1 : Int32)) h
def g_R_meet_11 (F : Nat) (k11 : Nat → Int32 → Int32 → Int32 → Int32 → hm_T → Option (Int32 × hm_T)) (x0 : Nat) (x1 : Int32) (x2 : Int32) (x3 : Int32) (x4 : Int32) (h : hm_T) : Option (Int32 × hm_T) :=
  (hm_gi 4 25 1 h x0).bind (fun v1 => (if v1 ≤ x4 then some (x3, h) else (hm_gr 4 25 3 h x0).bind (fun a3 => (hm_ild h a3 x4).bind (fun v4 => (hm_gr 4 25 9 h x0).bind (fun a5 => (hm_ild h a5 (((16 : Int32) * x1) + v4)).bind (fun v6 => (hm_gr 4 25 9 h x0).bind (fun a7 => (hm_ild h a7 (((256 : Int32) + ((16 : Int32) * x2)) + v4)).bind (fun v8 => (if v6 ≤ 0 then f_R_meet_99 F k11 x0 x1 x2 x3 x4 h else (if v8 ≤ 0 then f_R_meet_99 F k11 x0 x1 x2 x3 x4 h else (hm_gi 4 25 24 h x0).bind (fun v11 => (if v11 ≤ ((v6 + v8) - (2 : Int32)) then f_R_meet_99 F k11 x0 x1 x2 x3 x4 h else (hm_pi 4 25 24 h x0 ((v6 + v8) - (2 : Int32))).bind (fun h13 => f_R_meet_99 F k11 x0 x1 x2 v4 x4 h13)))))))))))))
def f_R_meet_11 (F : Nat) : Nat → Nat → Int32 → Int32 → Int32 → Int32 → hm_T → Option (Int32 × hm_T)
  | 0 => fun _ _ _ _ _ _ => none
  | n + 1 => g_R_meet_11 F (f_R_meet_11 F n)
def f_R_meet (F : Nat) (x0 : Nat) (x1 : Int32) (x2 : Int32) (h : hm_T) : Option (Int32 × hm_T) :=
  (hm_pi 4 25 24 h x0 (1000000 : Int32)).bind (fun h1 => f_R_meet_11 F F x0 x1 x2 (-1 : Int32) (0 : Int32) h1)
theorem m_f_R_meet_99 {F : Nat} {r : Int32} {h h' : hm_T} {x0 : Nat} {x1 : Int32} {x2 : Int32} {x3 : Int32} {x4 : Int32} {k11 : Nat → Int32 → Int32 → Int32 → Int32 → hm_T → Option (Int32 × hm_T)} (hk11 : ∀ (y0 : Nat) (y1 : Int32) (y2 : Int32) (y3 : Int32) (y4 : Int32) (g : hm_T), k11 y0 y1 y2 y3 y4 g = some (r, h') → hm_le g h') (hf : f_R_meet_99 F k11 x0 x1 x2 x3 x4 h = some (r, h')) : hm_le h h' := by
  unfold f_R_meet_99 at hf
  exact (hk11 _ _ _ _ _ _ hf)
theorem m_g_R_meet_11 {F : Nat} {r : Int32} {h h' : hm_T} {x0 : Nat} {x1 : Int32} {x2 : Int32} {x3 : Int32} {x4 : Int32} {k11 : Nat → Int32 → Int32 → Int32 → Int32 → hm_T → Option (Int32 × hm_T)} (hk11 : ∀ (y0 : Nat) (y1 : Int32) (y2 : Int32) (y3 : Int32) (y4 : Int32) (g : hm_T), k11 y0 y1 y2 y3 y4 g = some (r, h') → hm_le g h') (hf : g_R_meet_11 F k11 x0 x1 x2 x3 x4 h = some (r, h')) : hm_le h h' := by
  unfold g_R_meet_11 at hf
  obtain ⟨v1, ev1, hf⟩ := hm_bind hf
  by_cases z2 : v1 ≤ x4
  · have hf := hm_ifp hf z2
    exact (hm_le.ret hf)
  · have hf := hm_ifn hf z2
    obtain ⟨a3, ea3, hf⟩ := hm_bind hf
    obtain ⟨v4, ev4, hf⟩ := hm_bind hf
    obtain ⟨a5, ea5, hf⟩ := hm_bind hf
    obtain ⟨v6, ev6, hf⟩ := hm_bind hf
    obtain ⟨a7, ea7, hf⟩ := hm_bind hf
    obtain ⟨v8, ev8, hf⟩ := hm_bind hf
    by_cases z9 : v6 ≤ 0
    · have hf := hm_ifp hf z9
      exact (m_f_R_meet_99 hk11 hf)
    · have hf := hm_ifn hf z9
      by_cases z10 : v8 ≤ 0
      · have hf := hm_ifp hf z10
        exact (m_f_R_meet_99 hk11 hf)
      · have hf := hm_ifn hf z10
        obtain ⟨v11, ev11, hf⟩ := hm_bind hf
        by_cases z12 : v11 ≤ ((v6 + v8) - (2 : Int32))
        · have hf := hm_ifp hf z12
          exact (m_f_R_meet_99 hk11 hf)
        · have hf := hm_ifn hf z12
          obtain ⟨h13, eh13, hf⟩ := hm_bind hf
          have mh13 := hm_le.pi eh13
          exact mh13.tr ((m_f_R_meet_99 hk11 hf))
theorem m_R_meet_11L {F : Nat} {r : Int32} {h' : hm_T} : ∀ (N : Nat) (x0 : Nat) (x1 : Int32) (x2 : Int32) (x3 : Int32) (x4 : Int32) (h : hm_T), f_R_meet_11 F N x0 x1 x2 x3 x4 h = some (r, h') → hm_le h h' := by
  intro N
  induction N with
  | zero => intro _ _ _ _ _ _ hf; cases hf
  | succ n ih => intro x0 x1 x2 x3 x4 h hf; exact m_g_R_meet_11 ih hf
theorem m_f_R_meet {F : Nat} {r : Int32} {h h' : hm_T} {x0 : Nat} {x1 : Int32} {x2 : Int32} (hf : f_R_meet F x0 x1 x2 h = some (r, h')) : hm_le h h' := by
  unfold f_R_meet at hf
  obtain ⟨h1, eh1, hf⟩ := hm_bind hf
  have mh1 := hm_le.pi eh1
  exact mh1.tr ((m_R_meet_11L _ _ _ _ _ _ _ hf))
set_option maxRecDepth 20000 in
set_option maxHeartbeats 1000000 in
theorem w_f_R_meet_99 {p : Program} {l : Launch} {e : Env} {R : Room} {s : State} {m : MethodId} {args : Array Value} {below : List Frame} {meth : Method} {c : Code} {E : hm_E} {n0 s0 F : Nat} {r : Int32} {h h' : hm_T} {x0 : Nat} {x1 : Int32} {x2 : Int32} {x3 : Int32} {x4 : Int32} {k11 : Nat → Int32 → Int32 → Int32 → Int32 → hm_T → Option (Int32 × hm_T)} (C : hm_C E prog_6_method_21_code 8 "DistanceLabelsModel" 0 0 n0 s0 (hm_n h') (hm_s h') p R s m args c) (hr : meth.sig.returnType = (some .int)) (hlk : meth.locks = false) (hk11 : ∀ (y0 : Nat) (y1 : Int32) (y2 : Int32) (y3 : Int32) (y4 : Int32) (g : hm_T), k11 y0 y1 y2 y3 y4 g = some (r, h') → hm_G E 8 n0 s0 (hm_n h') (hm_s h') p l e R s m args below meth c (MQ below (hm_Qc E (some (.int r)) h') args s (hm_n h' - n0) (hm_s h' - s0) (fun q => E.2.2 ≤ q)) 11 [(0, .ref y0), (1, .int y1), (2, .int y2), (3, .int y3), (4, .int y4)] [] g) (hf : f_R_meet_99 F k11 x0 x1 x2 x3 x4 h = some (r, h')) : hm_G E 8 n0 s0 (hm_n h') (hm_s h') p l e R s m args below meth c (MQ below (hm_Qc E (some (.int r)) h') args s (hm_n h' - n0) (hm_s h' - s0) (fun q => E.2.2 ≤ q)) 99 [(0, .ref x0), (1, .int x1), (2, .int x2), (3, .int x3), (4, .int x4)] [] h := by
  unfold f_R_meet_99 at hf
  refine hm_iinc (v := (x4 + (1 : Int32))) (lv' := [(4, .int (x4 + (1 : Int32))), (0, .ref x0), (1, .int x1), (2, .int x2), (3, .int x3)]) C d_R_meet_99 4 rfl rfl (by decide) rfl ?_
  refine hm_goto (tgt := 11) C d_R_meet_102 (by decide) ?_
  refine hm_sub (lv' := [(0, .ref x0), (1, .int x1), (2, .int x2), (3, .int x3), (4, .int (x4 + (1 : Int32)))]) [1, 2, 3, 4, 0] rfl ?_
  exact hk11 _ _ _ _ _ _ hf
set_option maxRecDepth 20000 in
set_option maxHeartbeats 1000000 in
theorem w_g_R_meet_11 {p : Program} {l : Launch} {e : Env} {R : Room} {s : State} {m : MethodId} {args : Array Value} {below : List Frame} {meth : Method} {c : Code} {E : hm_E} {n0 s0 F : Nat} {r : Int32} {h h' : hm_T} {x0 : Nat} {x1 : Int32} {x2 : Int32} {x3 : Int32} {x4 : Int32} {k11 : Nat → Int32 → Int32 → Int32 → Int32 → hm_T → Option (Int32 × hm_T)} (C : hm_C E prog_6_method_21_code 8 "DistanceLabelsModel" 0 0 n0 s0 (hm_n h') (hm_s h') p R s m args c) (hr : meth.sig.returnType = (some .int)) (hlk : meth.locks = false) (hk11 : ∀ (y0 : Nat) (y1 : Int32) (y2 : Int32) (y3 : Int32) (y4 : Int32) (g : hm_T), k11 y0 y1 y2 y3 y4 g = some (r, h') → hm_G E 8 n0 s0 (hm_n h') (hm_s h') p l e R s m args below meth c (MQ below (hm_Qc E (some (.int r)) h') args s (hm_n h' - n0) (hm_s h' - s0) (fun q => E.2.2 ≤ q)) 11 [(0, .ref y0), (1, .int y1), (2, .int y2), (3, .int y3), (4, .int y4)] [] g) (hf : g_R_meet_11 F k11 x0 x1 x2 x3 x4 h = some (r, h')) : hm_G E 8 n0 s0 (hm_n h') (hm_s h') p l e R s m args below meth c (MQ below (hm_Qc E (some (.int r)) h') args s (hm_n h' - n0) (hm_s h' - s0) (fun q => E.2.2 ≤ q)) 11 [(0, .ref x0), (1, .int x1), (2, .int x2), (3, .int x3), (4, .int x4)] [] h := by
  unfold g_R_meet_11 at hf
  refine hm_iload C d_R_meet_11 4 rfl ?_
  refine hm_aload_n C d_R_meet_13 rfl 0 rfl ?_
  obtain ⟨v1, ev1, hf⟩ := hm_bind hf
  refine hm_getI C F_4 1 (by decide) rfl k_159 d_R_meet_14 ev1 ?_
  refine hm_icmp_ge (tgt := 105) C d_R_meet_17 (by decide) (fun z2 => ?_) (fun z2 => ?_)
  · have hf := hm_ifp hf z2
    refine hm_iload_n C d_R_meet_105 rfl 3 rfl ?_
    exact hm_iret C hr hlk d_R_meet_106 hf
  · have hf := hm_ifn hf z2
    refine hm_aload_n C d_R_meet_20 rfl 0 rfl ?_
    obtain ⟨a3, ea3, hf⟩ := hm_bind hf
    refine hm_getR C F_4 3 (by decide) rfl k_141 d_R_meet_21 ea3 ?_
    refine hm_iload C d_R_meet_24 4 rfl ?_
    obtain ⟨v4, ev4, hf⟩ := hm_bind hf
    refine hm_iaload C d_R_meet_26 ev4 ?_
    refine hm_istore (lv' := [(5, .int v4), (0, .ref x0), (1, .int x1), (2, .int x2), (3, .int x3), (4, .int x4)]) C d_R_meet_27 (by decide) rfl ?_
    refine hm_aload_n C d_R_meet_29 rfl 1 rfl ?_
    obtain ⟨a5, ea5, hf⟩ := hm_bind hf
    refine hm_getR C F_4 9 (by decide) rfl k_146 d_R_meet_30 ea5 ?_
    refine hm_bipush (v := (16 : Int32)) C d_R_meet_33 (by decide) ?_
    refine hm_iload_n C d_R_meet_35 rfl 2 rfl ?_
    refine hm_imul C d_R_meet_36 ?_
    refine hm_iload C d_R_meet_37 0 rfl ?_
    refine hm_iadd C d_R_meet_39 ?_
    obtain ⟨v6, ev6, hf⟩ := hm_bind hf
    refine hm_iaload C d_R_meet_40 ev6 ?_
    refine hm_istore (lv' := [(6, .int v6), (5, .int v4), (0, .ref x0), (1, .int x1), (2, .int x2), (3, .int x3), (4, .int x4)]) C d_R_meet_41 (by decide) rfl ?_
    refine hm_aload_n C d_R_meet_43 rfl 2 rfl ?_
    obtain ⟨a7, ea7, hf⟩ := hm_bind hf
    refine hm_getR C F_4 9 (by decide) rfl k_146 d_R_meet_44 ea7 ?_
    refine hm_sipush (v := (256 : Int32)) C d_R_meet_47 (by decide) ?_
    refine hm_bipush (v := (16 : Int32)) C d_R_meet_50 (by decide) ?_
    refine hm_iload_n C d_R_meet_52 rfl 4 rfl ?_
    refine hm_imul C d_R_meet_53 ?_
    refine hm_iadd C d_R_meet_54 ?_
    refine hm_iload C d_R_meet_55 1 rfl ?_
    refine hm_iadd C d_R_meet_57 ?_
    obtain ⟨v8, ev8, hf⟩ := hm_bind hf
    refine hm_iaload C d_R_meet_58 ev8 ?_
    refine hm_istore (lv' := [(7, .int v8), (6, .int v6), (5, .int v4), (0, .ref x0), (1, .int x1), (2, .int x2), (3, .int x3), (4, .int x4)]) C d_R_meet_59 (by decide) rfl ?_
    refine hm_iload C d_R_meet_61 1 rfl ?_
    refine hm_if_le (tgt := 99) C d_R_meet_63 (by decide) (fun z9 => ?_) (fun z9 => ?_)
    · have hf := hm_ifp hf z9
      refine hm_sub (lv' := [(0, .ref x0), (1, .int x1), (2, .int x2), (3, .int x3), (4, .int x4)]) [3, 4, 5, 6, 7] rfl ?_
      exact w_f_R_meet_99 C hr hlk hk11 hf
    · have hf := hm_ifn hf z9
      refine hm_iload C d_R_meet_66 0 rfl ?_
      refine hm_if_le (tgt := 99) C d_R_meet_68 (by decide) (fun z10 => ?_) (fun z10 => ?_)
      · have hf := hm_ifp hf z10
        refine hm_sub (lv' := [(0, .ref x0), (1, .int x1), (2, .int x2), (3, .int x3), (4, .int x4)]) [3, 4, 5, 6, 7] rfl ?_
        exact w_f_R_meet_99 C hr hlk hk11 hf
      · have hf := hm_ifn hf z10
        refine hm_iload C d_R_meet_71 1 rfl ?_
        refine hm_iload C d_R_meet_73 0 rfl ?_
        refine hm_iadd C d_R_meet_75 ?_
        refine hm_iconst (v := (2 : Int32)) C d_R_meet_76 (by decide) ?_
        refine hm_isub C d_R_meet_77 ?_
        refine hm_aload_n C d_R_meet_78 rfl 3 rfl ?_
        obtain ⟨v11, ev11, hf⟩ := hm_bind hf
        refine hm_getI C F_4 24 (by decide) rfl k_193 d_R_meet_79 ev11 ?_
        refine hm_icmp_ge (tgt := 99) C d_R_meet_82 (by decide) (fun z12 => ?_) (fun z12 => ?_)
        · have hf := hm_ifp hf z12
          refine hm_sub (lv' := [(0, .ref x0), (1, .int x1), (2, .int x2), (3, .int x3), (4, .int x4)]) [3, 4, 5, 6, 7] rfl ?_
          exact w_f_R_meet_99 C hr hlk hk11 hf
        · have hf := hm_ifn hf z12
          refine hm_aload_n C d_R_meet_85 rfl 3 rfl ?_
          refine hm_iload C d_R_meet_86 1 rfl ?_
          refine hm_iload C d_R_meet_88 0 rfl ?_
          refine hm_iadd C d_R_meet_90 ?_
          refine hm_iconst (v := (2 : Int32)) C d_R_meet_91 (by decide) ?_
          refine hm_isub C d_R_meet_92 ?_
          obtain ⟨h13, eh13, hf⟩ := hm_bind hf
          refine hm_putI C F_4 24 (by decide) rfl k_193 (Or.inl rfl) rfl d_R_meet_93 eh13 ?_
          refine hm_iload C d_R_meet_96 2 rfl ?_
          refine hm_istore_n (lv' := [(3, .int v4), (7, .int v8), (6, .int v6), (5, .int v4), (0, .ref x0), (1, .int x1), (2, .int x2), (4, .int x4)]) C d_R_meet_98 rfl (by decide) rfl ?_
          refine hm_sub (lv' := [(0, .ref x0), (1, .int x1), (2, .int x2), (3, .int v4), (4, .int x4)]) [4, 5, 6, 0, 7] rfl ?_
          exact w_f_R_meet_99 C hr hlk hk11 hf
theorem w_R_meet_11L {p : Program} {l : Launch} {e : Env} {R : Room} {s : State} {m : MethodId} {args : Array Value} {below : List Frame} {meth : Method} {c : Code} {E : hm_E} {n0 s0 F : Nat} {r : Int32} {h' : hm_T} (C : hm_C E prog_6_method_21_code 8 "DistanceLabelsModel" 0 0 n0 s0 (hm_n h') (hm_s h') p R s m args c) (hr : meth.sig.returnType = (some .int)) (hlk : meth.locks = false) : ∀ (N : Nat) (x0 : Nat) (x1 : Int32) (x2 : Int32) (x3 : Int32) (x4 : Int32) (h : hm_T), f_R_meet_11 F N x0 x1 x2 x3 x4 h = some (r, h') → hm_G E 8 n0 s0 (hm_n h') (hm_s h') p l e R s m args below meth c (MQ below (hm_Qc E (some (.int r)) h') args s (hm_n h' - n0) (hm_s h' - s0) (fun q => E.2.2 ≤ q)) 11 [(0, .ref x0), (1, .int x1), (2, .int x2), (3, .int x3), (4, .int x4)] [] h := by
  intro N
  induction N with
  | zero => intro _ _ _ _ _ _ hf; cases hf
  | succ n ih => intro x0 x1 x2 x3 x4 h hf; exact w_g_R_meet_11 C hr hlk ih hf
set_option maxRecDepth 20000 in
set_option maxHeartbeats 1000000 in
theorem w_f_R_meet {p : Program} {l : Launch} {e : Env} {R : Room} {s : State} {m : MethodId} {args : Array Value} {below : List Frame} {meth : Method} {c : Code} {E : hm_E} {n0 s0 F : Nat} {r : Int32} {h h' : hm_T} {x0 : Nat} {x1 : Int32} {x2 : Int32} (C : hm_C E prog_6_method_21_code 8 "DistanceLabelsModel" 0 0 n0 s0 (hm_n h') (hm_s h') p R s m args c) (hr : meth.sig.returnType = (some .int)) (hlk : meth.locks = false) (hf : f_R_meet F x0 x1 x2 h = some (r, h')) : hm_G E 8 n0 s0 (hm_n h') (hm_s h') p l e R s m args below meth c (MQ below (hm_Qc E (some (.int r)) h') args s (hm_n h' - n0) (hm_s h' - s0) (fun q => E.2.2 ≤ q)) 0 [(0, .ref x0), (1, .int x1), (2, .int x2)] [] h := by
  unfold f_R_meet at hf
  refine hm_iconst (v := (-1 : Int32)) C d_R_meet_0 (by decide) ?_
  refine hm_istore_n (lv' := [(3, .int (-1 : Int32)), (0, .ref x0), (1, .int x1), (2, .int x2)]) C d_R_meet_1 rfl (by decide) rfl ?_
  refine hm_aload_n C d_R_meet_2 rfl 1 rfl ?_
  refine hm_ldc (v := (1000000 : Int32)) C k_139 d_R_meet_3 ?_
  obtain ⟨h1, eh1, hf⟩ := hm_bind hf
  refine hm_putI C F_4 24 (by decide) rfl k_193 (Or.inl rfl) rfl d_R_meet_5 eh1 ?_
  refine hm_iconst (v := (0 : Int32)) C d_R_meet_8 (by decide) ?_
  refine hm_istore (lv' := [(4, .int (0 : Int32)), (3, .int (-1 : Int32)), (0, .ref x0), (1, .int x1), (2, .int x2)]) C d_R_meet_9 (by decide) rfl ?_
  refine hm_sub (lv' := [(0, .ref x0), (1, .int x1), (2, .int x2), (3, .int (-1 : Int32)), (4, .int (0 : Int32))]) [2, 3, 4, 1, 0] rfl ?_
  exact w_R_meet_11L C hr hlk _ _ _ _ _ _ _ hf
set_option maxRecDepth 20000 in
theorem c_R_meet {E : hm_E} {l : Launch} {F : Nat} {r : Int32} {h h' : hm_T} {x0 : Nat} {x1 : Int32} {x2 : Int32} (hf : f_R_meet F x0 x1 x2 h = some (r, h')) : hm_M E l y_R_meet prog_6_method_21_code 8 (some .int) 0 0 [.ref x0, .int x1, .int x2] h (some (.int r)) h' :=
  hm_enter (by decide +kernel) (Nat.le_of_ble_eq_true rfl) (m_f_R_meet hf) (fun p e R s m below meth c C hr hlk hin => w_f_R_meet C hr hlk hf)
def f_R_ask (F : Nat) (x0 : Nat) (x1 : Int32) (x2 : Int32) (h : hm_T) : Option (Int32 × hm_T) :=
  (hm_pi 4 25 0 h x0 (0 : Int32)).bind (fun h1 => (hm_gi 4 25 5 h1 x0).bind (fun v2 => (if v2 = 0 then some ((-4 : Int32), h1) else (hm_is 4 25 h1 x0).bind (fun u4 => hm_and (f_R_noPair F x0 x1 x2 h1) (fun v5 h5 => (if v5 = 0 then (hm_is 4 25 h5 x0).bind (fun u7 => hm_and (f_R_meet F x0 x1 x2 h5) (fun v8 h8 => (if 0 ≤ v8 then (hm_gi 4 25 24 h8 x0).bind (fun v10 => some (v10, h8)) else some ((-1 : Int32), h8)))) else some ((-2 : Int32), h5)))))))
theorem m_f_R_ask {F : Nat} {r : Int32} {h h' : hm_T} {x0 : Nat} {x1 : Int32} {x2 : Int32} (hf : f_R_ask F x0 x1 x2 h = some (r, h')) : hm_le h h' := by
  unfold f_R_ask at hf
  obtain ⟨h1, eh1, hf⟩ := hm_bind hf
  have mh1 := hm_le.pi eh1
  obtain ⟨v2, ev2, hf⟩ := hm_bind hf
  by_cases z3 : v2 = 0
  · have hf := hm_ifp hf z3
    exact mh1.tr ((hm_le.ret hf))
  · have hf := hm_ifn hf z3
    obtain ⟨u4, eu4, hf⟩ := hm_bind hf
    obtain ⟨v5, h5, eh5, hf⟩ := hm_and_of hf
    have mh5 := m_f_R_noPair eh5
    by_cases z6 : v5 = 0
    · have hf := hm_ifp hf z6
      obtain ⟨u7, eu7, hf⟩ := hm_bind hf
      obtain ⟨v8, h8, eh8, hf⟩ := hm_and_of hf
      have mh8 := m_f_R_meet eh8
      by_cases z9 : 0 ≤ v8
      · have hf := hm_ifp hf z9
        obtain ⟨v10, ev10, hf⟩ := hm_bind hf
        exact mh1.tr (mh5.tr (mh8.tr ((hm_le.ret hf))))
      · have hf := hm_ifn hf z9
        exact mh1.tr (mh5.tr (mh8.tr ((hm_le.ret hf))))
    · have hf := hm_ifn hf z6
      exact mh1.tr (mh5.tr ((hm_le.ret hf)))
set_option maxRecDepth 20000 in
set_option maxHeartbeats 1000000 in
theorem w_f_R_ask {p : Program} {l : Launch} {e : Env} {R : Room} {s : State} {m : MethodId} {args : Array Value} {below : List Frame} {meth : Method} {c : Code} {E : hm_E} {n0 s0 F : Nat} {r : Int32} {h h' : hm_T} {x0 : Nat} {x1 : Int32} {x2 : Int32} (C : hm_C E prog_6_method_22_code 3 "DistanceLabelsModel" 3 65 n0 s0 (hm_n h') (hm_s h') p R s m args c) (hr : meth.sig.returnType = (some .int)) (hlk : meth.locks = false) (hf : f_R_ask F x0 x1 x2 h = some (r, h')) : hm_G E 3 n0 s0 (hm_n h') (hm_s h') p l e R s m args below meth c (MQ below (hm_Qc E (some (.int r)) h') args s (hm_n h' - n0) (hm_s h' - s0) (fun q => E.2.2 ≤ q)) 0 [(0, .ref x0), (1, .int x1), (2, .int x2)] [] h := by
  unfold f_R_ask at hf
  refine hm_aload_n C d_R_ask_0 rfl 0 rfl ?_
  refine hm_iconst (v := (0 : Int32)) C d_R_ask_1 (by decide) ?_
  obtain ⟨h1, eh1, hf⟩ := hm_bind hf
  refine hm_putI C F_4 0 (by decide) rfl k_158 (Or.inl rfl) rfl d_R_ask_2 eh1 ?_
  refine hm_aload_n C d_R_ask_5 rfl 0 rfl ?_
  obtain ⟨v2, ev2, hf⟩ := hm_bind hf
  refine hm_getI C F_4 5 (by decide) rfl k_165 d_R_ask_6 ev2 ?_
  refine hm_if_ne (tgt := 15) C d_R_ask_9 (by decide) (fun z3 => ?_) (fun z3 => ?_)
  · have hf := hm_ifn hf z3
    refine hm_aload_n C d_R_ask_15 rfl 0 rfl ?_
    refine hm_iload_n C d_R_ask_16 rfl 1 rfl ?_
    refine hm_iload_n C d_R_ask_17 rfl 2 rfl ?_
    obtain ⟨u4, eu4, hf⟩ := hm_bind hf
    obtain ⟨v5, h5, eh5, hf⟩ := hm_and_of hf
    refine hm_callV (vs := [.int x1, .int x2]) (st := []) (sb := [.int v5]) C (c_R_noPair eh5) Y_R_noPair F_4 eu4 k_167 k_168 k_166 (by decide) (by decide) rfl (Nat.le_of_ble_eq_true rfl) d_R_ask_18 rfl rfl ?_
    refine hm_if_eq (tgt := 27) C d_R_ask_21 (by decide) (fun z6 => ?_) (fun z6 => ?_)
    · have hf := hm_ifp hf z6
      refine hm_aload_n C d_R_ask_27 rfl 0 rfl ?_
      refine hm_iload_n C d_R_ask_28 rfl 1 rfl ?_
      refine hm_iload_n C d_R_ask_29 rfl 2 rfl ?_
      obtain ⟨u7, eu7, hf⟩ := hm_bind hf
      obtain ⟨v8, h8, eh8, hf⟩ := hm_and_of hf
      refine hm_callV (vs := [.int x1, .int x2]) (st := []) (sb := [.int v8]) C (c_R_meet eh8) Y_R_meet F_4 eu7 k_195 k_196 k_194 (by decide) (by decide) rfl (Nat.le_of_ble_eq_true rfl) d_R_ask_30 rfl rfl ?_
      refine hm_if_ge (tgt := 40) C d_R_ask_33 (by decide) (fun z9 => ?_) (fun z9 => ?_)
      · have hf := hm_ifp hf z9
        refine hm_aload_n C d_R_ask_40 rfl 0 rfl ?_
        obtain ⟨v10, ev10, hf⟩ := hm_bind hf
        refine hm_getI C F_4 24 (by decide) rfl k_193 d_R_ask_41 ev10 ?_
        exact hm_iret C hr hlk d_R_ask_44 hf
      · have hf := hm_ifn hf z9
        refine hm_iconst (v := (-1 : Int32)) C d_R_ask_36 (by decide) ?_
        refine hm_goto (tgt := 44) C d_R_ask_37 (by decide) ?_
        exact hm_iret C hr hlk d_R_ask_44 hf
    · have hf := hm_ifn hf z6
      refine hm_bipush (v := (-2 : Int32)) C d_R_ask_24 (by decide) ?_
      exact hm_iret C hr hlk d_R_ask_26 hf
  · have hf := hm_ifp hf z3
    refine hm_bipush (v := (-4 : Int32)) C d_R_ask_12 (by decide) ?_
    exact hm_iret C hr hlk d_R_ask_14 hf
set_option maxRecDepth 20000 in
theorem c_R_ask {E : hm_E} {l : Launch} {F : Nat} {r : Int32} {h h' : hm_T} {x0 : Nat} {x1 : Int32} {x2 : Int32} (hf : f_R_ask F x0 x1 x2 h = some (r, h')) : hm_M E l y_R_ask prog_6_method_22_code 3 (some .int) 3 65 [.ref x0, .int x1, .int x2] h (some (.int r)) h' :=
  hm_enter (by decide +kernel) (Nat.le_of_ble_eq_true rfl) (m_f_R_ask hf) (fun p e R s m below meth c C hr hlk hin => w_f_R_ask C hr hlk hf)
def f_R_meeting (F : Nat) (x0 : Nat) (x1 : Int32) (x2 : Int32) (h : hm_T) : Option (Int32 × hm_T) :=
  (hm_pi 4 25 0 h x0 (0 : Int32)).bind (fun h1 => (hm_gi 4 25 5 h1 x0).bind (fun v2 => (if v2 = 0 then some ((-4 : Int32), h1) else (hm_is 4 25 h1 x0).bind (fun u4 => hm_and (f_R_noPair F x0 x1 x2 h1) (fun v5 h5 => (if v5 = 0 then (hm_is 4 25 h5 x0).bind (fun u7 => hm_and (f_R_meet F x0 x1 x2 h5) (fun v8 h8 => some (v8, h8))) else some ((-2 : Int32), h5)))))))
theorem m_f_R_meeting {F : Nat} {r : Int32} {h h' : hm_T} {x0 : Nat} {x1 : Int32} {x2 : Int32} (hf : f_R_meeting F x0 x1 x2 h = some (r, h')) : hm_le h h' := by
  unfold f_R_meeting at hf
  obtain ⟨h1, eh1, hf⟩ := hm_bind hf
  have mh1 := hm_le.pi eh1
  obtain ⟨v2, ev2, hf⟩ := hm_bind hf
  by_cases z3 : v2 = 0
  · have hf := hm_ifp hf z3
    exact mh1.tr ((hm_le.ret hf))
  · have hf := hm_ifn hf z3
    obtain ⟨u4, eu4, hf⟩ := hm_bind hf
    obtain ⟨v5, h5, eh5, hf⟩ := hm_and_of hf
    have mh5 := m_f_R_noPair eh5
    by_cases z6 : v5 = 0
    · have hf := hm_ifp hf z6
      obtain ⟨u7, eu7, hf⟩ := hm_bind hf
      obtain ⟨v8, h8, eh8, hf⟩ := hm_and_of hf
      have mh8 := m_f_R_meet eh8
      exact mh1.tr (mh5.tr (mh8.tr ((hm_le.ret hf))))
    · have hf := hm_ifn hf z6
      exact mh1.tr (mh5.tr ((hm_le.ret hf)))
set_option maxRecDepth 20000 in
set_option maxHeartbeats 1000000 in
theorem w_f_R_meeting {p : Program} {l : Launch} {e : Env} {R : Room} {s : State} {m : MethodId} {args : Array Value} {below : List Frame} {meth : Method} {c : Code} {E : hm_E} {n0 s0 F : Nat} {r : Int32} {h h' : hm_T} {x0 : Nat} {x1 : Int32} {x2 : Int32} (C : hm_C E prog_6_method_23_code 3 "DistanceLabelsModel" 3 65 n0 s0 (hm_n h') (hm_s h') p R s m args c) (hr : meth.sig.returnType = (some .int)) (hlk : meth.locks = false) (hf : f_R_meeting F x0 x1 x2 h = some (r, h')) : hm_G E 3 n0 s0 (hm_n h') (hm_s h') p l e R s m args below meth c (MQ below (hm_Qc E (some (.int r)) h') args s (hm_n h' - n0) (hm_s h' - s0) (fun q => E.2.2 ≤ q)) 0 [(0, .ref x0), (1, .int x1), (2, .int x2)] [] h := by
  unfold f_R_meeting at hf
  refine hm_aload_n C d_R_meeting_0 rfl 0 rfl ?_
  refine hm_iconst (v := (0 : Int32)) C d_R_meeting_1 (by decide) ?_
  obtain ⟨h1, eh1, hf⟩ := hm_bind hf
  refine hm_putI C F_4 0 (by decide) rfl k_158 (Or.inl rfl) rfl d_R_meeting_2 eh1 ?_
  refine hm_aload_n C d_R_meeting_5 rfl 0 rfl ?_
  obtain ⟨v2, ev2, hf⟩ := hm_bind hf
  refine hm_getI C F_4 5 (by decide) rfl k_165 d_R_meeting_6 ev2 ?_
  refine hm_if_ne (tgt := 15) C d_R_meeting_9 (by decide) (fun z3 => ?_) (fun z3 => ?_)
  · have hf := hm_ifn hf z3
    refine hm_aload_n C d_R_meeting_15 rfl 0 rfl ?_
    refine hm_iload_n C d_R_meeting_16 rfl 1 rfl ?_
    refine hm_iload_n C d_R_meeting_17 rfl 2 rfl ?_
    obtain ⟨u4, eu4, hf⟩ := hm_bind hf
    obtain ⟨v5, h5, eh5, hf⟩ := hm_and_of hf
    refine hm_callV (vs := [.int x1, .int x2]) (st := []) (sb := [.int v5]) C (c_R_noPair eh5) Y_R_noPair F_4 eu4 k_167 k_168 k_166 (by decide) (by decide) rfl (Nat.le_of_ble_eq_true rfl) d_R_meeting_18 rfl rfl ?_
    refine hm_if_eq (tgt := 29) C d_R_meeting_21 (by decide) (fun z6 => ?_) (fun z6 => ?_)
    · have hf := hm_ifp hf z6
      refine hm_aload_n C d_R_meeting_29 rfl 0 rfl ?_
      refine hm_iload_n C d_R_meeting_30 rfl 1 rfl ?_
      refine hm_iload_n C d_R_meeting_31 rfl 2 rfl ?_
      obtain ⟨u7, eu7, hf⟩ := hm_bind hf
      obtain ⟨v8, h8, eh8, hf⟩ := hm_and_of hf
      refine hm_callV (vs := [.int x1, .int x2]) (st := []) (sb := [.int v8]) C (c_R_meet eh8) Y_R_meet F_4 eu7 k_195 k_196 k_194 (by decide) (by decide) rfl (Nat.le_of_ble_eq_true rfl) d_R_meeting_32 rfl rfl ?_
      exact hm_iret C hr hlk d_R_meeting_35 hf
    · have hf := hm_ifn hf z6
      refine hm_bipush (v := (-2 : Int32)) C d_R_meeting_24 (by decide) ?_
      refine hm_goto (tgt := 35) C d_R_meeting_26 (by decide) ?_
      exact hm_iret C hr hlk d_R_meeting_35 hf
  · have hf := hm_ifp hf z3
    refine hm_bipush (v := (-4 : Int32)) C d_R_meeting_12 (by decide) ?_
    exact hm_iret C hr hlk d_R_meeting_14 hf
set_option maxRecDepth 20000 in
theorem c_R_meeting {E : hm_E} {l : Launch} {F : Nat} {r : Int32} {h h' : hm_T} {x0 : Nat} {x1 : Int32} {x2 : Int32} (hf : f_R_meeting F x0 x1 x2 h = some (r, h')) : hm_M E l y_R_meeting prog_6_method_23_code 3 (some .int) 3 65 [.ref x0, .int x1, .int x2] h (some (.int r)) h' :=
  hm_enter (by decide +kernel) (Nat.le_of_ble_eq_true rfl) (m_f_R_meeting hf) (fun p e R s m below meth c C hr hlk hin => w_f_R_meeting C hr hlk hf)
def f_R_redone (F : Nat) (x0 : Nat) (h : hm_T) : Option (Int32 × hm_T) :=
  (hm_pi 4 25 0 h x0 (0 : Int32)).bind (fun h1 => (hm_gi 4 25 5 h1 x0).bind (fun v2 => (if v2 = 0 then some ((-4 : Int32), h1) else (hm_gi 4 25 10 h1 x0).bind (fun v4 => some (v4, h1)))))
theorem m_f_R_redone {F : Nat} {r : Int32} {h h' : hm_T} {x0 : Nat} (hf : f_R_redone F x0 h = some (r, h')) : hm_le h h' := by
  unfold f_R_redone at hf
  obtain ⟨h1, eh1, hf⟩ := hm_bind hf
  have mh1 := hm_le.pi eh1
  obtain ⟨v2, ev2, hf⟩ := hm_bind hf
  by_cases z3 : v2 = 0
  · have hf := hm_ifp hf z3
    exact mh1.tr ((hm_le.ret hf))
  · have hf := hm_ifn hf z3
    obtain ⟨v4, ev4, hf⟩ := hm_bind hf
    exact mh1.tr ((hm_le.ret hf))
set_option maxRecDepth 20000 in
set_option maxHeartbeats 1000000 in
theorem w_f_R_redone {p : Program} {l : Launch} {e : Env} {R : Room} {s : State} {m : MethodId} {args : Array Value} {below : List Frame} {meth : Method} {c : Code} {E : hm_E} {n0 s0 F : Nat} {r : Int32} {h h' : hm_T} {x0 : Nat} (C : hm_C E prog_6_method_24_code 1 "DistanceLabelsModel" 0 0 n0 s0 (hm_n h') (hm_s h') p R s m args c) (hr : meth.sig.returnType = (some .int)) (hlk : meth.locks = false) (hf : f_R_redone F x0 h = some (r, h')) : hm_G E 1 n0 s0 (hm_n h') (hm_s h') p l e R s m args below meth c (MQ below (hm_Qc E (some (.int r)) h') args s (hm_n h' - n0) (hm_s h' - s0) (fun q => E.2.2 ≤ q)) 0 [(0, .ref x0)] [] h := by
  unfold f_R_redone at hf
  refine hm_aload_n C d_R_redone_0 rfl 0 rfl ?_
  refine hm_iconst (v := (0 : Int32)) C d_R_redone_1 (by decide) ?_
  obtain ⟨h1, eh1, hf⟩ := hm_bind hf
  refine hm_putI C F_4 0 (by decide) rfl k_158 (Or.inl rfl) rfl d_R_redone_2 eh1 ?_
  refine hm_aload_n C d_R_redone_5 rfl 0 rfl ?_
  obtain ⟨v2, ev2, hf⟩ := hm_bind hf
  refine hm_getI C F_4 5 (by decide) rfl k_165 d_R_redone_6 ev2 ?_
  refine hm_if_eq (tgt := 19) C d_R_redone_9 (by decide) (fun z3 => ?_) (fun z3 => ?_)
  · have hf := hm_ifp hf z3
    refine hm_bipush (v := (-4 : Int32)) C d_R_redone_19 (by decide) ?_
    exact hm_iret C hr hlk d_R_redone_21 hf
  · have hf := hm_ifn hf z3
    refine hm_aload_n C d_R_redone_12 rfl 0 rfl ?_
    obtain ⟨v4, ev4, hf⟩ := hm_bind hf
    refine hm_getI C F_4 10 (by decide) rfl k_185 d_R_redone_13 ev4 ?_
    refine hm_goto (tgt := 21) C d_R_redone_16 (by decide) ?_
    exact hm_iret C hr hlk d_R_redone_21 hf
set_option maxRecDepth 20000 in
theorem c_R_redone {E : hm_E} {l : Launch} {F : Nat} {r : Int32} {h h' : hm_T} {x0 : Nat} (hf : f_R_redone F x0 h = some (r, h')) : hm_M E l y_R_redone prog_6_method_24_code 1 (some .int) 0 0 [.ref x0] h (some (.int r)) h' :=
  hm_enter (by decide +kernel) (Nat.le_of_ble_eq_true rfl) (m_f_R_redone hf) (fun p e R s m below meth c C hr hlk hin => w_f_R_redone C hr hlk hf)
def f_R_damage_47 (F : Nat) (x0 : Nat) (x1 : Int32) (x2 : Int32) (x4 : Int32) (t0 : Int32) (h : hm_T) : Option (Int32 × hm_T) :=
  (if t0 < 0 then some ((-2 : Int32), h) else hm_and (f_R_in F x4 (-1000 : Int32) (1000 : Int32) h) (fun v2 h2 => (if v2 = 0 then some ((-2 : Int32), h2) else (hm_gr 4 25 9 h2 x0).bind (fun a4 => (hm_ild h2 a4 ((((256 : Int32) * x1) + ((16 : Int32) * x2)) + t0)).bind (fun v5 => hm_and (f_R_in F ((v5 - (1 : Int32)) + x4) (0 : Int32) (90000 : Int32) h2) (fun v6 h6 => (if v6 = 0 then some ((-2 : Int32), h6) else (hm_gr 4 25 9 h6 x0).bind (fun a8 => (hm_ist h6 a8 ((((256 : Int32) * x1) + ((16 : Int32) * x2)) + t0) (((v5 - (1 : Int32)) + x4) + (1 : Int32))).bind (fun h9 => some (((v5 - (1 : Int32)) + x4), h9))))))))))
def f_R_damage_46 (F : Nat) (x0 : Nat) (x1 : Int32) (x2 : Int32) (x4 : Int32) (h : hm_T) : Option (Int32 × hm_T) :=
  f_R_damage_47 F x0 x1 x2 x4 (-1 : Int32) h
def f_R_damage (F : Nat) (x0 : Nat) (x1 : Int32) (x2 : Int32) (x3 : Int32) (x4 : Int32) (h : hm_T) : Option (Int32 × hm_T) :=
  (hm_pi 4 25 0 h x0 (0 : Int32)).bind (fun h1 => (hm_gi 4 25 5 h1 x0).bind (fun v2 => (if v2 = 0 then some ((-4 : Int32), h1) else hm_and (f_R_in F x1 (0 : Int32) (1 : Int32) h1) (fun v4 h4 => (if v4 = 0 then f_R_damage_46 F x0 x1 x2 x4 h4 else (hm_is 4 25 h4 x0).bind (fun u6 => hm_and (f_R_noNode F x0 x2 h4) (fun v7 h7 => (if v7 = 0 then (if x3 < 0 then f_R_damage_46 F x0 x1 x2 x4 h7 else (hm_is 4 25 h7 x0).bind (fun u10 => hm_and (f_R_nth F x0 x1 x2 x3 h7) (fun v11 h11 => f_R_damage_47 F x0 x1 x2 x4 v11 h11))) else f_R_damage_46 F x0 x1 x2 x4 h7))))))))
theorem m_f_R_damage_47 {F : Nat} {r : Int32} {h h' : hm_T} {x0 : Nat} {x1 : Int32} {x2 : Int32} {x4 : Int32} {t0 : Int32} (hf : f_R_damage_47 F x0 x1 x2 x4 t0 h = some (r, h')) : hm_le h h' := by
  unfold f_R_damage_47 at hf
  by_cases z1 : t0 < 0
  · have hf := hm_ifp hf z1
    exact (hm_le.ret hf)
  · have hf := hm_ifn hf z1
    obtain ⟨v2, h2, eh2, hf⟩ := hm_and_of hf
    have mh2 := m_f_R_in eh2
    by_cases z3 : v2 = 0
    · have hf := hm_ifp hf z3
      exact mh2.tr ((hm_le.ret hf))
    · have hf := hm_ifn hf z3
      obtain ⟨a4, ea4, hf⟩ := hm_bind hf
      obtain ⟨v5, ev5, hf⟩ := hm_bind hf
      obtain ⟨v6, h6, eh6, hf⟩ := hm_and_of hf
      have mh6 := m_f_R_in eh6
      by_cases z7 : v6 = 0
      · have hf := hm_ifp hf z7
        exact mh2.tr (mh6.tr ((hm_le.ret hf)))
      · have hf := hm_ifn hf z7
        obtain ⟨a8, ea8, hf⟩ := hm_bind hf
        obtain ⟨h9, eh9, hf⟩ := hm_bind hf
        have mh9 := hm_le.ist eh9
        exact mh2.tr (mh6.tr (mh9.tr ((hm_le.ret hf))))
theorem m_f_R_damage_46 {F : Nat} {r : Int32} {h h' : hm_T} {x0 : Nat} {x1 : Int32} {x2 : Int32} {x4 : Int32} (hf : f_R_damage_46 F x0 x1 x2 x4 h = some (r, h')) : hm_le h h' := by
  unfold f_R_damage_46 at hf
  exact (m_f_R_damage_47 hf)
theorem m_f_R_damage {F : Nat} {r : Int32} {h h' : hm_T} {x0 : Nat} {x1 : Int32} {x2 : Int32} {x3 : Int32} {x4 : Int32} (hf : f_R_damage F x0 x1 x2 x3 x4 h = some (r, h')) : hm_le h h' := by
  unfold f_R_damage at hf
  obtain ⟨h1, eh1, hf⟩ := hm_bind hf
  have mh1 := hm_le.pi eh1
  obtain ⟨v2, ev2, hf⟩ := hm_bind hf
  by_cases z3 : v2 = 0
  · have hf := hm_ifp hf z3
    exact mh1.tr ((hm_le.ret hf))
  · have hf := hm_ifn hf z3
    obtain ⟨v4, h4, eh4, hf⟩ := hm_and_of hf
    have mh4 := m_f_R_in eh4
    by_cases z5 : v4 = 0
    · have hf := hm_ifp hf z5
      exact mh1.tr (mh4.tr ((m_f_R_damage_46 hf)))
    · have hf := hm_ifn hf z5
      obtain ⟨u6, eu6, hf⟩ := hm_bind hf
      obtain ⟨v7, h7, eh7, hf⟩ := hm_and_of hf
      have mh7 := m_f_R_noNode eh7
      by_cases z8 : v7 = 0
      · have hf := hm_ifp hf z8
        by_cases z9 : x3 < 0
        · have hf := hm_ifp hf z9
          exact mh1.tr (mh4.tr (mh7.tr ((m_f_R_damage_46 hf))))
        · have hf := hm_ifn hf z9
          obtain ⟨u10, eu10, hf⟩ := hm_bind hf
          obtain ⟨v11, h11, eh11, hf⟩ := hm_and_of hf
          have mh11 := m_f_R_nth eh11
          exact mh1.tr (mh4.tr (mh7.tr (mh11.tr ((m_f_R_damage_47 hf)))))
      · have hf := hm_ifn hf z8
        exact mh1.tr (mh4.tr (mh7.tr ((m_f_R_damage_46 hf))))
set_option maxRecDepth 20000 in
set_option maxHeartbeats 1000000 in
theorem w_f_R_damage_47 {p : Program} {l : Launch} {e : Env} {R : Room} {s : State} {m : MethodId} {args : Array Value} {below : List Frame} {meth : Method} {c : Code} {E : hm_E} {n0 s0 F : Nat} {r : Int32} {h h' : hm_T} {x0 : Nat} {x1 : Int32} {x2 : Int32} {x4 : Int32} {t0 : Int32} (C : hm_C E prog_6_method_25_code 8 "DistanceLabelsModel" 2 43 n0 s0 (hm_n h') (hm_s h') p R s m args c) (hr : meth.sig.returnType = (some .int)) (hlk : meth.locks = false) (hf : f_R_damage_47 F x0 x1 x2 x4 t0 h = some (r, h')) : hm_G E 8 n0 s0 (hm_n h') (hm_s h') p l e R s m args below meth c (MQ below (hm_Qc E (some (.int r)) h') args s (hm_n h' - n0) (hm_s h' - s0) (fun q => E.2.2 ≤ q)) 47 [(0, .ref x0), (1, .int x1), (2, .int x2), (4, .int x4)] [.int t0] h := by
  unfold f_R_damage_47 at hf
  refine hm_istore (lv' := [(5, .int t0), (0, .ref x0), (1, .int x1), (2, .int x2), (4, .int x4)]) C d_R_damage_47 (by decide) rfl ?_
  refine hm_iload C d_R_damage_49 0 rfl ?_
  refine hm_if_lt (tgt := 68) C d_R_damage_51 (by decide) (fun z1 => ?_) (fun z1 => ?_)
  · have hf := hm_ifp hf z1
    refine hm_bipush (v := (-2 : Int32)) C d_R_damage_68 (by decide) ?_
    exact hm_iret C hr hlk d_R_damage_70 hf
  · have hf := hm_ifn hf z1
    refine hm_iload C d_R_damage_54 4 rfl ?_
    refine hm_sipush (v := (-1000 : Int32)) C d_R_damage_56 (by decide) ?_
    refine hm_sipush (v := (1000 : Int32)) C d_R_damage_59 (by decide) ?_
    obtain ⟨v2, h2, eh2, hf⟩ := hm_and_of hf
    refine hm_callS (vs := [.int x4, .int (-1000 : Int32), .int (1000 : Int32)]) (st := []) (sb := [.int v2]) C (c_R_in eh2) Y_R_in k_161 k_160 (by decide) (by decide) rfl (Nat.le_of_ble_eq_true rfl) d_R_damage_62 rfl rfl ?_
    refine hm_if_ne (tgt := 71) C d_R_damage_65 (by decide) (fun z3 => ?_) (fun z3 => ?_)
    · have hf := hm_ifn hf z3
      refine hm_sipush (v := (256 : Int32)) C d_R_damage_71 (by decide) ?_
      refine hm_iload_n C d_R_damage_74 rfl 2 rfl ?_
      refine hm_imul C d_R_damage_75 ?_
      refine hm_bipush (v := (16 : Int32)) C d_R_damage_76 (by decide) ?_
      refine hm_iload_n C d_R_damage_78 rfl 3 rfl ?_
      refine hm_imul C d_R_damage_79 ?_
      refine hm_iadd C d_R_damage_80 ?_
      refine hm_iload C d_R_damage_81 0 rfl ?_
      refine hm_iadd C d_R_damage_83 ?_
      refine hm_istore (lv' := [(6, .int ((((256 : Int32) * x1) + ((16 : Int32) * x2)) + t0)), (5, .int t0), (0, .ref x0), (1, .int x1), (2, .int x2), (4, .int x4)]) C d_R_damage_84 (by decide) rfl ?_
      refine hm_aload_n C d_R_damage_86 rfl 2 rfl ?_
      obtain ⟨a4, ea4, hf⟩ := hm_bind hf
      refine hm_getR C F_4 9 (by decide) rfl k_146 d_R_damage_87 ea4 ?_
      refine hm_iload C d_R_damage_90 0 rfl ?_
      obtain ⟨v5, ev5, hf⟩ := hm_bind hf
      refine hm_iaload C d_R_damage_92 ev5 ?_
      refine hm_iconst (v := (1 : Int32)) C d_R_damage_93 (by decide) ?_
      refine hm_isub C d_R_damage_94 ?_
      refine hm_iload C d_R_damage_95 5 rfl ?_
      refine hm_iadd C d_R_damage_97 ?_
      refine hm_istore (lv' := [(7, .int ((v5 - (1 : Int32)) + x4)), (6, .int ((((256 : Int32) * x1) + ((16 : Int32) * x2)) + t0)), (5, .int t0), (0, .ref x0), (1, .int x1), (2, .int x2), (4, .int x4)]) C d_R_damage_98 (by decide) rfl ?_
      refine hm_iload C d_R_damage_100 0 rfl ?_
      refine hm_iconst (v := (0 : Int32)) C d_R_damage_102 (by decide) ?_
      refine hm_ldc (v := (90000 : Int32)) C k_197 d_R_damage_103 ?_
      obtain ⟨v6, h6, eh6, hf⟩ := hm_and_of hf
      refine hm_callS (vs := [.int ((v5 - (1 : Int32)) + x4), .int (0 : Int32), .int (90000 : Int32)]) (st := []) (sb := [.int v6]) C (c_R_in eh6) Y_R_in k_161 k_160 (by decide) (by decide) rfl (Nat.le_of_ble_eq_true rfl) d_R_damage_105 rfl rfl ?_
      refine hm_if_ne (tgt := 114) C d_R_damage_108 (by decide) (fun z7 => ?_) (fun z7 => ?_)
      · have hf := hm_ifn hf z7
        refine hm_aload_n C d_R_damage_114 rfl 3 rfl ?_
        obtain ⟨a8, ea8, hf⟩ := hm_bind hf
        refine hm_getR C F_4 9 (by decide) rfl k_146 d_R_damage_115 ea8 ?_
        refine hm_iload C d_R_damage_118 1 rfl ?_
        refine hm_iload C d_R_damage_120 0 rfl ?_
        refine hm_iconst (v := (1 : Int32)) C d_R_damage_122 (by decide) ?_
        refine hm_iadd C d_R_damage_123 ?_
        obtain ⟨h9, eh9, hf⟩ := hm_bind hf
        refine hm_iastore C d_R_damage_124 eh9 ?_
        refine hm_iload C d_R_damage_125 0 rfl ?_
        exact hm_iret C hr hlk d_R_damage_127 hf
      · have hf := hm_ifp hf z7
        refine hm_bipush (v := (-2 : Int32)) C d_R_damage_111 (by decide) ?_
        exact hm_iret C hr hlk d_R_damage_113 hf
    · have hf := hm_ifp hf z3
      refine hm_bipush (v := (-2 : Int32)) C d_R_damage_68 (by decide) ?_
      exact hm_iret C hr hlk d_R_damage_70 hf
set_option maxRecDepth 20000 in
set_option maxHeartbeats 1000000 in
theorem w_f_R_damage_46 {p : Program} {l : Launch} {e : Env} {R : Room} {s : State} {m : MethodId} {args : Array Value} {below : List Frame} {meth : Method} {c : Code} {E : hm_E} {n0 s0 F : Nat} {r : Int32} {h h' : hm_T} {x0 : Nat} {x1 : Int32} {x2 : Int32} {x4 : Int32} (C : hm_C E prog_6_method_25_code 8 "DistanceLabelsModel" 2 43 n0 s0 (hm_n h') (hm_s h') p R s m args c) (hr : meth.sig.returnType = (some .int)) (hlk : meth.locks = false) (hf : f_R_damage_46 F x0 x1 x2 x4 h = some (r, h')) : hm_G E 8 n0 s0 (hm_n h') (hm_s h') p l e R s m args below meth c (MQ below (hm_Qc E (some (.int r)) h') args s (hm_n h' - n0) (hm_s h' - s0) (fun q => E.2.2 ≤ q)) 46 [(0, .ref x0), (1, .int x1), (2, .int x2), (4, .int x4)] [] h := by
  unfold f_R_damage_46 at hf
  refine hm_iconst (v := (-1 : Int32)) C d_R_damage_46 (by decide) ?_
  exact w_f_R_damage_47 C hr hlk hf
set_option maxRecDepth 20000 in
set_option maxHeartbeats 1000000 in
theorem w_f_R_damage {p : Program} {l : Launch} {e : Env} {R : Room} {s : State} {m : MethodId} {args : Array Value} {below : List Frame} {meth : Method} {c : Code} {E : hm_E} {n0 s0 F : Nat} {r : Int32} {h h' : hm_T} {x0 : Nat} {x1 : Int32} {x2 : Int32} {x3 : Int32} {x4 : Int32} (C : hm_C E prog_6_method_25_code 8 "DistanceLabelsModel" 2 43 n0 s0 (hm_n h') (hm_s h') p R s m args c) (hr : meth.sig.returnType = (some .int)) (hlk : meth.locks = false) (hf : f_R_damage F x0 x1 x2 x3 x4 h = some (r, h')) : hm_G E 8 n0 s0 (hm_n h') (hm_s h') p l e R s m args below meth c (MQ below (hm_Qc E (some (.int r)) h') args s (hm_n h' - n0) (hm_s h' - s0) (fun q => E.2.2 ≤ q)) 0 [(0, .ref x0), (1, .int x1), (2, .int x2), (3, .int x3), (4, .int x4)] [] h := by
  unfold f_R_damage at hf
  refine hm_aload_n C d_R_damage_0 rfl 0 rfl ?_
  refine hm_iconst (v := (0 : Int32)) C d_R_damage_1 (by decide) ?_
  obtain ⟨h1, eh1, hf⟩ := hm_bind hf
  refine hm_putI C F_4 0 (by decide) rfl k_158 (Or.inl rfl) rfl d_R_damage_2 eh1 ?_
  refine hm_aload_n C d_R_damage_5 rfl 0 rfl ?_
  obtain ⟨v2, ev2, hf⟩ := hm_bind hf
  refine hm_getI C F_4 5 (by decide) rfl k_165 d_R_damage_6 ev2 ?_
  refine hm_if_ne (tgt := 15) C d_R_damage_9 (by decide) (fun z3 => ?_) (fun z3 => ?_)
  · have hf := hm_ifn hf z3
    refine hm_iload_n C d_R_damage_15 rfl 1 rfl ?_
    refine hm_iconst (v := (0 : Int32)) C d_R_damage_16 (by decide) ?_
    refine hm_iconst (v := (1 : Int32)) C d_R_damage_17 (by decide) ?_
    obtain ⟨v4, h4, eh4, hf⟩ := hm_and_of hf
    refine hm_callS (vs := [.int x1, .int (0 : Int32), .int (1 : Int32)]) (st := []) (sb := [.int v4]) C (c_R_in eh4) Y_R_in k_161 k_160 (by decide) (by decide) rfl (Nat.le_of_ble_eq_true rfl) d_R_damage_18 rfl rfl ?_
    refine hm_if_eq (tgt := 46) C d_R_damage_21 (by decide) (fun z5 => ?_) (fun z5 => ?_)
    · have hf := hm_ifp hf z5
      refine hm_sub (lv' := [(0, .ref x0), (1, .int x1), (2, .int x2), (4, .int x4)]) [0, 1, 2, 4] rfl ?_
      exact w_f_R_damage_46 C hr hlk hf
    · have hf := hm_ifn hf z5
      refine hm_aload_n C d_R_damage_24 rfl 0 rfl ?_
      refine hm_iload_n C d_R_damage_25 rfl 2 rfl ?_
      obtain ⟨u6, eu6, hf⟩ := hm_bind hf
      obtain ⟨v7, h7, eh7, hf⟩ := hm_and_of hf
      refine hm_callV (vs := [.int x2]) (st := []) (sb := [.int v7]) C (c_R_noNode eh7) Y_R_noNode F_4 eu6 k_163 k_164 k_162 (by decide) (by decide) rfl (Nat.le_of_ble_eq_true rfl) d_R_damage_26 rfl rfl ?_
      refine hm_if_ne (tgt := 46) C d_R_damage_29 (by decide) (fun z8 => ?_) (fun z8 => ?_)
      · have hf := hm_ifn hf z8
        refine hm_sub (lv' := [(0, .ref x0), (1, .int x1), (2, .int x2), (4, .int x4)]) [0, 1, 2, 4] rfl ?_
        exact w_f_R_damage_46 C hr hlk hf
      · have hf := hm_ifp hf z8
        refine hm_iload_n C d_R_damage_32 rfl 3 rfl ?_
        refine hm_if_lt (tgt := 46) C d_R_damage_33 (by decide) (fun z9 => ?_) (fun z9 => ?_)
        · have hf := hm_ifp hf z9
          refine hm_sub (lv' := [(0, .ref x0), (1, .int x1), (2, .int x2), (4, .int x4)]) [0, 1, 2, 4] rfl ?_
          exact w_f_R_damage_46 C hr hlk hf
        · have hf := hm_ifn hf z9
          refine hm_aload_n C d_R_damage_36 rfl 0 rfl ?_
          refine hm_iload_n C d_R_damage_37 rfl 1 rfl ?_
          refine hm_iload_n C d_R_damage_38 rfl 2 rfl ?_
          refine hm_iload_n C d_R_damage_39 rfl 3 rfl ?_
          obtain ⟨u10, eu10, hf⟩ := hm_bind hf
          obtain ⟨v11, h11, eh11, hf⟩ := hm_and_of hf
          refine hm_callV (vs := [.int x1, .int x2, .int x3]) (st := []) (sb := [.int v11]) C (c_R_nth eh11) Y_R_nth F_4 eu10 k_191 k_192 k_190 (by decide) (by decide) rfl (Nat.le_of_ble_eq_true rfl) d_R_damage_40 rfl rfl ?_
          refine hm_goto (tgt := 47) C d_R_damage_43 (by decide) ?_
          refine hm_sub (lv' := [(0, .ref x0), (1, .int x1), (2, .int x2), (4, .int x4)]) [0, 1, 2, 4] rfl ?_
          exact w_f_R_damage_47 C hr hlk hf
  · have hf := hm_ifp hf z3
    refine hm_bipush (v := (-4 : Int32)) C d_R_damage_12 (by decide) ?_
    exact hm_iret C hr hlk d_R_damage_14 hf
set_option maxRecDepth 20000 in
theorem c_R_damage {E : hm_E} {l : Launch} {F : Nat} {r : Int32} {h h' : hm_T} {x0 : Nat} {x1 : Int32} {x2 : Int32} {x3 : Int32} {x4 : Int32} (hf : f_R_damage F x0 x1 x2 x3 x4 h = some (r, h')) : hm_M E l y_R_damage prog_6_method_25_code 8 (some .int) 2 43 [.ref x0, .int x1, .int x2, .int x3, .int x4] h (some (.int r)) h' :=
  hm_enter (by decide +kernel) (Nat.le_of_ble_eq_true rfl) (m_f_R_damage hf) (fun p e R s m below meth c C hr hlk hin => w_f_R_damage C hr hlk hf)
def f_R_check_107 (F : Nat) (k17 : Nat → Int32 → hm_T → Option (Int32 × hm_T)) (x0 : Nat) (x1 : Int32) (h : hm_T) : Option (Int32 × hm_T) :=
  k17 x0 (x1 + (1 : Int32)) h
def f_R_check_94 (F : Nat) (x1 : Int32) (x2 : Int32) (h : hm_T) : Option (Int32 × hm_T) :=
  some ((((16 : Int32) * x1) + x2), h)
def f_R_check_86 (F : Nat) (k27 : Nat → Int32 → Int32 → hm_T → Option (Int32 × hm_T)) (x0 : Nat) (x1 : Int32) (x2 : Int32) (x3 : Int32) (t0 : Int32) (h : hm_T) : Option (Int32 × hm_T) :=
  (if x3 = t0 then k27 x0 x1 (x2 + (1 : Int32)) h else f_R_check_94 F x1 x2 h)
def f_R_check_53 (F : Nat) (k27 : Nat → Int32 → Int32 → hm_T → Option (Int32 × hm_T)) (x0 : Nat) (x1 : Int32) (x2 : Int32) (t0 : Int32) (h : hm_T) : Option (Int32 × hm_T) :=
  (hm_gr 4 25 6 h x0).bind (fun a1 => (hm_ild h a1 (((16 : Int32) * x1) + x2)).bind (fun v2 => (if (1000000 : Int32) ≤ v2 then f_R_check_86 F k27 x0 x1 x2 t0 (1000000 : Int32) h else (hm_gr 4 25 6 h x0).bind (fun a4 => (hm_ild h a4 (((16 : Int32) * x1) + x2)).bind (fun v5 => f_R_check_86 F k27 x0 x1 x2 t0 v5 h)))))
def g_R_check_27 (F : Nat) (k17 : Nat → Int32 → hm_T → Option (Int32 × hm_T)) (k27 : Nat → Int32 → Int32 → hm_T → Option (Int32 × hm_T)) (x0 : Nat) (x1 : Int32) (x2 : Int32) (h : hm_T) : Option (Int32 × hm_T) :=
  (hm_gi 4 25 1 h x0).bind (fun v1 => (if v1 ≤ x2 then f_R_check_107 F k17 x0 x1 h else (hm_is 4 25 h x0).bind (fun u3 => hm_and (f_R_meet F x0 x1 x2 h) (fun v4 h4 => (if 0 ≤ v4 then (hm_gi 4 25 24 h4 x0).bind (fun v6 => f_R_check_53 F k27 x0 x1 x2 v6 h4) else f_R_check_53 F k27 x0 x1 x2 (1000000 : Int32) h4)))))
def f_R_check_27 (F : Nat) (k17 : Nat → Int32 → hm_T → Option (Int32 × hm_T)) : Nat → Nat → Int32 → Int32 → hm_T → Option (Int32 × hm_T)
  | 0 => fun _ _ _ _ => none
  | n + 1 => g_R_check_27 F k17 (f_R_check_27 F k17 n)
def g_R_check_17 (F : Nat) (k17 : Nat → Int32 → hm_T → Option (Int32 × hm_T)) (x0 : Nat) (x1 : Int32) (h : hm_T) : Option (Int32 × hm_T) :=
  (hm_gi 4 25 1 h x0).bind (fun v1 => (if v1 ≤ x1 then some ((-1 : Int32), h) else f_R_check_27 F k17 F x0 x1 (0 : Int32) h))
def f_R_check_17 (F : Nat) : Nat → Nat → Int32 → hm_T → Option (Int32 × hm_T)
  | 0 => fun _ _ _ => none
  | n + 1 => g_R_check_17 F (f_R_check_17 F n)
def f_R_check (F : Nat) (x0 : Nat) (h : hm_T) : Option (Int32 × hm_T) :=
  (hm_pi 4 25 0 h x0 (0 : Int32)).bind (fun h1 => (hm_gi 4 25 5 h1 x0).bind (fun v2 => (if v2 = 0 then some ((-4 : Int32), h1) else f_R_check_17 F F x0 (0 : Int32) h1)))
theorem m_f_R_check_107 {F : Nat} {r : Int32} {h h' : hm_T} {x0 : Nat} {x1 : Int32} {k17 : Nat → Int32 → hm_T → Option (Int32 × hm_T)} (hk17 : ∀ (y0 : Nat) (y1 : Int32) (g : hm_T), k17 y0 y1 g = some (r, h') → hm_le g h') (hf : f_R_check_107 F k17 x0 x1 h = some (r, h')) : hm_le h h' := by
  unfold f_R_check_107 at hf
  exact (hk17 _ _ _ hf)
theorem m_f_R_check_94 {F : Nat} {r : Int32} {h h' : hm_T} {x1 : Int32} {x2 : Int32} (hf : f_R_check_94 F x1 x2 h = some (r, h')) : hm_le h h' := by
  unfold f_R_check_94 at hf
  exact (hm_le.ret hf)
theorem m_f_R_check_86 {F : Nat} {r : Int32} {h h' : hm_T} {x0 : Nat} {x1 : Int32} {x2 : Int32} {x3 : Int32} {t0 : Int32} {k27 : Nat → Int32 → Int32 → hm_T → Option (Int32 × hm_T)} (hk27 : ∀ (y0 : Nat) (y1 : Int32) (y2 : Int32) (g : hm_T), k27 y0 y1 y2 g = some (r, h') → hm_le g h') (hf : f_R_check_86 F k27 x0 x1 x2 x3 t0 h = some (r, h')) : hm_le h h' := by
  unfold f_R_check_86 at hf
  by_cases z1 : x3 = t0
  · have hf := hm_ifp hf z1
    exact (hk27 _ _ _ _ hf)
  · have hf := hm_ifn hf z1
    exact (m_f_R_check_94 hf)
theorem m_f_R_check_53 {F : Nat} {r : Int32} {h h' : hm_T} {x0 : Nat} {x1 : Int32} {x2 : Int32} {t0 : Int32} {k27 : Nat → Int32 → Int32 → hm_T → Option (Int32 × hm_T)} (hk27 : ∀ (y0 : Nat) (y1 : Int32) (y2 : Int32) (g : hm_T), k27 y0 y1 y2 g = some (r, h') → hm_le g h') (hf : f_R_check_53 F k27 x0 x1 x2 t0 h = some (r, h')) : hm_le h h' := by
  unfold f_R_check_53 at hf
  obtain ⟨a1, ea1, hf⟩ := hm_bind hf
  obtain ⟨v2, ev2, hf⟩ := hm_bind hf
  by_cases z3 : (1000000 : Int32) ≤ v2
  · have hf := hm_ifp hf z3
    exact (m_f_R_check_86 hk27 hf)
  · have hf := hm_ifn hf z3
    obtain ⟨a4, ea4, hf⟩ := hm_bind hf
    obtain ⟨v5, ev5, hf⟩ := hm_bind hf
    exact (m_f_R_check_86 hk27 hf)
theorem m_g_R_check_27 {F : Nat} {r : Int32} {h h' : hm_T} {x0 : Nat} {x1 : Int32} {x2 : Int32} {k17 : Nat → Int32 → hm_T → Option (Int32 × hm_T)} {k27 : Nat → Int32 → Int32 → hm_T → Option (Int32 × hm_T)} (hk17 : ∀ (y0 : Nat) (y1 : Int32) (g : hm_T), k17 y0 y1 g = some (r, h') → hm_le g h') (hk27 : ∀ (y0 : Nat) (y1 : Int32) (y2 : Int32) (g : hm_T), k27 y0 y1 y2 g = some (r, h') → hm_le g h') (hf : g_R_check_27 F k17 k27 x0 x1 x2 h = some (r, h')) : hm_le h h' := by
  unfold g_R_check_27 at hf
  obtain ⟨v1, ev1, hf⟩ := hm_bind hf
  by_cases z2 : v1 ≤ x2
  · have hf := hm_ifp hf z2
    exact (m_f_R_check_107 hk17 hf)
  · have hf := hm_ifn hf z2
    obtain ⟨u3, eu3, hf⟩ := hm_bind hf
    obtain ⟨v4, h4, eh4, hf⟩ := hm_and_of hf
    have mh4 := m_f_R_meet eh4
    by_cases z5 : 0 ≤ v4
    · have hf := hm_ifp hf z5
      obtain ⟨v6, ev6, hf⟩ := hm_bind hf
      exact mh4.tr ((m_f_R_check_53 hk27 hf))
    · have hf := hm_ifn hf z5
      exact mh4.tr ((m_f_R_check_53 hk27 hf))
theorem m_R_check_27L {F : Nat} {r : Int32} {h' : hm_T} {k17 : Nat → Int32 → hm_T → Option (Int32 × hm_T)} (hk17 : ∀ (y0 : Nat) (y1 : Int32) (g : hm_T), k17 y0 y1 g = some (r, h') → hm_le g h') : ∀ (N : Nat) (x0 : Nat) (x1 : Int32) (x2 : Int32) (h : hm_T), f_R_check_27 F k17 N x0 x1 x2 h = some (r, h') → hm_le h h' := by
  intro N
  induction N with
  | zero => intro _ _ _ _ hf; cases hf
  | succ n ih => intro x0 x1 x2 h hf; exact m_g_R_check_27 hk17 ih hf
theorem m_g_R_check_17 {F : Nat} {r : Int32} {h h' : hm_T} {x0 : Nat} {x1 : Int32} {k17 : Nat → Int32 → hm_T → Option (Int32 × hm_T)} (hk17 : ∀ (y0 : Nat) (y1 : Int32) (g : hm_T), k17 y0 y1 g = some (r, h') → hm_le g h') (hf : g_R_check_17 F k17 x0 x1 h = some (r, h')) : hm_le h h' := by
  unfold g_R_check_17 at hf
  obtain ⟨v1, ev1, hf⟩ := hm_bind hf
  by_cases z2 : v1 ≤ x1
  · have hf := hm_ifp hf z2
    exact (hm_le.ret hf)
  · have hf := hm_ifn hf z2
    exact (m_R_check_27L hk17 _ _ _ _ _ hf)
theorem m_R_check_17L {F : Nat} {r : Int32} {h' : hm_T} : ∀ (N : Nat) (x0 : Nat) (x1 : Int32) (h : hm_T), f_R_check_17 F N x0 x1 h = some (r, h') → hm_le h h' := by
  intro N
  induction N with
  | zero => intro _ _ _ hf; cases hf
  | succ n ih => intro x0 x1 h hf; exact m_g_R_check_17 ih hf
theorem m_f_R_check {F : Nat} {r : Int32} {h h' : hm_T} {x0 : Nat} (hf : f_R_check F x0 h = some (r, h')) : hm_le h h' := by
  unfold f_R_check at hf
  obtain ⟨h1, eh1, hf⟩ := hm_bind hf
  have mh1 := hm_le.pi eh1
  obtain ⟨v2, ev2, hf⟩ := hm_bind hf
  by_cases z3 : v2 = 0
  · have hf := hm_ifp hf z3
    exact mh1.tr ((hm_le.ret hf))
  · have hf := hm_ifn hf z3
    exact mh1.tr ((m_R_check_17L _ _ _ _ hf))
set_option maxRecDepth 20000 in
set_option maxHeartbeats 1000000 in
theorem w_f_R_check_107 {p : Program} {l : Launch} {e : Env} {R : Room} {s : State} {m : MethodId} {args : Array Value} {below : List Frame} {meth : Method} {c : Code} {E : hm_E} {n0 s0 F : Nat} {r : Int32} {h h' : hm_T} {x0 : Nat} {x1 : Int32} {k17 : Nat → Int32 → hm_T → Option (Int32 × hm_T)} (C : hm_C E prog_6_method_26_code 5 "DistanceLabelsModel" 1 27 n0 s0 (hm_n h') (hm_s h') p R s m args c) (hr : meth.sig.returnType = (some .int)) (hlk : meth.locks = false) (hk17 : ∀ (y0 : Nat) (y1 : Int32) (g : hm_T), k17 y0 y1 g = some (r, h') → hm_G E 5 n0 s0 (hm_n h') (hm_s h') p l e R s m args below meth c (MQ below (hm_Qc E (some (.int r)) h') args s (hm_n h' - n0) (hm_s h' - s0) (fun q => E.2.2 ≤ q)) 17 [(0, .ref y0), (1, .int y1)] [] g) (hf : f_R_check_107 F k17 x0 x1 h = some (r, h')) : hm_G E 5 n0 s0 (hm_n h') (hm_s h') p l e R s m args below meth c (MQ below (hm_Qc E (some (.int r)) h') args s (hm_n h' - n0) (hm_s h' - s0) (fun q => E.2.2 ≤ q)) 107 [(0, .ref x0), (1, .int x1)] [] h := by
  unfold f_R_check_107 at hf
  refine hm_iinc (v := (x1 + (1 : Int32))) (lv' := [(1, .int (x1 + (1 : Int32))), (0, .ref x0)]) C d_R_check_107 1 rfl rfl (by decide) rfl ?_
  refine hm_goto (tgt := 17) C d_R_check_110 (by decide) ?_
  refine hm_sub (lv' := [(0, .ref x0), (1, .int (x1 + (1 : Int32)))]) [1, 0] rfl ?_
  exact hk17 _ _ _ hf
set_option maxRecDepth 20000 in
set_option maxHeartbeats 1000000 in
theorem w_f_R_check_94 {p : Program} {l : Launch} {e : Env} {R : Room} {s : State} {m : MethodId} {args : Array Value} {below : List Frame} {meth : Method} {c : Code} {E : hm_E} {n0 s0 F : Nat} {r : Int32} {h h' : hm_T} {x1 : Int32} {x2 : Int32} (C : hm_C E prog_6_method_26_code 5 "DistanceLabelsModel" 1 27 n0 s0 (hm_n h') (hm_s h') p R s m args c) (hr : meth.sig.returnType = (some .int)) (hlk : meth.locks = false) (hf : f_R_check_94 F x1 x2 h = some (r, h')) : hm_G E 5 n0 s0 (hm_n h') (hm_s h') p l e R s m args below meth c (MQ below (hm_Qc E (some (.int r)) h') args s (hm_n h' - n0) (hm_s h' - s0) (fun q => E.2.2 ≤ q)) 94 [(1, .int x1), (2, .int x2)] [] h := by
  unfold f_R_check_94 at hf
  refine hm_bipush (v := (16 : Int32)) C d_R_check_94 (by decide) ?_
  refine hm_iload_n C d_R_check_96 rfl 0 rfl ?_
  refine hm_imul C d_R_check_97 ?_
  refine hm_iload_n C d_R_check_98 rfl 1 rfl ?_
  refine hm_iadd C d_R_check_99 ?_
  exact hm_iret C hr hlk d_R_check_100 hf
set_option maxRecDepth 20000 in
set_option maxHeartbeats 1000000 in
theorem w_f_R_check_86 {p : Program} {l : Launch} {e : Env} {R : Room} {s : State} {m : MethodId} {args : Array Value} {below : List Frame} {meth : Method} {c : Code} {E : hm_E} {n0 s0 F : Nat} {r : Int32} {h h' : hm_T} {x0 : Nat} {x1 : Int32} {x2 : Int32} {x3 : Int32} {t0 : Int32} {k27 : Nat → Int32 → Int32 → hm_T → Option (Int32 × hm_T)} (C : hm_C E prog_6_method_26_code 5 "DistanceLabelsModel" 1 27 n0 s0 (hm_n h') (hm_s h') p R s m args c) (hr : meth.sig.returnType = (some .int)) (hlk : meth.locks = false) (hk27 : ∀ (y0 : Nat) (y1 : Int32) (y2 : Int32) (g : hm_T), k27 y0 y1 y2 g = some (r, h') → hm_G E 5 n0 s0 (hm_n h') (hm_s h') p l e R s m args below meth c (MQ below (hm_Qc E (some (.int r)) h') args s (hm_n h' - n0) (hm_s h' - s0) (fun q => E.2.2 ≤ q)) 27 [(0, .ref y0), (1, .int y1), (2, .int y2)] [] g) (hf : f_R_check_86 F k27 x0 x1 x2 x3 t0 h = some (r, h')) : hm_G E 5 n0 s0 (hm_n h') (hm_s h') p l e R s m args below meth c (MQ below (hm_Qc E (some (.int r)) h') args s (hm_n h' - n0) (hm_s h' - s0) (fun q => E.2.2 ≤ q)) 86 [(0, .ref x0), (1, .int x1), (2, .int x2), (3, .int x3)] [.int t0] h := by
  unfold f_R_check_86 at hf
  refine hm_istore (lv' := [(4, .int t0), (0, .ref x0), (1, .int x1), (2, .int x2), (3, .int x3)]) C d_R_check_86 (by decide) rfl ?_
  refine hm_iload_n C d_R_check_88 rfl 4 rfl ?_
  refine hm_iload C d_R_check_89 0 rfl ?_
  refine hm_icmp_eq (tgt := 101) C d_R_check_91 (by decide) (fun z1 => ?_) (fun z1 => ?_)
  · have hf := hm_ifp hf z1
    refine hm_iinc (v := (x2 + (1 : Int32))) (lv' := [(2, .int (x2 + (1 : Int32))), (4, .int t0), (0, .ref x0), (1, .int x1), (3, .int x3)]) C d_R_check_101 3 rfl rfl (by decide) rfl ?_
    refine hm_goto (tgt := 27) C d_R_check_104 (by decide) ?_
    refine hm_sub (lv' := [(0, .ref x0), (1, .int x1), (2, .int (x2 + (1 : Int32)))]) [2, 3, 0] rfl ?_
    exact hk27 _ _ _ _ hf
  · have hf := hm_ifn hf z1
    refine hm_sub (lv' := [(1, .int x1), (2, .int x2)]) [2, 3] rfl ?_
    exact w_f_R_check_94 C hr hlk hf
set_option maxRecDepth 20000 in
set_option maxHeartbeats 1000000 in
theorem w_f_R_check_53 {p : Program} {l : Launch} {e : Env} {R : Room} {s : State} {m : MethodId} {args : Array Value} {below : List Frame} {meth : Method} {c : Code} {E : hm_E} {n0 s0 F : Nat} {r : Int32} {h h' : hm_T} {x0 : Nat} {x1 : Int32} {x2 : Int32} {t0 : Int32} {k27 : Nat → Int32 → Int32 → hm_T → Option (Int32 × hm_T)} (C : hm_C E prog_6_method_26_code 5 "DistanceLabelsModel" 1 27 n0 s0 (hm_n h') (hm_s h') p R s m args c) (hr : meth.sig.returnType = (some .int)) (hlk : meth.locks = false) (hk27 : ∀ (y0 : Nat) (y1 : Int32) (y2 : Int32) (g : hm_T), k27 y0 y1 y2 g = some (r, h') → hm_G E 5 n0 s0 (hm_n h') (hm_s h') p l e R s m args below meth c (MQ below (hm_Qc E (some (.int r)) h') args s (hm_n h' - n0) (hm_s h' - s0) (fun q => E.2.2 ≤ q)) 27 [(0, .ref y0), (1, .int y1), (2, .int y2)] [] g) (hf : f_R_check_53 F k27 x0 x1 x2 t0 h = some (r, h')) : hm_G E 5 n0 s0 (hm_n h') (hm_s h') p l e R s m args below meth c (MQ below (hm_Qc E (some (.int r)) h') args s (hm_n h' - n0) (hm_s h' - s0) (fun q => E.2.2 ≤ q)) 53 [(0, .ref x0), (1, .int x1), (2, .int x2)] [.int t0] h := by
  unfold f_R_check_53 at hf
  refine hm_istore_n (lv' := [(3, .int t0), (0, .ref x0), (1, .int x1), (2, .int x2)]) C d_R_check_53 rfl (by decide) rfl ?_
  refine hm_aload_n C d_R_check_54 rfl 1 rfl ?_
  obtain ⟨a1, ea1, hf⟩ := hm_bind hf
  refine hm_getR C F_4 6 (by decide) rfl k_143 d_R_check_55 ea1 ?_
  refine hm_bipush (v := (16 : Int32)) C d_R_check_58 (by decide) ?_
  refine hm_iload_n C d_R_check_60 rfl 2 rfl ?_
  refine hm_imul C d_R_check_61 ?_
  refine hm_iload_n C d_R_check_62 rfl 3 rfl ?_
  refine hm_iadd C d_R_check_63 ?_
  obtain ⟨v2, ev2, hf⟩ := hm_bind hf
  refine hm_iaload C d_R_check_64 ev2 ?_
  refine hm_ldc (v := (1000000 : Int32)) C k_139 d_R_check_65 ?_
  refine hm_icmp_ge (tgt := 84) C d_R_check_67 (by decide) (fun z3 => ?_) (fun z3 => ?_)
  · have hf := hm_ifp hf z3
    refine hm_ldc (v := (1000000 : Int32)) C k_139 d_R_check_84 ?_
    refine hm_sub (lv' := [(0, .ref x0), (1, .int x1), (2, .int x2), (3, .int t0)]) [1, 2, 3, 0] rfl ?_
    exact w_f_R_check_86 C hr hlk hk27 hf
  · have hf := hm_ifn hf z3
    refine hm_aload_n C d_R_check_70 rfl 1 rfl ?_
    obtain ⟨a4, ea4, hf⟩ := hm_bind hf
    refine hm_getR C F_4 6 (by decide) rfl k_143 d_R_check_71 ea4 ?_
    refine hm_bipush (v := (16 : Int32)) C d_R_check_74 (by decide) ?_
    refine hm_iload_n C d_R_check_76 rfl 2 rfl ?_
    refine hm_imul C d_R_check_77 ?_
    refine hm_iload_n C d_R_check_78 rfl 3 rfl ?_
    refine hm_iadd C d_R_check_79 ?_
    obtain ⟨v5, ev5, hf⟩ := hm_bind hf
    refine hm_iaload C d_R_check_80 ev5 ?_
    refine hm_goto (tgt := 86) C d_R_check_81 (by decide) ?_
    refine hm_sub (lv' := [(0, .ref x0), (1, .int x1), (2, .int x2), (3, .int t0)]) [1, 2, 3, 0] rfl ?_
    exact w_f_R_check_86 C hr hlk hk27 hf
set_option maxRecDepth 20000 in
set_option maxHeartbeats 1000000 in
theorem w_g_R_check_27 {p : Program} {l : Launch} {e : Env} {R : Room} {s : State} {m : MethodId} {args : Array Value} {below : List Frame} {meth : Method} {c : Code} {E : hm_E} {n0 s0 F : Nat} {r : Int32} {h h' : hm_T} {x0 : Nat} {x1 : Int32} {x2 : Int32} {k17 : Nat → Int32 → hm_T → Option (Int32 × hm_T)} {k27 : Nat → Int32 → Int32 → hm_T → Option (Int32 × hm_T)} (C : hm_C E prog_6_method_26_code 5 "DistanceLabelsModel" 1 27 n0 s0 (hm_n h') (hm_s h') p R s m args c) (hr : meth.sig.returnType = (some .int)) (hlk : meth.locks = false) (hk17 : ∀ (y0 : Nat) (y1 : Int32) (g : hm_T), k17 y0 y1 g = some (r, h') → hm_G E 5 n0 s0 (hm_n h') (hm_s h') p l e R s m args below meth c (MQ below (hm_Qc E (some (.int r)) h') args s (hm_n h' - n0) (hm_s h' - s0) (fun q => E.2.2 ≤ q)) 17 [(0, .ref y0), (1, .int y1)] [] g) (hk27 : ∀ (y0 : Nat) (y1 : Int32) (y2 : Int32) (g : hm_T), k27 y0 y1 y2 g = some (r, h') → hm_G E 5 n0 s0 (hm_n h') (hm_s h') p l e R s m args below meth c (MQ below (hm_Qc E (some (.int r)) h') args s (hm_n h' - n0) (hm_s h' - s0) (fun q => E.2.2 ≤ q)) 27 [(0, .ref y0), (1, .int y1), (2, .int y2)] [] g) (hf : g_R_check_27 F k17 k27 x0 x1 x2 h = some (r, h')) : hm_G E 5 n0 s0 (hm_n h') (hm_s h') p l e R s m args below meth c (MQ below (hm_Qc E (some (.int r)) h') args s (hm_n h' - n0) (hm_s h' - s0) (fun q => E.2.2 ≤ q)) 27 [(0, .ref x0), (1, .int x1), (2, .int x2)] [] h := by
  unfold g_R_check_27 at hf
  refine hm_iload_n C d_R_check_27 rfl 2 rfl ?_
  refine hm_aload_n C d_R_check_28 rfl 0 rfl ?_
  obtain ⟨v1, ev1, hf⟩ := hm_bind hf
  refine hm_getI C F_4 1 (by decide) rfl k_159 d_R_check_29 ev1 ?_
  refine hm_icmp_ge (tgt := 107) C d_R_check_32 (by decide) (fun z2 => ?_) (fun z2 => ?_)
  · have hf := hm_ifp hf z2
    refine hm_sub (lv' := [(0, .ref x0), (1, .int x1)]) [0, 1] rfl ?_
    exact w_f_R_check_107 C hr hlk hk17 hf
  · have hf := hm_ifn hf z2
    refine hm_aload_n C d_R_check_35 rfl 0 rfl ?_
    refine hm_iload_n C d_R_check_36 rfl 1 rfl ?_
    refine hm_iload_n C d_R_check_37 rfl 2 rfl ?_
    obtain ⟨u3, eu3, hf⟩ := hm_bind hf
    obtain ⟨v4, h4, eh4, hf⟩ := hm_and_of hf
    refine hm_callV (vs := [.int x1, .int x2]) (st := []) (sb := [.int v4]) C (c_R_meet eh4) Y_R_meet F_4 eu3 k_195 k_196 k_194 (by decide) (by decide) rfl (Nat.le_of_ble_eq_true rfl) d_R_check_38 rfl rfl ?_
    refine hm_if_ge (tgt := 49) C d_R_check_41 (by decide) (fun z5 => ?_) (fun z5 => ?_)
    · have hf := hm_ifp hf z5
      refine hm_aload_n C d_R_check_49 rfl 0 rfl ?_
      obtain ⟨v6, ev6, hf⟩ := hm_bind hf
      refine hm_getI C F_4 24 (by decide) rfl k_193 d_R_check_50 ev6 ?_
      exact w_f_R_check_53 C hr hlk hk27 hf
    · have hf := hm_ifn hf z5
      refine hm_ldc (v := (1000000 : Int32)) C k_139 d_R_check_44 ?_
      refine hm_goto (tgt := 53) C d_R_check_46 (by decide) ?_
      exact w_f_R_check_53 C hr hlk hk27 hf
theorem w_R_check_27L {p : Program} {l : Launch} {e : Env} {R : Room} {s : State} {m : MethodId} {args : Array Value} {below : List Frame} {meth : Method} {c : Code} {E : hm_E} {n0 s0 F : Nat} {r : Int32} {h' : hm_T} {k17 : Nat → Int32 → hm_T → Option (Int32 × hm_T)} (C : hm_C E prog_6_method_26_code 5 "DistanceLabelsModel" 1 27 n0 s0 (hm_n h') (hm_s h') p R s m args c) (hr : meth.sig.returnType = (some .int)) (hlk : meth.locks = false) (hk17 : ∀ (y0 : Nat) (y1 : Int32) (g : hm_T), k17 y0 y1 g = some (r, h') → hm_G E 5 n0 s0 (hm_n h') (hm_s h') p l e R s m args below meth c (MQ below (hm_Qc E (some (.int r)) h') args s (hm_n h' - n0) (hm_s h' - s0) (fun q => E.2.2 ≤ q)) 17 [(0, .ref y0), (1, .int y1)] [] g) : ∀ (N : Nat) (x0 : Nat) (x1 : Int32) (x2 : Int32) (h : hm_T), f_R_check_27 F k17 N x0 x1 x2 h = some (r, h') → hm_G E 5 n0 s0 (hm_n h') (hm_s h') p l e R s m args below meth c (MQ below (hm_Qc E (some (.int r)) h') args s (hm_n h' - n0) (hm_s h' - s0) (fun q => E.2.2 ≤ q)) 27 [(0, .ref x0), (1, .int x1), (2, .int x2)] [] h := by
  intro N
  induction N with
  | zero => intro _ _ _ _ hf; cases hf
  | succ n ih => intro x0 x1 x2 h hf; exact w_g_R_check_27 C hr hlk hk17 ih hf
set_option maxRecDepth 20000 in
set_option maxHeartbeats 1000000 in
theorem w_g_R_check_17 {p : Program} {l : Launch} {e : Env} {R : Room} {s : State} {m : MethodId} {args : Array Value} {below : List Frame} {meth : Method} {c : Code} {E : hm_E} {n0 s0 F : Nat} {r : Int32} {h h' : hm_T} {x0 : Nat} {x1 : Int32} {k17 : Nat → Int32 → hm_T → Option (Int32 × hm_T)} (C : hm_C E prog_6_method_26_code 5 "DistanceLabelsModel" 1 27 n0 s0 (hm_n h') (hm_s h') p R s m args c) (hr : meth.sig.returnType = (some .int)) (hlk : meth.locks = false) (hk17 : ∀ (y0 : Nat) (y1 : Int32) (g : hm_T), k17 y0 y1 g = some (r, h') → hm_G E 5 n0 s0 (hm_n h') (hm_s h') p l e R s m args below meth c (MQ below (hm_Qc E (some (.int r)) h') args s (hm_n h' - n0) (hm_s h' - s0) (fun q => E.2.2 ≤ q)) 17 [(0, .ref y0), (1, .int y1)] [] g) (hf : g_R_check_17 F k17 x0 x1 h = some (r, h')) : hm_G E 5 n0 s0 (hm_n h') (hm_s h') p l e R s m args below meth c (MQ below (hm_Qc E (some (.int r)) h') args s (hm_n h' - n0) (hm_s h' - s0) (fun q => E.2.2 ≤ q)) 17 [(0, .ref x0), (1, .int x1)] [] h := by
  unfold g_R_check_17 at hf
  refine hm_iload_n C d_R_check_17 rfl 1 rfl ?_
  refine hm_aload_n C d_R_check_18 rfl 0 rfl ?_
  obtain ⟨v1, ev1, hf⟩ := hm_bind hf
  refine hm_getI C F_4 1 (by decide) rfl k_159 d_R_check_19 ev1 ?_
  refine hm_icmp_ge (tgt := 113) C d_R_check_22 (by decide) (fun z2 => ?_) (fun z2 => ?_)
  · have hf := hm_ifp hf z2
    refine hm_iconst (v := (-1 : Int32)) C d_R_check_113 (by decide) ?_
    exact hm_iret C hr hlk d_R_check_114 hf
  · have hf := hm_ifn hf z2
    refine hm_iconst (v := (0 : Int32)) C d_R_check_25 (by decide) ?_
    refine hm_istore_n (lv' := [(2, .int (0 : Int32)), (0, .ref x0), (1, .int x1)]) C d_R_check_26 rfl (by decide) rfl ?_
    refine hm_sub (lv' := [(0, .ref x0), (1, .int x1), (2, .int (0 : Int32))]) [1, 2, 0] rfl ?_
    exact w_R_check_27L C hr hlk hk17 _ _ _ _ _ hf
theorem w_R_check_17L {p : Program} {l : Launch} {e : Env} {R : Room} {s : State} {m : MethodId} {args : Array Value} {below : List Frame} {meth : Method} {c : Code} {E : hm_E} {n0 s0 F : Nat} {r : Int32} {h' : hm_T} (C : hm_C E prog_6_method_26_code 5 "DistanceLabelsModel" 1 27 n0 s0 (hm_n h') (hm_s h') p R s m args c) (hr : meth.sig.returnType = (some .int)) (hlk : meth.locks = false) : ∀ (N : Nat) (x0 : Nat) (x1 : Int32) (h : hm_T), f_R_check_17 F N x0 x1 h = some (r, h') → hm_G E 5 n0 s0 (hm_n h') (hm_s h') p l e R s m args below meth c (MQ below (hm_Qc E (some (.int r)) h') args s (hm_n h' - n0) (hm_s h' - s0) (fun q => E.2.2 ≤ q)) 17 [(0, .ref x0), (1, .int x1)] [] h := by
  intro N
  induction N with
  | zero => intro _ _ _ hf; cases hf
  | succ n ih => intro x0 x1 h hf; exact w_g_R_check_17 C hr hlk ih hf
set_option maxRecDepth 20000 in
set_option maxHeartbeats 1000000 in
theorem w_f_R_check {p : Program} {l : Launch} {e : Env} {R : Room} {s : State} {m : MethodId} {args : Array Value} {below : List Frame} {meth : Method} {c : Code} {E : hm_E} {n0 s0 F : Nat} {r : Int32} {h h' : hm_T} {x0 : Nat} (C : hm_C E prog_6_method_26_code 5 "DistanceLabelsModel" 1 27 n0 s0 (hm_n h') (hm_s h') p R s m args c) (hr : meth.sig.returnType = (some .int)) (hlk : meth.locks = false) (hf : f_R_check F x0 h = some (r, h')) : hm_G E 5 n0 s0 (hm_n h') (hm_s h') p l e R s m args below meth c (MQ below (hm_Qc E (some (.int r)) h') args s (hm_n h' - n0) (hm_s h' - s0) (fun q => E.2.2 ≤ q)) 0 [(0, .ref x0)] [] h := by
  unfold f_R_check at hf
  refine hm_aload_n C d_R_check_0 rfl 0 rfl ?_
  refine hm_iconst (v := (0 : Int32)) C d_R_check_1 (by decide) ?_
  obtain ⟨h1, eh1, hf⟩ := hm_bind hf
  refine hm_putI C F_4 0 (by decide) rfl k_158 (Or.inl rfl) rfl d_R_check_2 eh1 ?_
  refine hm_aload_n C d_R_check_5 rfl 0 rfl ?_
  obtain ⟨v2, ev2, hf⟩ := hm_bind hf
  refine hm_getI C F_4 5 (by decide) rfl k_165 d_R_check_6 ev2 ?_
  refine hm_if_ne (tgt := 15) C d_R_check_9 (by decide) (fun z3 => ?_) (fun z3 => ?_)
  · have hf := hm_ifn hf z3
    refine hm_iconst (v := (0 : Int32)) C d_R_check_15 (by decide) ?_
    refine hm_istore_n (lv' := [(1, .int (0 : Int32)), (0, .ref x0)]) C d_R_check_16 rfl (by decide) rfl ?_
    refine hm_sub (lv' := [(0, .ref x0), (1, .int (0 : Int32))]) [1, 0] rfl ?_
    exact w_R_check_17L C hr hlk _ _ _ _ hf
  · have hf := hm_ifp hf z3
    refine hm_bipush (v := (-4 : Int32)) C d_R_check_12 (by decide) ?_
    exact hm_iret C hr hlk d_R_check_14 hf
set_option maxRecDepth 20000 in
theorem c_R_check {E : hm_E} {l : Launch} {F : Nat} {r : Int32} {h h' : hm_T} {x0 : Nat} (hf : f_R_check F x0 h = some (r, h')) : hm_M E l y_R_check prog_6_method_26_code 5 (some .int) 1 27 [.ref x0] h (some (.int r)) h' :=
  hm_enter (by decide +kernel) (Nat.le_of_ble_eq_true rfl) (m_f_R_check hf) (fun p e R s m below meth c C hr hlk hin => w_f_R_check C hr hlk hf)
def f_R_shortcut (F : Nat) (x0 : Nat) (x1 : Int32) (x2 : Int32) (h : hm_T) : Option (Int32 × hm_T) :=
  (hm_pi 4 25 0 h x0 (0 : Int32)).bind (fun h1 => (hm_gi 4 25 5 h1 x0).bind (fun v2 => (if v2 = 0 then some ((-4 : Int32), h1) else (if x1 = (-1 : Int32) then (hm_gi 4 25 16 h1 x0).bind (fun v20 => some (v20, h1)) else (hm_gi 4 25 16 h1 x0).bind (fun v5 => hm_and (f_R_in F x1 (0 : Int32) (v5 - (1 : Int32)) h1) (fun v6 h6 => (if v6 = 0 then some ((-2 : Int32), h6) else (if x2 = 0 then (hm_gr 4 25 17 h6 x0).bind (fun a18 => (hm_ild h6 a18 x1).bind (fun v19 => some (v19, h6))) else (if x2 = (1 : Int32) then (hm_gr 4 25 18 h6 x0).bind (fun a16 => (hm_ild h6 a16 x1).bind (fun v17 => some (v17, h6))) else (if x2 = (2 : Int32) then (hm_gr 4 25 19 h6 x0).bind (fun a14 => (hm_ild h6 a14 x1).bind (fun v15 => some (v15, h6))) else (if x2 = (3 : Int32) then (hm_gr 4 25 20 h6 x0).bind (fun a12 => (hm_ild h6 a12 x1).bind (fun v13 => some (v13, h6))) else some ((-2 : Int32), h6))))))))))))
theorem m_f_R_shortcut {F : Nat} {r : Int32} {h h' : hm_T} {x0 : Nat} {x1 : Int32} {x2 : Int32} (hf : f_R_shortcut F x0 x1 x2 h = some (r, h')) : hm_le h h' := by
  unfold f_R_shortcut at hf
  obtain ⟨h1, eh1, hf⟩ := hm_bind hf
  have mh1 := hm_le.pi eh1
  obtain ⟨v2, ev2, hf⟩ := hm_bind hf
  by_cases z3 : v2 = 0
  · have hf := hm_ifp hf z3
    exact mh1.tr ((hm_le.ret hf))
  · have hf := hm_ifn hf z3
    by_cases z4 : x1 = (-1 : Int32)
    · have hf := hm_ifp hf z4
      obtain ⟨v20, ev20, hf⟩ := hm_bind hf
      exact mh1.tr ((hm_le.ret hf))
    · have hf := hm_ifn hf z4
      obtain ⟨v5, ev5, hf⟩ := hm_bind hf
      obtain ⟨v6, h6, eh6, hf⟩ := hm_and_of hf
      have mh6 := m_f_R_in eh6
      by_cases z7 : v6 = 0
      · have hf := hm_ifp hf z7
        exact mh1.tr (mh6.tr ((hm_le.ret hf)))
      · have hf := hm_ifn hf z7
        by_cases z8 : x2 = 0
        · have hf := hm_ifp hf z8
          obtain ⟨a18, ea18, hf⟩ := hm_bind hf
          obtain ⟨v19, ev19, hf⟩ := hm_bind hf
          exact mh1.tr (mh6.tr ((hm_le.ret hf)))
        · have hf := hm_ifn hf z8
          by_cases z9 : x2 = (1 : Int32)
          · have hf := hm_ifp hf z9
            obtain ⟨a16, ea16, hf⟩ := hm_bind hf
            obtain ⟨v17, ev17, hf⟩ := hm_bind hf
            exact mh1.tr (mh6.tr ((hm_le.ret hf)))
          · have hf := hm_ifn hf z9
            by_cases z10 : x2 = (2 : Int32)
            · have hf := hm_ifp hf z10
              obtain ⟨a14, ea14, hf⟩ := hm_bind hf
              obtain ⟨v15, ev15, hf⟩ := hm_bind hf
              exact mh1.tr (mh6.tr ((hm_le.ret hf)))
            · have hf := hm_ifn hf z10
              by_cases z11 : x2 = (3 : Int32)
              · have hf := hm_ifp hf z11
                obtain ⟨a12, ea12, hf⟩ := hm_bind hf
                obtain ⟨v13, ev13, hf⟩ := hm_bind hf
                exact mh1.tr (mh6.tr ((hm_le.ret hf)))
              · have hf := hm_ifn hf z11
                exact mh1.tr (mh6.tr ((hm_le.ret hf)))
set_option maxRecDepth 20000 in
set_option maxHeartbeats 1000000 in
theorem w_f_R_shortcut {p : Program} {l : Launch} {e : Env} {R : Room} {s : State} {m : MethodId} {args : Array Value} {below : List Frame} {meth : Method} {c : Code} {E : hm_E} {n0 s0 F : Nat} {r : Int32} {h h' : hm_T} {x0 : Nat} {x1 : Int32} {x2 : Int32} (C : hm_C E prog_6_method_27_code 3 "DistanceLabelsModel" 1 22 n0 s0 (hm_n h') (hm_s h') p R s m args c) (hr : meth.sig.returnType = (some .int)) (hlk : meth.locks = false) (hf : f_R_shortcut F x0 x1 x2 h = some (r, h')) : hm_G E 3 n0 s0 (hm_n h') (hm_s h') p l e R s m args below meth c (MQ below (hm_Qc E (some (.int r)) h') args s (hm_n h' - n0) (hm_s h' - s0) (fun q => E.2.2 ≤ q)) 0 [(0, .ref x0), (1, .int x1), (2, .int x2)] [] h := by
  unfold f_R_shortcut at hf
  refine hm_aload_n C d_R_shortcut_0 rfl 0 rfl ?_
  refine hm_iconst (v := (0 : Int32)) C d_R_shortcut_1 (by decide) ?_
  obtain ⟨h1, eh1, hf⟩ := hm_bind hf
  refine hm_putI C F_4 0 (by decide) rfl k_158 (Or.inl rfl) rfl d_R_shortcut_2 eh1 ?_
  refine hm_aload_n C d_R_shortcut_5 rfl 0 rfl ?_
  obtain ⟨v2, ev2, hf⟩ := hm_bind hf
  refine hm_getI C F_4 5 (by decide) rfl k_165 d_R_shortcut_6 ev2 ?_
  refine hm_if_ne (tgt := 15) C d_R_shortcut_9 (by decide) (fun z3 => ?_) (fun z3 => ?_)
  · have hf := hm_ifn hf z3
    refine hm_iload_n C d_R_shortcut_15 rfl 1 rfl ?_
    refine hm_iconst (v := (-1 : Int32)) C d_R_shortcut_16 (by decide) ?_
    refine hm_icmp_ne (tgt := 25) C d_R_shortcut_17 (by decide) (fun z4 => ?_) (fun z4 => ?_)
    · have hf := hm_ifn hf z4
      refine hm_iload_n C d_R_shortcut_25 rfl 1 rfl ?_
      refine hm_iconst (v := (0 : Int32)) C d_R_shortcut_26 (by decide) ?_
      refine hm_aload_n C d_R_shortcut_27 rfl 0 rfl ?_
      obtain ⟨v5, ev5, hf⟩ := hm_bind hf
      refine hm_getI C F_4 16 (by decide) rfl k_178 d_R_shortcut_28 ev5 ?_
      refine hm_iconst (v := (1 : Int32)) C d_R_shortcut_31 (by decide) ?_
      refine hm_isub C d_R_shortcut_32 ?_
      obtain ⟨v6, h6, eh6, hf⟩ := hm_and_of hf
      refine hm_callS (vs := [.int x1, .int (0 : Int32), .int (v5 - (1 : Int32))]) (st := []) (sb := [.int v6]) C (c_R_in eh6) Y_R_in k_161 k_160 (by decide) (by decide) rfl (Nat.le_of_ble_eq_true rfl) d_R_shortcut_33 rfl rfl ?_
      refine hm_if_ne (tgt := 42) C d_R_shortcut_36 (by decide) (fun z7 => ?_) (fun z7 => ?_)
      · have hf := hm_ifn hf z7
        refine hm_iload_n C d_R_shortcut_42 rfl 2 rfl ?_
        refine hm_if_ne (tgt := 55) C d_R_shortcut_43 (by decide) (fun z8 => ?_) (fun z8 => ?_)
        · have hf := hm_ifn hf z8
          refine hm_iload_n C d_R_shortcut_55 rfl 2 rfl ?_
          refine hm_iconst (v := (1 : Int32)) C d_R_shortcut_56 (by decide) ?_
          refine hm_icmp_ne (tgt := 69) C d_R_shortcut_57 (by decide) (fun z9 => ?_) (fun z9 => ?_)
          · have hf := hm_ifn hf z9
            refine hm_iload_n C d_R_shortcut_69 rfl 2 rfl ?_
            refine hm_iconst (v := (2 : Int32)) C d_R_shortcut_70 (by decide) ?_
            refine hm_icmp_ne (tgt := 83) C d_R_shortcut_71 (by decide) (fun z10 => ?_) (fun z10 => ?_)
            · have hf := hm_ifn hf z10
              refine hm_iload_n C d_R_shortcut_83 rfl 2 rfl ?_
              refine hm_iconst (v := (3 : Int32)) C d_R_shortcut_84 (by decide) ?_
              refine hm_icmp_ne (tgt := 97) C d_R_shortcut_85 (by decide) (fun z11 => ?_) (fun z11 => ?_)
              · have hf := hm_ifn hf z11
                refine hm_bipush (v := (-2 : Int32)) C d_R_shortcut_97 (by decide) ?_
                exact hm_iret C hr hlk d_R_shortcut_99 hf
              · have hf := hm_ifp hf z11
                refine hm_aload_n C d_R_shortcut_88 rfl 0 rfl ?_
                obtain ⟨a12, ea12, hf⟩ := hm_bind hf
                refine hm_getR C F_4 20 (by decide) rfl k_155 d_R_shortcut_89 ea12 ?_
                refine hm_iload_n C d_R_shortcut_92 rfl 1 rfl ?_
                obtain ⟨v13, ev13, hf⟩ := hm_bind hf
                refine hm_iaload C d_R_shortcut_93 ev13 ?_
                refine hm_goto (tgt := 99) C d_R_shortcut_94 (by decide) ?_
                exact hm_iret C hr hlk d_R_shortcut_99 hf
            · have hf := hm_ifp hf z10
              refine hm_aload_n C d_R_shortcut_74 rfl 0 rfl ?_
              obtain ⟨a14, ea14, hf⟩ := hm_bind hf
              refine hm_getR C F_4 19 (by decide) rfl k_154 d_R_shortcut_75 ea14 ?_
              refine hm_iload_n C d_R_shortcut_78 rfl 1 rfl ?_
              obtain ⟨v15, ev15, hf⟩ := hm_bind hf
              refine hm_iaload C d_R_shortcut_79 ev15 ?_
              refine hm_goto (tgt := 99) C d_R_shortcut_80 (by decide) ?_
              exact hm_iret C hr hlk d_R_shortcut_99 hf
          · have hf := hm_ifp hf z9
            refine hm_aload_n C d_R_shortcut_60 rfl 0 rfl ?_
            obtain ⟨a16, ea16, hf⟩ := hm_bind hf
            refine hm_getR C F_4 18 (by decide) rfl k_153 d_R_shortcut_61 ea16 ?_
            refine hm_iload_n C d_R_shortcut_64 rfl 1 rfl ?_
            obtain ⟨v17, ev17, hf⟩ := hm_bind hf
            refine hm_iaload C d_R_shortcut_65 ev17 ?_
            refine hm_goto (tgt := 99) C d_R_shortcut_66 (by decide) ?_
            exact hm_iret C hr hlk d_R_shortcut_99 hf
        · have hf := hm_ifp hf z8
          refine hm_aload_n C d_R_shortcut_46 rfl 0 rfl ?_
          obtain ⟨a18, ea18, hf⟩ := hm_bind hf
          refine hm_getR C F_4 17 (by decide) rfl k_152 d_R_shortcut_47 ea18 ?_
          refine hm_iload_n C d_R_shortcut_50 rfl 1 rfl ?_
          obtain ⟨v19, ev19, hf⟩ := hm_bind hf
          refine hm_iaload C d_R_shortcut_51 ev19 ?_
          refine hm_goto (tgt := 99) C d_R_shortcut_52 (by decide) ?_
          exact hm_iret C hr hlk d_R_shortcut_99 hf
      · have hf := hm_ifp hf z7
        refine hm_bipush (v := (-2 : Int32)) C d_R_shortcut_39 (by decide) ?_
        exact hm_iret C hr hlk d_R_shortcut_41 hf
    · have hf := hm_ifp hf z4
      refine hm_aload_n C d_R_shortcut_20 rfl 0 rfl ?_
      obtain ⟨v20, ev20, hf⟩ := hm_bind hf
      refine hm_getI C F_4 16 (by decide) rfl k_178 d_R_shortcut_21 ev20 ?_
      exact hm_iret C hr hlk d_R_shortcut_24 hf
  · have hf := hm_ifp hf z3
    refine hm_bipush (v := (-4 : Int32)) C d_R_shortcut_12 (by decide) ?_
    exact hm_iret C hr hlk d_R_shortcut_14 hf
set_option maxRecDepth 20000 in
theorem c_R_shortcut {E : hm_E} {l : Launch} {F : Nat} {r : Int32} {h h' : hm_T} {x0 : Nat} {x1 : Int32} {x2 : Int32} (hf : f_R_shortcut F x0 x1 x2 h = some (r, h')) : hm_M E l y_R_shortcut prog_6_method_27_code 3 (some .int) 1 22 [.ref x0, .int x1, .int x2] h (some (.int r)) h' :=
  hm_enter (by decide +kernel) (Nat.le_of_ble_eq_true rfl) (m_f_R_shortcut hf) (fun p e R s m below meth c C hr hlk hin => w_f_R_shortcut C hr hlk hf)
