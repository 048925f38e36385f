def f_R_climb (F : Nat) (x0 : Nat) (x1 : Int32) (x2 : Int32) (h : hm_T) : Option (Int32 × hm_T) :=
  (hm_pi 4 25 0 h x0 (0 : Int32)).bind (fun h1 => (hm_gi 4 25 5 h1 x0).bind (fun v2 => (if v2 = 0 then some ((-4 : Int32), h1) else (hm_is 4 25 h1 x0).bind (fun u4 => hm_and (f_R_noPair F x0 x1 x2 h1) (fun v5 h5 => (if v5 = 0 then (hm_gr 4 25 15 h5 x0).bind (fun a7 => (hm_ild h5 a7 (((16 : Int32) * x1) + x2)).bind (fun v8 => (if (1000000 : Int32) ≤ v8 then some ((-1 : Int32), h5) else (hm_gr 4 25 15 h5 x0).bind (fun a10 => (hm_ild h5 a10 (((16 : Int32) * x1) + x2)).bind (fun v11 => some (v11, h5)))))) else some ((-2 : Int32), h5)))))))
theorem m_f_R_climb {F : Nat} {r : Int32} {h h' : hm_T} {x0 : Nat} {x1 : Int32} {x2 : Int32} (hf : f_R_climb F x0 x1 x2 h = some (r, h')) : hm_le h h' := by
  unfold f_R_climb at hf
  obtain ⟨h1, eh1, hf⟩ := hm_bind hf
  have mh1 := hm_le.pi eh1
  obtain ⟨v2, ev2, hf⟩ := hm_bind hf
  by_cases z3 : v2 = 0
  · have hf := hm_ifp hf z3
    exact mh1.tr ((hm_le.ret hf))
  · have hf := hm_ifn hf z3
    obtain ⟨u4, eu4, hf⟩ := hm_bind hf
    obtain ⟨v5, h5, eh5, hf⟩ := hm_and_of hf
    have mh5 := m_f_R_noPair eh5
    by_cases z6 : v5 = 0
    · have hf := hm_ifp hf z6
      obtain ⟨a7, ea7, hf⟩ := hm_bind hf
      obtain ⟨v8, ev8, hf⟩ := hm_bind hf
      by_cases z9 : (1000000 : Int32) ≤ v8
      · have hf := hm_ifp hf z9
        exact mh1.tr (mh5.tr ((hm_le.ret hf)))
      · have hf := hm_ifn hf z9
        obtain ⟨a10, ea10, hf⟩ := hm_bind hf
        obtain ⟨v11, ev11, hf⟩ := hm_bind hf
        exact mh1.tr (mh5.tr ((hm_le.ret hf)))
    · have hf := hm_ifn hf z6
      exact mh1.tr (mh5.tr ((hm_le.ret hf)))
set_option maxRecDepth 20000 in
set_option maxHeartbeats 1000000 in
theorem w_f_R_climb {p : Program} {l : Launch} {e : Env} {R : Room} {s : State} {m : MethodId} {args : Array Value} {below : List Frame} {meth : Method} {c : Code} {E : hm_E} {n0 s0 F : Nat} {r : Int32} {h h' : hm_T} {x0 : Nat} {x1 : Int32} {x2 : Int32} (C : hm_C E prog_6_method_28_code 3 "DistanceLabelsModel" 3 65 n0 s0 (hm_n h') (hm_s h') p R s m args c) (hr : meth.sig.returnType = (some .int)) (hlk : meth.locks = false) (hf : f_R_climb F x0 x1 x2 h = some (r, h')) : hm_G E 3 n0 s0 (hm_n h') (hm_s h') p l e R s m args below meth c (MQ below (hm_Qc E (some (.int r)) h') args s (hm_n h' - n0) (hm_s h' - s0) (fun q => E.2.2 ≤ q)) 0 [(0, .ref x0), (1, .int x1), (2, .int x2)] [] h := by
  unfold f_R_climb at hf
  refine hm_aload_n C d_R_climb_0 rfl 0 rfl ?_
  refine hm_iconst (v := (0 : Int32)) C d_R_climb_1 (by decide) ?_
  obtain ⟨h1, eh1, hf⟩ := hm_bind hf
  refine hm_putI C F_4 0 (by decide) rfl k_158 (Or.inl rfl) rfl d_R_climb_2 eh1 ?_
  refine hm_aload_n C d_R_climb_5 rfl 0 rfl ?_
  obtain ⟨v2, ev2, hf⟩ := hm_bind hf
  refine hm_getI C F_4 5 (by decide) rfl k_165 d_R_climb_6 ev2 ?_
  refine hm_if_ne (tgt := 15) C d_R_climb_9 (by decide) (fun z3 => ?_) (fun z3 => ?_)
  · have hf := hm_ifn hf z3
    refine hm_aload_n C d_R_climb_15 rfl 0 rfl ?_
    refine hm_iload_n C d_R_climb_16 rfl 1 rfl ?_
    refine hm_iload_n C d_R_climb_17 rfl 2 rfl ?_
    obtain ⟨u4, eu4, hf⟩ := hm_bind hf
    obtain ⟨v5, h5, eh5, hf⟩ := hm_and_of hf
    refine hm_callV (vs := [.int x1, .int x2]) (st := []) (sb := [.int v5]) C (c_R_noPair eh5) Y_R_noPair F_4 eu4 k_167 k_168 k_166 (by decide) (by decide) rfl (Nat.le_of_ble_eq_true rfl) d_R_climb_18 rfl rfl ?_
    refine hm_if_eq (tgt := 29) C d_R_climb_21 (by decide) (fun z6 => ?_) (fun z6 => ?_)
    · have hf := hm_ifp hf z6
      refine hm_aload_n C d_R_climb_29 rfl 0 rfl ?_
      obtain ⟨a7, ea7, hf⟩ := hm_bind hf
      refine hm_getR C F_4 15 (by decide) rfl k_151 d_R_climb_30 ea7 ?_
      refine hm_bipush (v := (16 : Int32)) C d_R_climb_33 (by decide) ?_
      refine hm_iload_n C d_R_climb_35 rfl 1 rfl ?_
      refine hm_imul C d_R_climb_36 ?_
      refine hm_iload_n C d_R_climb_37 rfl 2 rfl ?_
      refine hm_iadd C d_R_climb_38 ?_
      obtain ⟨v8, ev8, hf⟩ := hm_bind hf
      refine hm_iaload C d_R_climb_39 ev8 ?_
      refine hm_ldc (v := (1000000 : Int32)) C k_139 d_R_climb_40 ?_
      refine hm_icmp_ge (tgt := 59) C d_R_climb_42 (by decide) (fun z9 => ?_) (fun z9 => ?_)
      · have hf := hm_ifp hf z9
        refine hm_iconst (v := (-1 : Int32)) C d_R_climb_59 (by decide) ?_
        exact hm_iret C hr hlk d_R_climb_60 hf
      · have hf := hm_ifn hf z9
        refine hm_aload_n C d_R_climb_45 rfl 0 rfl ?_
        obtain ⟨a10, ea10, hf⟩ := hm_bind hf
        refine hm_getR C F_4 15 (by decide) rfl k_151 d_R_climb_46 ea10 ?_
        refine hm_bipush (v := (16 : Int32)) C d_R_climb_49 (by decide) ?_
        refine hm_iload_n C d_R_climb_51 rfl 1 rfl ?_
        refine hm_imul C d_R_climb_52 ?_
        refine hm_iload_n C d_R_climb_53 rfl 2 rfl ?_
        refine hm_iadd C d_R_climb_54 ?_
        obtain ⟨v11, ev11, hf⟩ := hm_bind hf
        refine hm_iaload C d_R_climb_55 ev11 ?_
        refine hm_goto (tgt := 60) C d_R_climb_56 (by decide) ?_
        exact hm_iret C hr hlk d_R_climb_60 hf
    · have hf := hm_ifn hf z6
      refine hm_bipush (v := (-2 : Int32)) C d_R_climb_24 (by decide) ?_
      refine hm_goto (tgt := 60) C d_R_climb_26 (by decide) ?_
      exact hm_iret C hr hlk d_R_climb_60 hf
  · have hf := hm_ifp hf z3
    refine hm_bipush (v := (-4 : Int32)) C d_R_climb_12 (by decide) ?_
    exact hm_iret C hr hlk d_R_climb_14 hf
set_option maxRecDepth 20000 in
theorem c_R_climb {E : hm_E} {l : Launch} {F : Nat} {r : Int32} {h h' : hm_T} {x0 : Nat} {x1 : Int32} {x2 : Int32} (hf : f_R_climb F x0 x1 x2 h = some (r, h')) : hm_M E l y_R_climb prog_6_method_28_code 3 (some .int) 3 65 [.ref x0, .int x1, .int x2] h (some (.int r)) h' :=
  hm_enter (by decide +kernel) (Nat.le_of_ble_eq_true rfl) (m_f_R_climb hf) (fun p e R s m below meth c C hr hlk hin => w_f_R_climb C hr hlk hf)
def f_R_next_44 (F : Nat) (k2 : Nat → Int32 → Int32 → Int32 → hm_T → Option (Int32 × hm_T)) (x0 : Nat) (x1 : Int32) (x2 : Int32) (x3 : Int32) (h : hm_T) : Option (Int32 × hm_T) :=
  k2 x0 x1 x2 (x3 + (1 : Int32)) h
def g_R_next_2 (F : Nat) (k2 : Nat → Int32 → Int32 → Int32 → hm_T → Option (Int32 × hm_T)) (x0 : Nat) (x1 : Int32) (x2 : Int32) (x3 : Int32) (h : hm_T) : Option (Int32 × hm_T) :=
  (if x3 = x1 then f_R_next_44 F k2 x0 x1 x2 x3 h else (hm_gr 4 25 2 h x0).bind (fun a2 => (hm_ild h a2 (((16 : Int32) * x1) + x3)).bind (fun v3 => (hm_gr 4 25 6 h x0).bind (fun a4 => (hm_ild h a4 (((16 : Int32) * x3) + x2)).bind (fun v5 => (hm_gr 4 25 6 h x0).bind (fun a6 => (hm_ild h a6 (((16 : Int32) * x1) + x2)).bind (fun v7 => (if (v3 + v5) = v7 then some (x3, h) else f_R_next_44 F k2 x0 x1 x2 x3 h))))))))
def f_R_next_2 (F : Nat) : Nat → Nat → Int32 → Int32 → Int32 → hm_T → Option (Int32 × hm_T)
  | 0 => fun _ _ _ _ _ => none
  | n + 1 => g_R_next_2 F (f_R_next_2 F n)
def f_R_next (F : Nat) (x0 : Nat) (x1 : Int32) (x2 : Int32) (h : hm_T) : Option (Int32 × hm_T) :=
  f_R_next_2 F F x0 x1 x2 (0 : Int32) h
theorem m_f_R_next_44 {F : Nat} {r : Int32} {h h' : hm_T} {x0 : Nat} {x1 : Int32} {x2 : Int32} {x3 : Int32} {k2 : Nat → Int32 → Int32 → Int32 → hm_T → Option (Int32 × hm_T)} (hk2 : ∀ (y0 : Nat) (y1 : Int32) (y2 : Int32) (y3 : Int32) (g : hm_T), k2 y0 y1 y2 y3 g = some (r, h') → hm_le g h') (hf : f_R_next_44 F k2 x0 x1 x2 x3 h = some (r, h')) : hm_le h h' := by
  unfold f_R_next_44 at hf
  exact (hk2 _ _ _ _ _ hf)
theorem m_g_R_next_2 {F : Nat} {r : Int32} {h h' : hm_T} {x0 : Nat} {x1 : Int32} {x2 : Int32} {x3 : Int32} {k2 : Nat → Int32 → Int32 → Int32 → hm_T → Option (Int32 × hm_T)} (hk2 : ∀ (y0 : Nat) (y1 : Int32) (y2 : Int32) (y3 : Int32) (g : hm_T), k2 y0 y1 y2 y3 g = some (r, h') → hm_le g h') (hf : g_R_next_2 F k2 x0 x1 x2 x3 h = some (r, h')) : hm_le h h' := by
  unfold g_R_next_2 at hf
  by_cases z1 : x3 = x1
  · have hf := hm_ifp hf z1
    exact (m_f_R_next_44 hk2 hf)
  · have hf := hm_ifn hf z1
    obtain ⟨a2, ea2, hf⟩ := hm_bind hf
    obtain ⟨v3, ev3, hf⟩ := hm_bind hf
    obtain ⟨a4, ea4, hf⟩ := hm_bind hf
    obtain ⟨v5, ev5, hf⟩ := hm_bind hf
    obtain ⟨a6, ea6, hf⟩ := hm_bind hf
    obtain ⟨v7, ev7, hf⟩ := hm_bind hf
    by_cases z8 : (v3 + v5) = v7
    · have hf := hm_ifp hf z8
      exact (hm_le.ret hf)
    · have hf := hm_ifn hf z8
      exact (m_f_R_next_44 hk2 hf)
theorem m_R_next_2L {F : Nat} {r : Int32} {h' : hm_T} : ∀ (N : Nat) (x0 : Nat) (x1 : Int32) (x2 : Int32) (x3 : Int32) (h : hm_T), f_R_next_2 F N x0 x1 x2 x3 h = some (r, h') → hm_le h h' := by
  intro N
  induction N with
  | zero => intro _ _ _ _ _ hf; cases hf
  | succ n ih => intro x0 x1 x2 x3 h hf; exact m_g_R_next_2 ih hf
theorem m_f_R_next {F : Nat} {r : Int32} {h h' : hm_T} {x0 : Nat} {x1 : Int32} {x2 : Int32} (hf : f_R_next F x0 x1 x2 h = some (r, h')) : hm_le h h' := by
  unfold f_R_next at hf
  exact (m_R_next_2L _ _ _ _ _ _ hf)
set_option maxRecDepth 20000 in
set_option maxHeartbeats 1000000 in
theorem w_f_R_next_44 {p : Program} {l : Launch} {e : Env} {R : Room} {s : State} {m : MethodId} {args : Array Value} {below : List Frame} {meth : Method} {c : Code} {E : hm_E} {n0 s0 F : Nat} {r : Int32} {h h' : hm_T} {x0 : Nat} {x1 : Int32} {x2 : Int32} {x3 : Int32} {k2 : Nat → Int32 → Int32 → Int32 → hm_T → Option (Int32 × hm_T)} (C : hm_C E prog_6_method_29_code 4 "DistanceLabelsModel" 0 0 n0 s0 (hm_n h') (hm_s h') p R s m args c) (hr : meth.sig.returnType = (some .int)) (hlk : meth.locks = false) (hk2 : ∀ (y0 : Nat) (y1 : Int32) (y2 : Int32) (y3 : Int32) (g : hm_T), k2 y0 y1 y2 y3 g = some (r, h') → hm_G E 4 n0 s0 (hm_n h') (hm_s h') p l e R s m args below meth c (MQ below (hm_Qc E (some (.int r)) h') args s (hm_n h' - n0) (hm_s h' - s0) (fun q => E.2.2 ≤ q)) 2 [(0, .ref y0), (1, .int y1), (2, .int y2), (3, .int y3)] [] g) (hf : f_R_next_44 F k2 x0 x1 x2 x3 h = some (r, h')) : hm_G E 4 n0 s0 (hm_n h') (hm_s h') p l e R s m args below meth c (MQ below (hm_Qc E (some (.int r)) h') args s (hm_n h' - n0) (hm_s h' - s0) (fun q => E.2.2 ≤ q)) 44 [(0, .ref x0), (1, .int x1), (2, .int x2), (3, .int x3)] [] h := by
  unfold f_R_next_44 at hf
  refine hm_iinc (v := (x3 + (1 : Int32))) (lv' := [(3, .int (x3 + (1 : Int32))), (0, .ref x0), (1, .int x1), (2, .int x2)]) C d_R_next_44 3 rfl rfl (by decide) rfl ?_
  refine hm_goto (tgt := 2) C d_R_next_47 (by decide) ?_
  refine hm_sub (lv' := [(0, .ref x0), (1, .int x1), (2, .int x2), (3, .int (x3 + (1 : Int32)))]) [1, 2, 3, 0] rfl ?_
  exact hk2 _ _ _ _ _ hf
set_option maxRecDepth 20000 in
set_option maxHeartbeats 1000000 in
theorem w_g_R_next_2 {p : Program} {l : Launch} {e : Env} {R : Room} {s : State} {m : MethodId} {args : Array Value} {below : List Frame} {meth : Method} {c : Code} {E : hm_E} {n0 s0 F : Nat} {r : Int32} {h h' : hm_T} {x0 : Nat} {x1 : Int32} {x2 : Int32} {x3 : Int32} {k2 : Nat → Int32 → Int32 → Int32 → hm_T → Option (Int32 × hm_T)} (C : hm_C E prog_6_method_29_code 4 "DistanceLabelsModel" 0 0 n0 s0 (hm_n h') (hm_s h') p R s m args c) (hr : meth.sig.returnType = (some .int)) (hlk : meth.locks = false) (hk2 : ∀ (y0 : Nat) (y1 : Int32) (y2 : Int32) (y3 : Int32) (g : hm_T), k2 y0 y1 y2 y3 g = some (r, h') → hm_G E 4 n0 s0 (hm_n h') (hm_s h') p l e R s m args below meth c (MQ below (hm_Qc E (some (.int r)) h') args s (hm_n h' - n0) (hm_s h' - s0) (fun q => E.2.2 ≤ q)) 2 [(0, .ref y0), (1, .int y1), (2, .int y2), (3, .int y3)] [] g) (hf : g_R_next_2 F k2 x0 x1 x2 x3 h = some (r, h')) : hm_G E 4 n0 s0 (hm_n h') (hm_s h') p l e R s m args below meth c (MQ below (hm_Qc E (some (.int r)) h') args s (hm_n h' - n0) (hm_s h' - s0) (fun q => E.2.2 ≤ q)) 2 [(0, .ref x0), (1, .int x1), (2, .int x2), (3, .int x3)] [] h := by
  unfold g_R_next_2 at hf
  refine hm_iload_n C d_R_next_2 rfl 3 rfl ?_
  refine hm_iload_n C d_R_next_3 rfl 1 rfl ?_
  refine hm_icmp_eq (tgt := 44) C d_R_next_4 (by decide) (fun z1 => ?_) (fun z1 => ?_)
  · have hf := hm_ifp hf z1
    exact w_f_R_next_44 C hr hlk hk2 hf
  · have hf := hm_ifn hf z1
    refine hm_aload_n C d_R_next_7 rfl 0 rfl ?_
    obtain ⟨a2, ea2, hf⟩ := hm_bind hf
    refine hm_getR C F_4 2 (by decide) rfl k_138 d_R_next_8 ea2 ?_
    refine hm_bipush (v := (16 : Int32)) C d_R_next_11 (by decide) ?_
    refine hm_iload_n C d_R_next_13 rfl 1 rfl ?_
    refine hm_imul C d_R_next_14 ?_
    refine hm_iload_n C d_R_next_15 rfl 3 rfl ?_
    refine hm_iadd C d_R_next_16 ?_
    obtain ⟨v3, ev3, hf⟩ := hm_bind hf
    refine hm_iaload C d_R_next_17 ev3 ?_
    refine hm_aload_n C d_R_next_18 rfl 0 rfl ?_
    obtain ⟨a4, ea4, hf⟩ := hm_bind hf
    refine hm_getR C F_4 6 (by decide) rfl k_143 d_R_next_19 ea4 ?_
    refine hm_bipush (v := (16 : Int32)) C d_R_next_22 (by decide) ?_
    refine hm_iload_n C d_R_next_24 rfl 3 rfl ?_
    refine hm_imul C d_R_next_25 ?_
    refine hm_iload_n C d_R_next_26 rfl 2 rfl ?_
    refine hm_iadd C d_R_next_27 ?_
    obtain ⟨v5, ev5, hf⟩ := hm_bind hf
    refine hm_iaload C d_R_next_28 ev5 ?_
    refine hm_iadd C d_R_next_29 ?_
    refine hm_aload_n C d_R_next_30 rfl 0 rfl ?_
    obtain ⟨a6, ea6, hf⟩ := hm_bind hf
    refine hm_getR C F_4 6 (by decide) rfl k_143 d_R_next_31 ea6 ?_
    refine hm_bipush (v := (16 : Int32)) C d_R_next_34 (by decide) ?_
    refine hm_iload_n C d_R_next_36 rfl 1 rfl ?_
    refine hm_imul C d_R_next_37 ?_
    refine hm_iload_n C d_R_next_38 rfl 2 rfl ?_
    refine hm_iadd C d_R_next_39 ?_
    obtain ⟨v7, ev7, hf⟩ := hm_bind hf
    refine hm_iaload C d_R_next_40 ev7 ?_
    refine hm_icmp_eq (tgt := 50) C d_R_next_41 (by decide) (fun z8 => ?_) (fun z8 => ?_)
    · have hf := hm_ifp hf z8
      refine hm_iload_n C d_R_next_50 rfl 3 rfl ?_
      exact hm_iret C hr hlk d_R_next_51 hf
    · have hf := hm_ifn hf z8
      exact w_f_R_next_44 C hr hlk hk2 hf
theorem w_R_next_2L {p : Program} {l : Launch} {e : Env} {R : Room} {s : State} {m : MethodId} {args : Array Value} {below : List Frame} {meth : Method} {c : Code} {E : hm_E} {n0 s0 F : Nat} {r : Int32} {h' : hm_T} (C : hm_C E prog_6_method_29_code 4 "DistanceLabelsModel" 0 0 n0 s0 (hm_n h') (hm_s h') p R s m args c) (hr : meth.sig.returnType = (some .int)) (hlk : meth.locks = false) : ∀ (N : Nat) (x0 : Nat) (x1 : Int32) (x2 : Int32) (x3 : Int32) (h : hm_T), f_R_next_2 F N x0 x1 x2 x3 h = some (r, h') → hm_G E 4 n0 s0 (hm_n h') (hm_s h') p l e R s m args below meth c (MQ below (hm_Qc E (some (.int r)) h') args s (hm_n h' - n0) (hm_s h' - s0) (fun q => E.2.2 ≤ q)) 2 [(0, .ref x0), (1, .int x1), (2, .int x2), (3, .int x3)] [] h := by
  intro N
  induction N with
  | zero => intro _ _ _ _ _ hf; cases hf
  | succ n ih => intro x0 x1 x2 x3 h hf; exact w_g_R_next_2 C hr hlk ih hf
set_option maxRecDepth 20000 in
set_option maxHeartbeats 1000000 in
theorem w_f_R_next {p : Program} {l : Launch} {e : Env} {R : Room} {s : State} {m : MethodId} {args : Array Value} {below : List Frame} {meth : Method} {c : Code} {E : hm_E} {n0 s0 F : Nat} {r : Int32} {h h' : hm_T} {x0 : Nat} {x1 : Int32} {x2 : Int32} (C : hm_C E prog_6_method_29_code 4 "DistanceLabelsModel" 0 0 n0 s0 (hm_n h') (hm_s h') p R s m args c) (hr : meth.sig.returnType = (some .int)) (hlk : meth.locks = false) (hf : f_R_next F x0 x1 x2 h = some (r, h')) : hm_G E 4 n0 s0 (hm_n h') (hm_s h') p l e R s m args below meth c (MQ below (hm_Qc E (some (.int r)) h') args s (hm_n h' - n0) (hm_s h' - s0) (fun q => E.2.2 ≤ q)) 0 [(0, .ref x0), (1, .int x1), (2, .int x2)] [] h := by
  unfold f_R_next at hf
  refine hm_iconst (v := (0 : Int32)) C d_R_next_0 (by decide) ?_
  refine hm_istore_n (lv' := [(3, .int (0 : Int32)), (0, .ref x0), (1, .int x1), (2, .int x2)]) C d_R_next_1 rfl (by decide) rfl ?_
  refine hm_sub (lv' := [(0, .ref x0), (1, .int x1), (2, .int x2), (3, .int (0 : Int32))]) [1, 2, 3, 0] rfl ?_
  exact w_R_next_2L C hr hlk _ _ _ _ _ _ hf
set_option maxRecDepth 20000 in
theorem c_R_next {E : hm_E} {l : Launch} {F : Nat} {r : Int32} {h h' : hm_T} {x0 : Nat} {x1 : Int32} {x2 : Int32} (hf : f_R_next F x0 x1 x2 h = some (r, h')) : hm_M E l y_R_next prog_6_method_29_code 4 (some .int) 0 0 [.ref x0, .int x1, .int x2] h (some (.int r)) h' :=
  hm_enter (by decide +kernel) (Nat.le_of_ble_eq_true rfl) (m_f_R_next hf) (fun p e R s m below meth c C hr hlk hin => w_f_R_next C hr hlk hf)
def f_R_way_78 (F : Nat) (x3 : Int32) (x4 : Int32) (x5 : Int32) (h : hm_T) : Option (Int32 × hm_T) :=
  (if x3 = (-1 : Int32) then some ((x5 + (1 : Int32)), h) else (if x5 = x3 then some (x4, h) else some ((-2 : Int32), h)))
def g_R_way_51 (F : Nat) (k51 : Nat → Int32 → Int32 → Int32 → Int32 → hm_T → Option (Int32 × hm_T)) (x0 : Nat) (x2 : Int32) (x3 : Int32) (x4 : Int32) (x5 : Int32) (h : hm_T) : Option (Int32 × hm_T) :=
  (if x4 = x2 then f_R_way_78 F x3 x4 x5 h else (if x5 = x3 then f_R_way_78 F x3 x4 x5 h else (hm_is 4 25 h x0).bind (fun u3 => hm_and (f_R_next F x0 x4 x2 h) (fun v4 h4 => k51 x0 x2 x3 v4 (x5 + (1 : Int32)) h4))))
def f_R_way_51 (F : Nat) : Nat → Nat → Int32 → Int32 → Int32 → Int32 → hm_T → Option (Int32 × hm_T)
  | 0 => fun _ _ _ _ _ _ => none
  | n + 1 => g_R_way_51 F (f_R_way_51 F n)
def f_R_way (F : Nat) (x0 : Nat) (x1 : Int32) (x2 : Int32) (x3 : Int32) (h : hm_T) : Option (Int32 × hm_T) :=
  (hm_pi 4 25 0 h x0 (0 : Int32)).bind (fun h1 => (hm_gi 4 25 5 h1 x0).bind (fun v2 => (if v2 = 0 then some ((-4 : Int32), h1) else (hm_is 4 25 h1 x0).bind (fun u4 => hm_and (f_R_noPair F x0 x1 x2 h1) (fun v5 h5 => (if v5 = 0 then (hm_gr 4 25 6 h5 x0).bind (fun a7 => (hm_ild h5 a7 (((16 : Int32) * x1) + x2)).bind (fun v8 => (if v8 < (1000000 : Int32) then f_R_way_51 F F x0 x2 x3 x1 (0 : Int32) h5 else some ((-1 : Int32), h5)))) else some ((-2 : Int32), h5)))))))
theorem m_f_R_way_78 {F : Nat} {r : Int32} {h h' : hm_T} {x3 : Int32} {x4 : Int32} {x5 : Int32} (hf : f_R_way_78 F x3 x4 x5 h = some (r, h')) : hm_le h h' := by
  unfold f_R_way_78 at hf
  by_cases z1 : x3 = (-1 : Int32)
  · have hf := hm_ifp hf z1
    exact (hm_le.ret hf)
  · have hf := hm_ifn hf z1
    by_cases z2 : x5 = x3
    · have hf := hm_ifp hf z2
      exact (hm_le.ret hf)
    · have hf := hm_ifn hf z2
      exact (hm_le.ret hf)
theorem m_g_R_way_51 {F : Nat} {r : Int32} {h h' : hm_T} {x0 : Nat} {x2 : Int32} {x3 : Int32} {x4 : Int32} {x5 : Int32} {k51 : Nat → Int32 → Int32 → Int32 → Int32 → hm_T → Option (Int32 × hm_T)} (hk51 : ∀ (y0 : Nat) (y2 : Int32) (y3 : Int32) (y4 : Int32) (y5 : Int32) (g : hm_T), k51 y0 y2 y3 y4 y5 g = some (r, h') → hm_le g h') (hf : g_R_way_51 F k51 x0 x2 x3 x4 x5 h = some (r, h')) : hm_le h h' := by
  unfold g_R_way_51 at hf
  by_cases z1 : x4 = x2
  · have hf := hm_ifp hf z1
    exact (m_f_R_way_78 hf)
  · have hf := hm_ifn hf z1
    by_cases z2 : x5 = x3
    · have hf := hm_ifp hf z2
      exact (m_f_R_way_78 hf)
    · have hf := hm_ifn hf z2
      obtain ⟨u3, eu3, hf⟩ := hm_bind hf
      obtain ⟨v4, h4, eh4, hf⟩ := hm_and_of hf
      have mh4 := m_f_R_next eh4
      exact mh4.tr ((hk51 _ _ _ _ _ _ hf))
theorem m_R_way_51L {F : Nat} {r : Int32} {h' : hm_T} : ∀ (N : Nat) (x0 : Nat) (x2 : Int32) (x3 : Int32) (x4 : Int32) (x5 : Int32) (h : hm_T), f_R_way_51 F N x0 x2 x3 x4 x5 h = some (r, h') → hm_le h h' := by
  intro N
  induction N with
  | zero => intro _ _ _ _ _ _ hf; cases hf
  | succ n ih => intro x0 x2 x3 x4 x5 h hf; exact m_g_R_way_51 ih hf
theorem m_f_R_way {F : Nat} {r : Int32} {h h' : hm_T} {x0 : Nat} {x1 : Int32} {x2 : Int32} {x3 : Int32} (hf : f_R_way F x0 x1 x2 x3 h = some (r, h')) : hm_le h h' := by
  unfold f_R_way at hf
  obtain ⟨h1, eh1, hf⟩ := hm_bind hf
  have mh1 := hm_le.pi eh1
  obtain ⟨v2, ev2, hf⟩ := hm_bind hf
  by_cases z3 : v2 = 0
  · have hf := hm_ifp hf z3
    exact mh1.tr ((hm_le.ret hf))
  · have hf := hm_ifn hf z3
    obtain ⟨u4, eu4, hf⟩ := hm_bind hf
    obtain ⟨v5, h5, eh5, hf⟩ := hm_and_of hf
    have mh5 := m_f_R_noPair eh5
    by_cases z6 : v5 = 0
    · have hf := hm_ifp hf z6
      obtain ⟨a7, ea7, hf⟩ := hm_bind hf
      obtain ⟨v8, ev8, hf⟩ := hm_bind hf
      by_cases z9 : v8 < (1000000 : Int32)
      · have hf := hm_ifp hf z9
        exact mh1.tr (mh5.tr ((m_R_way_51L _ _ _ _ _ _ _ hf)))
      · have hf := hm_ifn hf z9
        exact mh1.tr (mh5.tr ((hm_le.ret hf)))
    · have hf := hm_ifn hf z6
      exact mh1.tr (mh5.tr ((hm_le.ret hf)))
set_option maxRecDepth 20000 in
set_option maxHeartbeats 1000000 in
theorem w_f_R_way_78 {p : Program} {l : Launch} {e : Env} {R : Room} {s : State} {m : MethodId} {args : Array Value} {below : List Frame} {meth : Method} {c : Code} {E : hm_E} {n0 s0 F : Nat} {r : Int32} {h h' : hm_T} {x3 : Int32} {x4 : Int32} {x5 : Int32} (C : hm_C E prog_6_method_30_code 6 "DistanceLabelsModel" 3 65 n0 s0 (hm_n h') (hm_s h') p R s m args c) (hr : meth.sig.returnType = (some .int)) (hlk : meth.locks = false) (hf : f_R_way_78 F x3 x4 x5 h = some (r, h')) : hm_G E 6 n0 s0 (hm_n h') (hm_s h') p l e R s m args below meth c (MQ below (hm_Qc E (some (.int r)) h') args s (hm_n h' - n0) (hm_s h' - s0) (fun q => E.2.2 ≤ q)) 78 [(3, .int x3), (4, .int x4), (5, .int x5)] [] h := by
  unfold f_R_way_78 at hf
  refine hm_iload_n C d_R_way_78 rfl 0 rfl ?_
  refine hm_iconst (v := (-1 : Int32)) C d_R_way_79 (by decide) ?_
  refine hm_icmp_ne (tgt := 90) C d_R_way_80 (by decide) (fun z1 => ?_) (fun z1 => ?_)
  · have hf := hm_ifn hf z1
    refine hm_iload C d_R_way_90 2 rfl ?_
    refine hm_iload_n C d_R_way_92 rfl 0 rfl ?_
    refine hm_icmp_ne (tgt := 101) C d_R_way_93 (by decide) (fun z2 => ?_) (fun z2 => ?_)
    · have hf := hm_ifn hf z2
      refine hm_bipush (v := (-2 : Int32)) C d_R_way_101 (by decide) ?_
      exact hm_iret C hr hlk d_R_way_103 hf
    · have hf := hm_ifp hf z2
      refine hm_iload C d_R_way_96 1 rfl ?_
      refine hm_goto (tgt := 103) C d_R_way_98 (by decide) ?_
      exact hm_iret C hr hlk d_R_way_103 hf
  · have hf := hm_ifp hf z1
    refine hm_iload C d_R_way_83 2 rfl ?_
    refine hm_iconst (v := (1 : Int32)) C d_R_way_85 (by decide) ?_
    refine hm_iadd C d_R_way_86 ?_
    refine hm_goto (tgt := 103) C d_R_way_87 (by decide) ?_
    exact hm_iret C hr hlk d_R_way_103 hf
set_option maxRecDepth 20000 in
set_option maxHeartbeats 1000000 in
theorem w_g_R_way_51 {p : Program} {l : Launch} {e : Env} {R : Room} {s : State} {m : MethodId} {args : Array Value} {below : List Frame} {meth : Method} {c : Code} {E : hm_E} {n0 s0 F : Nat} {r : Int32} {h h' : hm_T} {x0 : Nat} {x2 : Int32} {x3 : Int32} {x4 : Int32} {x5 : Int32} {k51 : Nat → Int32 → Int32 → Int32 → Int32 → hm_T → Option (Int32 × hm_T)} (C : hm_C E prog_6_method_30_code 6 "DistanceLabelsModel" 3 65 n0 s0 (hm_n h') (hm_s h') p R s m args c) (hr : meth.sig.returnType = (some .int)) (hlk : meth.locks = false) (hk51 : ∀ (y0 : Nat) (y2 : Int32) (y3 : Int32) (y4 : Int32) (y5 : Int32) (g : hm_T), k51 y0 y2 y3 y4 y5 g = some (r, h') → hm_G E 6 n0 s0 (hm_n h') (hm_s h') p l e R s m args below meth c (MQ below (hm_Qc E (some (.int r)) h') args s (hm_n h' - n0) (hm_s h' - s0) (fun q => E.2.2 ≤ q)) 51 [(0, .ref y0), (2, .int y2), (3, .int y3), (4, .int y4), (5, .int y5)] [] g) (hf : g_R_way_51 F k51 x0 x2 x3 x4 x5 h = some (r, h')) : hm_G E 6 n0 s0 (hm_n h') (hm_s h') p l e R s m args below meth c (MQ below (hm_Qc E (some (.int r)) h') args s (hm_n h' - n0) (hm_s h' - s0) (fun q => E.2.2 ≤ q)) 51 [(0, .ref x0), (2, .int x2), (3, .int x3), (4, .int x4), (5, .int x5)] [] h := by
  unfold g_R_way_51 at hf
  refine hm_iload C d_R_way_51 3 rfl ?_
  refine hm_iload_n C d_R_way_53 rfl 1 rfl ?_
  refine hm_icmp_eq (tgt := 78) C d_R_way_54 (by decide) (fun z1 => ?_) (fun z1 => ?_)
  · have hf := hm_ifp hf z1
    refine hm_sub (lv' := [(3, .int x3), (4, .int x4), (5, .int x5)]) [2, 3, 4] rfl ?_
    exact w_f_R_way_78 C hr hlk hf
  · have hf := hm_ifn hf z1
    refine hm_iload C d_R_way_57 4 rfl ?_
    refine hm_iload_n C d_R_way_59 rfl 2 rfl ?_
    refine hm_icmp_eq (tgt := 78) C d_R_way_60 (by decide) (fun z2 => ?_) (fun z2 => ?_)
    · have hf := hm_ifp hf z2
      refine hm_sub (lv' := [(3, .int x3), (4, .int x4), (5, .int x5)]) [2, 3, 4] rfl ?_
      exact w_f_R_way_78 C hr hlk hf
    · have hf := hm_ifn hf z2
      refine hm_aload_n C d_R_way_63 rfl 0 rfl ?_
      refine hm_iload C d_R_way_64 3 rfl ?_
      refine hm_iload_n C d_R_way_66 rfl 1 rfl ?_
      obtain ⟨u3, eu3, hf⟩ := hm_bind hf
      obtain ⟨v4, h4, eh4, hf⟩ := hm_and_of hf
      refine hm_callV (vs := [.int x4, .int x2]) (st := []) (sb := [.int v4]) C (c_R_next eh4) Y_R_next F_4 eu3 k_199 k_200 k_198 (by decide) (by decide) rfl (Nat.le_of_ble_eq_true rfl) d_R_way_67 rfl rfl ?_
      refine hm_istore (lv' := [(4, .int v4), (0, .ref x0), (2, .int x2), (3, .int x3), (5, .int x5)]) C d_R_way_70 (by decide) rfl ?_
      refine hm_iinc (v := (x5 + (1 : Int32))) (lv' := [(5, .int (x5 + (1 : Int32))), (4, .int v4), (0, .ref x0), (2, .int x2), (3, .int x3)]) C d_R_way_72 4 rfl rfl (by decide) rfl ?_
      refine hm_goto (tgt := 51) C d_R_way_75 (by decide) ?_
      refine hm_sub (lv' := [(0, .ref x0), (2, .int x2), (3, .int x3), (4, .int v4), (5, .int (x5 + (1 : Int32)))]) [2, 3, 4, 1, 0] rfl ?_
      exact hk51 _ _ _ _ _ _ hf
theorem w_R_way_51L {p : Program} {l : Launch} {e : Env} {R : Room} {s : State} {m : MethodId} {args : Array Value} {below : List Frame} {meth : Method} {c : Code} {E : hm_E} {n0 s0 F : Nat} {r : Int32} {h' : hm_T} (C : hm_C E prog_6_method_30_code 6 "DistanceLabelsModel" 3 65 n0 s0 (hm_n h') (hm_s h') p R s m args c) (hr : meth.sig.returnType = (some .int)) (hlk : meth.locks = false) : ∀ (N : Nat) (x0 : Nat) (x2 : Int32) (x3 : Int32) (x4 : Int32) (x5 : Int32) (h : hm_T), f_R_way_51 F N x0 x2 x3 x4 x5 h = some (r, h') → hm_G E 6 n0 s0 (hm_n h') (hm_s h') p l e R s m args below meth c (MQ below (hm_Qc E (some (.int r)) h') args s (hm_n h' - n0) (hm_s h' - s0) (fun q => E.2.2 ≤ q)) 51 [(0, .ref x0), (2, .int x2), (3, .int x3), (4, .int x4), (5, .int x5)] [] h := by
  intro N
  induction N with
  | zero => intro _ _ _ _ _ _ hf; cases hf
  | succ n ih => intro x0 x2 x3 x4 x5 h hf; exact w_g_R_way_51 C hr hlk ih hf
set_option maxRecDepth 20000 in
set_option maxHeartbeats 1000000 in
theorem w_f_R_way {p : Program} {l : Launch} {e : Env} {R : Room} {s : State} {m : MethodId} {args : Array Value} {below : List Frame} {meth : Method} {c : Code} {E : hm_E} {n0 s0 F : Nat} {r : Int32} {h h' : hm_T} {x0 : Nat} {x1 : Int32} {x2 : Int32} {x3 : Int32} (C : hm_C E prog_6_method_30_code 6 "DistanceLabelsModel" 3 65 n0 s0 (hm_n h') (hm_s h') p R s m args c) (hr : meth.sig.returnType = (some .int)) (hlk : meth.locks = false) (hf : f_R_way F x0 x1 x2 x3 h = some (r, h')) : hm_G E 6 n0 s0 (hm_n h') (hm_s h') p l e R s m args below meth c (MQ below (hm_Qc E (some (.int r)) h') args s (hm_n h' - n0) (hm_s h' - s0) (fun q => E.2.2 ≤ q)) 0 [(0, .ref x0), (1, .int x1), (2, .int x2), (3, .int x3)] [] h := by
  unfold f_R_way at hf
  refine hm_aload_n C d_R_way_0 rfl 0 rfl ?_
  refine hm_iconst (v := (0 : Int32)) C d_R_way_1 (by decide) ?_
  obtain ⟨h1, eh1, hf⟩ := hm_bind hf
  refine hm_putI C F_4 0 (by decide) rfl k_158 (Or.inl rfl) rfl d_R_way_2 eh1 ?_
  refine hm_aload_n C d_R_way_5 rfl 0 rfl ?_
  obtain ⟨v2, ev2, hf⟩ := hm_bind hf
  refine hm_getI C F_4 5 (by decide) rfl k_165 d_R_way_6 ev2 ?_
  refine hm_if_ne (tgt := 15) C d_R_way_9 (by decide) (fun z3 => ?_) (fun z3 => ?_)
  · have hf := hm_ifn hf z3
    refine hm_aload_n C d_R_way_15 rfl 0 rfl ?_
    refine hm_iload_n C d_R_way_16 rfl 1 rfl ?_
    refine hm_iload_n C d_R_way_17 rfl 2 rfl ?_
    obtain ⟨u4, eu4, hf⟩ := hm_bind hf
    obtain ⟨v5, h5, eh5, hf⟩ := hm_and_of hf
    refine hm_callV (vs := [.int x1, .int x2]) (st := []) (sb := [.int v5]) C (c_R_noPair eh5) Y_R_noPair F_4 eu4 k_167 k_168 k_166 (by decide) (by decide) rfl (Nat.le_of_ble_eq_true rfl) d_R_way_18 rfl rfl ?_
    refine hm_if_eq (tgt := 27) C d_R_way_21 (by decide) (fun z6 => ?_) (fun z6 => ?_)
    · have hf := hm_ifp hf z6
      refine hm_aload_n C d_R_way_27 rfl 0 rfl ?_
      obtain ⟨a7, ea7, hf⟩ := hm_bind hf
      refine hm_getR C F_4 6 (by decide) rfl k_143 d_R_way_28 ea7 ?_
      refine hm_bipush (v := (16 : Int32)) C d_R_way_31 (by decide) ?_
      refine hm_iload_n C d_R_way_33 rfl 1 rfl ?_
      refine hm_imul C d_R_way_34 ?_
      refine hm_iload_n C d_R_way_35 rfl 2 rfl ?_
      refine hm_iadd C d_R_way_36 ?_
      obtain ⟨v8, ev8, hf⟩ := hm_bind hf
      refine hm_iaload C d_R_way_37 ev8 ?_
      refine hm_ldc (v := (1000000 : Int32)) C k_139 d_R_way_38 ?_
      refine hm_icmp_lt (tgt := 45) C d_R_way_40 (by decide) (fun z9 => ?_) (fun z9 => ?_)
      · have hf := hm_ifp hf z9
        refine hm_iload_n C d_R_way_45 rfl 1 rfl ?_
        refine hm_istore (lv' := [(4, .int x1), (0, .ref x0), (1, .int x1), (2, .int x2), (3, .int x3)]) C d_R_way_46 (by decide) rfl ?_
        refine hm_iconst (v := (0 : Int32)) C d_R_way_48 (by decide) ?_
        refine hm_istore (lv' := [(5, .int (0 : Int32)), (4, .int x1), (0, .ref x0), (1, .int x1), (2, .int x2), (3, .int x3)]) C d_R_way_49 (by decide) rfl ?_
        refine hm_sub (lv' := [(0, .ref x0), (2, .int x2), (3, .int x3), (4, .int x1), (5, .int (0 : Int32))]) [2, 4, 5, 1, 0] rfl ?_
        exact w_R_way_51L C hr hlk _ _ _ _ _ _ _ hf
      · have hf := hm_ifn hf z9
        refine hm_iconst (v := (-1 : Int32)) C d_R_way_43 (by decide) ?_
        exact hm_iret C hr hlk d_R_way_44 hf
    · have hf := hm_ifn hf z6
      refine hm_bipush (v := (-2 : Int32)) C d_R_way_24 (by decide) ?_
      exact hm_iret C hr hlk d_R_way_26 hf
  · have hf := hm_ifp hf z3
    refine hm_bipush (v := (-4 : Int32)) C d_R_way_12 (by decide) ?_
    exact hm_iret C hr hlk d_R_way_14 hf
set_option maxRecDepth 20000 in
theorem c_R_way {E : hm_E} {l : Launch} {F : Nat} {r : Int32} {h h' : hm_T} {x0 : Nat} {x1 : Int32} {x2 : Int32} {x3 : Int32} (hf : f_R_way F x0 x1 x2 x3 h = some (r, h')) : hm_M E l y_R_way prog_6_method_30_code 6 (some .int) 3 65 [.ref x0, .int x1, .int x2, .int x3] h (some (.int r)) h' :=
  hm_enter (by decide +kernel) (Nat.le_of_ble_eq_true rfl) (m_f_R_way hf) (fun p e R s m below meth c C hr hlk hin => w_f_R_way C hr hlk hf)
def f_R_isWay (F : Nat) (x0 : Nat) (x1 : Int32) (x2 : Int32) (h : hm_T) : Option (Int32 × hm_T) :=
  (hm_gr 4 25 6 h x0).bind (fun a1 => (hm_ild h a1 (((16 : Int32) * x1) + x2)).bind (fun v2 => (if (1000000 : Int32) ≤ v2 then (hm_zr (0 : Int32)).bind (fun v4 => some (v4, h)) else (hm_zr (1 : Int32)).bind (fun v5 => some (v5, h)))))
theorem m_f_R_isWay {F : Nat} {r : Int32} {h h' : hm_T} {x0 : Nat} {x1 : Int32} {x2 : Int32} (hf : f_R_isWay F x0 x1 x2 h = some (r, h')) : hm_le h h' := by
  unfold f_R_isWay at hf
  obtain ⟨a1, ea1, hf⟩ := hm_bind hf
  obtain ⟨v2, ev2, hf⟩ := hm_bind hf
  by_cases z3 : (1000000 : Int32) ≤ v2
  · have hf := hm_ifp hf z3
    obtain ⟨v4, ev4, hf⟩ := hm_bind hf
    exact (hm_le.ret hf)
  · have hf := hm_ifn hf z3
    obtain ⟨v5, ev5, hf⟩ := hm_bind hf
    exact (hm_le.ret hf)
set_option maxRecDepth 20000 in
set_option maxHeartbeats 1000000 in
theorem w_f_R_isWay {p : Program} {l : Launch} {e : Env} {R : Room} {s : State} {m : MethodId} {args : Array Value} {below : List Frame} {meth : Method} {c : Code} {E : hm_E} {n0 s0 F : Nat} {r : Int32} {h h' : hm_T} {x0 : Nat} {x1 : Int32} {x2 : Int32} (C : hm_C E prog_6_method_31_code 3 "DistanceLabelsModel" 0 0 n0 s0 (hm_n h') (hm_s h') p R s m args c) (hr : meth.sig.returnType = (some .boolean)) (hlk : meth.locks = false) (hf : f_R_isWay F x0 x1 x2 h = some (r, h')) : hm_G E 3 n0 s0 (hm_n h') (hm_s h') p l e R s m args below meth c (MQ below (hm_Qc E (some (.int r)) h') args s (hm_n h' - n0) (hm_s h' - s0) (fun q => E.2.2 ≤ q)) 0 [(0, .ref x0), (1, .int x1), (2, .int x2)] [] h := by
  unfold f_R_isWay at hf
  refine hm_aload_n C d_R_isWay_0 rfl 0 rfl ?_
  obtain ⟨a1, ea1, hf⟩ := hm_bind hf
  refine hm_getR C F_4 6 (by decide) rfl k_143 d_R_isWay_1 ea1 ?_
  refine hm_bipush (v := (16 : Int32)) C d_R_isWay_4 (by decide) ?_
  refine hm_iload_n C d_R_isWay_6 rfl 1 rfl ?_
  refine hm_imul C d_R_isWay_7 ?_
  refine hm_iload_n C d_R_isWay_8 rfl 2 rfl ?_
  refine hm_iadd C d_R_isWay_9 ?_
  obtain ⟨v2, ev2, hf⟩ := hm_bind hf
  refine hm_iaload C d_R_isWay_10 ev2 ?_
  refine hm_ldc (v := (1000000 : Int32)) C k_139 d_R_isWay_11 ?_
  refine hm_icmp_ge (tgt := 20) C d_R_isWay_13 (by decide) (fun z3 => ?_) (fun z3 => ?_)
  · have hf := hm_ifp hf z3
    refine hm_iconst (v := (0 : Int32)) C d_R_isWay_20 (by decide) ?_
    obtain ⟨v4, ev4, hf⟩ := hm_bind hf
    exact hm_zret C hr hlk d_R_isWay_21 ev4 hf
  · have hf := hm_ifn hf z3
    refine hm_iconst (v := (1 : Int32)) C d_R_isWay_16 (by decide) ?_
    refine hm_goto (tgt := 21) C d_R_isWay_17 (by decide) ?_
    obtain ⟨v5, ev5, hf⟩ := hm_bind hf
    exact hm_zret C hr hlk d_R_isWay_21 ev5 hf
set_option maxRecDepth 20000 in
theorem c_R_isWay {E : hm_E} {l : Launch} {F : Nat} {r : Int32} {h h' : hm_T} {x0 : Nat} {x1 : Int32} {x2 : Int32} (hf : f_R_isWay F x0 x1 x2 h = some (r, h')) : hm_M E l y_R_isWay prog_6_method_31_code 3 (some .boolean) 0 0 [.ref x0, .int x1, .int x2] h (some (.int r)) h' :=
  hm_enter (by decide +kernel) (Nat.le_of_ble_eq_true rfl) (m_f_R_isWay hf) (fun p e R s m below meth c C hr hlk hin => w_f_R_isWay C hr hlk hf)
def f_R_least_221 (F : Nat) (k32 : Nat → Int32 → Int32 → Int32 → Int32 → hm_T → Option (Int32 × hm_T)) (x0 : Nat) (x1 : Int32) (x2 : Int32) (x3 : Int32) (x4 : Int32) (h : hm_T) : Option (Int32 × hm_T) :=
  k32 x0 x1 x2 x3 (x4 + (1 : Int32)) h
def f_R_least_220 (F : Nat) (k32 : Nat → Int32 → Int32 → Int32 → Int32 → hm_T → Option (Int32 × hm_T)) (x0 : Nat) (x1 : Int32) (x2 : Int32) (x4 : Int32) (t0 : Int32) (h : hm_T) : Option (Int32 × hm_T) :=
  f_R_least_221 F k32 x0 x1 x2 t0 x4 h
def f_R_least_207 (F : Nat) (k32 : Nat → Int32 → Int32 → Int32 → Int32 → hm_T → Option (Int32 × hm_T)) (x0 : Nat) (x1 : Int32) (x2 : Int32) (x4 : Int32) (x6 : Int32) (t0 : Int32) (h : hm_T) : Option (Int32 × hm_T) :=
  (if x6 ≤ t0 then f_R_least_220 F k32 x0 x1 x2 x4 t0 h else f_R_least_220 F k32 x0 x1 x2 x4 x6 h)
def f_R_least_193 (F : Nat) (k32 : Nat → Int32 → Int32 → Int32 → Int32 → hm_T → Option (Int32 × hm_T)) (x0 : Nat) (x1 : Int32) (x2 : Int32) (x3 : Int32) (x4 : Int32) (x5 : Int32) (t0 : Int32) (h : hm_T) : Option (Int32 × hm_T) :=
  (if x5 ≤ x3 then f_R_least_207 F k32 x0 x1 x2 x4 t0 x3 h else f_R_least_207 F k32 x0 x1 x2 x4 t0 x5 h)
def f_R_least_192 (F : Nat) (k32 : Nat → Int32 → Int32 → Int32 → Int32 → hm_T → Option (Int32 × hm_T)) (x0 : Nat) (x1 : Int32) (x2 : Int32) (x3 : Int32) (x4 : Int32) (x5 : Int32) (h : hm_T) : Option (Int32 × hm_T) :=
  f_R_least_193 F k32 x0 x1 x2 x3 x4 x5 (0 : Int32) h
def f_R_least_142 (F : Nat) (k32 : Nat → Int32 → Int32 → Int32 → Int32 → hm_T → Option (Int32 × hm_T)) (x0 : Nat) (x1 : Int32) (x2 : Int32) (x3 : Int32) (x4 : Int32) (t0 : Int32) (h : hm_T) : Option (Int32 × hm_T) :=
  (hm_is 4 25 h x0).bind (fun u1 => hm_and (f_R_isWay F x0 x1 x4 h) (fun v2 h2 => (if v2 = 0 then f_R_least_192 F k32 x0 x1 x2 x3 x4 t0 h2 else (hm_is 4 25 h2 x0).bind (fun u4 => hm_and (f_R_isWay F x0 x2 x4 h2) (fun v5 h5 => (if v5 = 0 then f_R_least_192 F k32 x0 x1 x2 x3 x4 t0 h5 else (hm_gr 4 25 6 h5 x0).bind (fun a7 => (hm_ild h5 a7 (((16 : Int32) * x1) + x4)).bind (fun v8 => (hm_gr 4 25 6 h5 x0).bind (fun a9 => (hm_ild h5 a9 (((16 : Int32) * x2) + x4)).bind (fun v10 => f_R_least_193 F k32 x0 x1 x2 x3 x4 t0 (v8 - v10) h5))))))))))
def f_R_least_141 (F : Nat) (k32 : Nat → Int32 → Int32 → Int32 → Int32 → hm_T → Option (Int32 × hm_T)) (x0 : Nat) (x1 : Int32) (x2 : Int32) (x3 : Int32) (x4 : Int32) (h : hm_T) : Option (Int32 × hm_T) :=
  f_R_least_142 F k32 x0 x1 x2 x3 x4 (0 : Int32) h
def f_R_least_93 (F : Nat) (k32 : Nat → Int32 → Int32 → Int32 → Int32 → hm_T → Option (Int32 × hm_T)) (x0 : Nat) (x1 : Int32) (x2 : Int32) (x3 : Int32) (x4 : Int32) (h : hm_T) : Option (Int32 × hm_T) :=
  (hm_is 4 25 h x0).bind (fun u1 => hm_and (f_R_isWay F x0 x4 x1 h) (fun v2 h2 => (if v2 = 0 then f_R_least_141 F k32 x0 x1 x2 x3 x4 h2 else (hm_is 4 25 h2 x0).bind (fun u4 => hm_and (f_R_isWay F x0 x4 x2 h2) (fun v5 h5 => (if v5 = 0 then f_R_least_141 F k32 x0 x1 x2 x3 x4 h5 else (hm_gr 4 25 6 h5 x0).bind (fun a7 => (hm_ild h5 a7 (((16 : Int32) * x4) + x2)).bind (fun v8 => (hm_gr 4 25 6 h5 x0).bind (fun a9 => (hm_ild h5 a9 (((16 : Int32) * x4) + x1)).bind (fun v10 => f_R_least_142 F k32 x0 x1 x2 x3 x4 (v8 - v10) h5))))))))))
def f_R_least_71 (F : Nat) (k32 : Nat → Int32 → Int32 → Int32 → Int32 → hm_T → Option (Int32 × hm_T)) (x0 : Nat) (x1 : Int32) (x2 : Int32) (x3 : Int32) (x4 : Int32) (h : hm_T) : Option (Int32 × hm_T) :=
  (hm_is 4 25 h x0).bind (fun u1 => hm_and (f_R_isWay F x0 x2 x4 h) (fun v2 h2 => (if v2 = 0 then f_R_least_93 F k32 x0 x1 x2 x3 x4 h2 else (hm_is 4 25 h2 x0).bind (fun u4 => hm_and (f_R_isWay F x0 x1 x4 h2) (fun v5 h5 => (if v5 = 0 then some ((-1 : Int32), h5) else f_R_least_93 F k32 x0 x1 x2 x3 x4 h5))))))
def g_R_least_32 (F : Nat) (k32 : Nat → Int32 → Int32 → Int32 → Int32 → hm_T → Option (Int32 × hm_T)) (x0 : Nat) (x1 : Int32) (x2 : Int32) (x3 : Int32) (x4 : Int32) (h : hm_T) : Option (Int32 × hm_T) :=
  (hm_gi 4 25 1 h x0).bind (fun v1 => (if v1 ≤ x4 then some (x3, h) else (hm_gr 4 25 4 h x0).bind (fun a3 => (hm_zld h a3 x4).bind (fun v4 => (if v4 = 0 then f_R_least_221 F k32 x0 x1 x2 x3 x4 h else (hm_is 4 25 h x0).bind (fun u6 => hm_and (f_R_isWay F x0 x4 x1 h) (fun v7 h7 => (if v7 = 0 then f_R_least_71 F k32 x0 x1 x2 x3 x4 h7 else (hm_is 4 25 h7 x0).bind (fun u9 => hm_and (f_R_isWay F x0 x4 x2 h7) (fun v10 h10 => (if v10 = 0 then some ((-1 : Int32), h10) else f_R_least_71 F k32 x0 x1 x2 x3 x4 h10)))))))))))
def f_R_least_32 (F : Nat) : Nat → Nat → Int32 → Int32 → Int32 → Int32 → hm_T → Option (Int32 × hm_T)
  | 0 => fun _ _ _ _ _ _ => none
  | n + 1 => g_R_least_32 F (f_R_least_32 F n)
def f_R_least (F : Nat) (x0 : Nat) (x1 : Int32) (x2 : Int32) (h : hm_T) : Option (Int32 × hm_T) :=
  (hm_pi 4 25 0 h x0 (0 : Int32)).bind (fun h1 => (hm_gi 4 25 5 h1 x0).bind (fun v2 => (if v2 = 0 then some ((-4 : Int32), h1) else (hm_is 4 25 h1 x0).bind (fun u4 => hm_and (f_R_noPair F x0 x1 x2 h1) (fun v5 h5 => (if v5 = 0 then f_R_least_32 F F x0 x1 x2 (0 : Int32) (0 : Int32) h5 else some ((-2 : Int32), h5)))))))
theorem m_f_R_least_221 {F : Nat} {r : Int32} {h h' : hm_T} {x0 : Nat} {x1 : Int32} {x2 : Int32} {x3 : Int32} {x4 : Int32} {k32 : Nat → Int32 → Int32 → Int32 → Int32 → hm_T → Option (Int32 × hm_T)} (hk32 : ∀ (y0 : Nat) (y1 : Int32) (y2 : Int32) (y3 : Int32) (y4 : Int32) (g : hm_T), k32 y0 y1 y2 y3 y4 g = some (r, h') → hm_le g h') (hf : f_R_least_221 F k32 x0 x1 x2 x3 x4 h = some (r, h')) : hm_le h h' := by
  unfold f_R_least_221 at hf
  exact (hk32 _ _ _ _ _ _ hf)
theorem m_f_R_least_220 {F : Nat} {r : Int32} {h h' : hm_T} {x0 : Nat} {x1 : Int32} {x2 : Int32} {x4 : Int32} {t0 : Int32} {k32 : Nat → Int32 → Int32 → Int32 → Int32 → hm_T → Option (Int32 × hm_T)} (hk32 : ∀ (y0 : Nat) (y1 : Int32) (y2 : Int32) (y3 : Int32) (y4 : Int32) (g : hm_T), k32 y0 y1 y2 y3 y4 g = some (r, h') → hm_le g h') (hf : f_R_least_220 F k32 x0 x1 x2 x4 t0 h = some (r, h')) : hm_le h h' := by
  unfold f_R_least_220 at hf
  exact (m_f_R_least_221 hk32 hf)
theorem m_f_R_least_207 {F : Nat} {r : Int32} {h h' : hm_T} {x0 : Nat} {x1 : Int32} {x2 : Int32} {x4 : Int32} {x6 : Int32} {t0 : Int32} {k32 : Nat → Int32 → Int32 → Int32 → Int32 → hm_T → Option (Int32 × hm_T)} (hk32 : ∀ (y0 : Nat) (y1 : Int32) (y2 : Int32) (y3 : Int32) (y4 : Int32) (g : hm_T), k32 y0 y1 y2 y3 y4 g = some (r, h') → hm_le g h') (hf : f_R_least_207 F k32 x0 x1 x2 x4 x6 t0 h = some (r, h')) : hm_le h h' := by
  unfold f_R_least_207 at hf
  by_cases z1 : x6 ≤ t0
  · have hf := hm_ifp hf z1
    exact (m_f_R_least_220 hk32 hf)
  · have hf := hm_ifn hf z1
    exact (m_f_R_least_220 hk32 hf)
theorem m_f_R_least_193 {F : Nat} {r : Int32} {h h' : hm_T} {x0 : Nat} {x1 : Int32} {x2 : Int32} {x3 : Int32} {x4 : Int32} {x5 : Int32} {t0 : Int32} {k32 : Nat → Int32 → Int32 → Int32 → Int32 → hm_T → Option (Int32 × hm_T)} (hk32 : ∀ (y0 : Nat) (y1 : Int32) (y2 : Int32) (y3 : Int32) (y4 : Int32) (g : hm_T), k32 y0 y1 y2 y3 y4 g = some (r, h') → hm_le g h') (hf : f_R_least_193 F k32 x0 x1 x2 x3 x4 x5 t0 h = some (r, h')) : hm_le h h' := by
  unfold f_R_least_193 at hf
  by_cases z1 : x5 ≤ x3
  · have hf := hm_ifp hf z1
    exact (m_f_R_least_207 hk32 hf)
  · have hf := hm_ifn hf z1
    exact (m_f_R_least_207 hk32 hf)
theorem m_f_R_least_192 {F : Nat} {r : Int32} {h h' : hm_T} {x0 : Nat} {x1 : Int32} {x2 : Int32} {x3 : Int32} {x4 : Int32} {x5 : Int32} {k32 : Nat → Int32 → Int32 → Int32 → Int32 → hm_T → Option (Int32 × hm_T)} (hk32 : ∀ (y0 : Nat) (y1 : Int32) (y2 : Int32) (y3 : Int32) (y4 : Int32) (g : hm_T), k32 y0 y1 y2 y3 y4 g = some (r, h') → hm_le g h') (hf : f_R_least_192 F k32 x0 x1 x2 x3 x4 x5 h = some (r, h')) : hm_le h h' := by
  unfold f_R_least_192 at hf
  exact (m_f_R_least_193 hk32 hf)
theorem m_f_R_least_142 {F : Nat} {r : Int32} {h h' : hm_T} {x0 : Nat} {x1 : Int32} {x2 : Int32} {x3 : Int32} {x4 : Int32} {t0 : Int32} {k32 : Nat → Int32 → Int32 → Int32 → Int32 → hm_T → Option (Int32 × hm_T)} (hk32 : ∀ (y0 : Nat) (y1 : Int32) (y2 : Int32) (y3 : Int32) (y4 : Int32) (g : hm_T), k32 y0 y1 y2 y3 y4 g = some (r, h') → hm_le g h') (hf : f_R_least_142 F k32 x0 x1 x2 x3 x4 t0 h = some (r, h')) : hm_le h h' := by
  unfold f_R_least_142 at hf
  obtain ⟨u1, eu1, hf⟩ := hm_bind hf
  obtain ⟨v2, h2, eh2, hf⟩ := hm_and_of hf
  have mh2 := m_f_R_isWay eh2
  by_cases z3 : v2 = 0
  · have hf := hm_ifp hf z3
    exact mh2.tr ((m_f_R_least_192 hk32 hf))
  · have hf := hm_ifn hf z3
    obtain ⟨u4, eu4, hf⟩ := hm_bind hf
    obtain ⟨v5, h5, eh5, hf⟩ := hm_and_of hf
    have mh5 := m_f_R_isWay eh5
    by_cases z6 : v5 = 0
    · have hf := hm_ifp hf z6
      exact mh2.tr (mh5.tr ((m_f_R_least_192 hk32 hf)))
    · have hf := hm_ifn hf z6
      obtain ⟨a7, ea7, hf⟩ := hm_bind hf
      obtain ⟨v8, ev8, hf⟩ := hm_bind hf
      obtain ⟨a9, ea9, hf⟩ := hm_bind hf
      obtain ⟨v10, ev10, hf⟩ := hm_bind hf
      exact mh2.tr (mh5.tr ((m_f_R_least_193 hk32 hf)))
theorem m_f_R_least_141 {F : Nat} {r : Int32} {h h' : hm_T} {x0 : Nat} {x1 : Int32} {x2 : Int32} {x3 : Int32} {x4 : Int32} {k32 : Nat → Int32 → Int32 → Int32 → Int32 → hm_T → Option (Int32 × hm_T)} (hk32 : ∀ (y0 : Nat) (y1 : Int32) (y2 : Int32) (y3 : Int32) (y4 : Int32) (g : hm_T), k32 y0 y1 y2 y3 y4 g = some (r, h') → hm_le g h') (hf : f_R_least_141 F k32 x0 x1 x2 x3 x4 h = some (r, h')) : hm_le h h' := by
  unfold f_R_least_141 at hf
  exact (m_f_R_least_142 hk32 hf)
theorem m_f_R_least_93 {F : Nat} {r : Int32} {h h' : hm_T} {x0 : Nat} {x1 : Int32} {x2 : Int32} {x3 : Int32} {x4 : Int32} {k32 : Nat → Int32 → Int32 → Int32 → Int32 → hm_T → Option (Int32 × hm_T)} (hk32 : ∀ (y0 : Nat) (y1 : Int32) (y2 : Int32) (y3 : Int32) (y4 : Int32) (g : hm_T), k32 y0 y1 y2 y3 y4 g = some (r, h') → hm_le g h') (hf : f_R_least_93 F k32 x0 x1 x2 x3 x4 h = some (r, h')) : hm_le h h' := by
  unfold f_R_least_93 at hf
  obtain ⟨u1, eu1, hf⟩ := hm_bind hf
  obtain ⟨v2, h2, eh2, hf⟩ := hm_and_of hf
  have mh2 := m_f_R_isWay eh2
  by_cases z3 : v2 = 0
  · have hf := hm_ifp hf z3
    exact mh2.tr ((m_f_R_least_141 hk32 hf))
  · have hf := hm_ifn hf z3
    obtain ⟨u4, eu4, hf⟩ := hm_bind hf
    obtain ⟨v5, h5, eh5, hf⟩ := hm_and_of hf
    have mh5 := m_f_R_isWay eh5
    by_cases z6 : v5 = 0
    · have hf := hm_ifp hf z6
      exact mh2.tr (mh5.tr ((m_f_R_least_141 hk32 hf)))
    · have hf := hm_ifn hf z6
      obtain ⟨a7, ea7, hf⟩ := hm_bind hf
      obtain ⟨v8, ev8, hf⟩ := hm_bind hf
      obtain ⟨a9, ea9, hf⟩ := hm_bind hf
      obtain ⟨v10, ev10, hf⟩ := hm_bind hf
      exact mh2.tr (mh5.tr ((m_f_R_least_142 hk32 hf)))
theorem m_f_R_least_71 {F : Nat} {r : Int32} {h h' : hm_T} {x0 : Nat} {x1 : Int32} {x2 : Int32} {x3 : Int32} {x4 : Int32} {k32 : Nat → Int32 → Int32 → Int32 → Int32 → hm_T → Option (Int32 × hm_T)} (hk32 : ∀ (y0 : Nat) (y1 : Int32) (y2 : Int32) (y3 : Int32) (y4 : Int32) (g : hm_T), k32 y0 y1 y2 y3 y4 g = some (r, h') → hm_le g h') (hf : f_R_least_71 F k32 x0 x1 x2 x3 x4 h = some (r, h')) : hm_le h h' := by
  unfold f_R_least_71 at hf
  obtain ⟨u1, eu1, hf⟩ := hm_bind hf
  obtain ⟨v2, h2, eh2, hf⟩ := hm_and_of hf
  have mh2 := m_f_R_isWay eh2
  by_cases z3 : v2 = 0
  · have hf := hm_ifp hf z3
    exact mh2.tr ((m_f_R_least_93 hk32 hf))
  · have hf := hm_ifn hf z3
    obtain ⟨u4, eu4, hf⟩ := hm_bind hf
    obtain ⟨v5, h5, eh5, hf⟩ := hm_and_of hf
    have mh5 := m_f_R_isWay eh5
    by_cases z6 : v5 = 0
    · have hf := hm_ifp hf z6
      exact mh2.tr (mh5.tr ((hm_le.ret hf)))
    · have hf := hm_ifn hf z6
      exact mh2.tr (mh5.tr ((m_f_R_least_93 hk32 hf)))
theorem m_g_R_least_32 {F : Nat} {r : Int32} {h h' : hm_T} {x0 : Nat} {x1 : Int32} {x2 : Int32} {x3 : Int32} {x4 : Int32} {k32 : Nat → Int32 → Int32 → Int32 → Int32 → hm_T → Option (Int32 × hm_T)} (hk32 : ∀ (y0 : Nat) (y1 : Int32) (y2 : Int32) (y3 : Int32) (y4 : Int32) (g : hm_T), k32 y0 y1 y2 y3 y4 g = some (r, h') → hm_le g h') (hf : g_R_least_32 F k32 x0 x1 x2 x3 x4 h = some (r, h')) : hm_le h h' := by
  unfold g_R_least_32 at hf
  obtain ⟨v1, ev1, hf⟩ := hm_bind hf
  by_cases z2 : v1 ≤ x4
  · have hf := hm_ifp hf z2
    exact (hm_le.ret hf)
  · have hf := hm_ifn hf z2
    obtain ⟨a3, ea3, hf⟩ := hm_bind hf
    obtain ⟨v4, ev4, hf⟩ := hm_bind hf
    by_cases z5 : v4 = 0
    · have hf := hm_ifp hf z5
      exact (m_f_R_least_221 hk32 hf)
    · have hf := hm_ifn hf z5
      obtain ⟨u6, eu6, hf⟩ := hm_bind hf
      obtain ⟨v7, h7, eh7, hf⟩ := hm_and_of hf
      have mh7 := m_f_R_isWay eh7
      by_cases z8 : v7 = 0
      · have hf := hm_ifp hf z8
        exact mh7.tr ((m_f_R_least_71 hk32 hf))
      · have hf := hm_ifn hf z8
        obtain ⟨u9, eu9, hf⟩ := hm_bind hf
        obtain ⟨v10, h10, eh10, hf⟩ := hm_and_of hf
        have mh10 := m_f_R_isWay eh10
        by_cases z11 : v10 = 0
        · have hf := hm_ifp hf z11
          exact mh7.tr (mh10.tr ((hm_le.ret hf)))
        · have hf := hm_ifn hf z11
          exact mh7.tr (mh10.tr ((m_f_R_least_71 hk32 hf)))
theorem m_R_least_32L {F : Nat} {r : Int32} {h' : hm_T} : ∀ (N : Nat) (x0 : Nat) (x1 : Int32) (x2 : Int32) (x3 : Int32) (x4 : Int32) (h : hm_T), f_R_least_32 F N x0 x1 x2 x3 x4 h = some (r, h') → hm_le h h' := by
  intro N
  induction N with
  | zero => intro _ _ _ _ _ _ hf; cases hf
  | succ n ih => intro x0 x1 x2 x3 x4 h hf; exact m_g_R_least_32 ih hf
theorem m_f_R_least {F : Nat} {r : Int32} {h h' : hm_T} {x0 : Nat} {x1 : Int32} {x2 : Int32} (hf : f_R_least F x0 x1 x2 h = some (r, h')) : hm_le h h' := by
  unfold f_R_least at hf
  obtain ⟨h1, eh1, hf⟩ := hm_bind hf
  have mh1 := hm_le.pi eh1
  obtain ⟨v2, ev2, hf⟩ := hm_bind hf
  by_cases z3 : v2 = 0
  · have hf := hm_ifp hf z3
    exact mh1.tr ((hm_le.ret hf))
  · have hf := hm_ifn hf z3
    obtain ⟨u4, eu4, hf⟩ := hm_bind hf
    obtain ⟨v5, h5, eh5, hf⟩ := hm_and_of hf
    have mh5 := m_f_R_noPair eh5
    by_cases z6 : v5 = 0
    · have hf := hm_ifp hf z6
      exact mh1.tr (mh5.tr ((m_R_least_32L _ _ _ _ _ _ _ hf)))
    · have hf := hm_ifn hf z6
      exact mh1.tr (mh5.tr ((hm_le.ret hf)))
set_option maxRecDepth 20000 in
set_option maxHeartbeats 1000000 in
theorem w_f_R_least_221 {p : Program} {l : Launch} {e : Env} {R : Room} {s : State} {m : MethodId} {args : Array Value} {below : List Frame} {meth : Method} {c : Code} {E : hm_E} {n0 s0 F : Nat} {r : Int32} {h h' : hm_T} {x0 : Nat} {x1 : Int32} {x2 : Int32} {x3 : Int32} {x4 : Int32} {k32 : Nat → Int32 → Int32 → Int32 → Int32 → hm_T → Option (Int32 × hm_T)} (C : hm_C E prog_6_method_32_code 7 "DistanceLabelsModel" 3 65 n0 s0 (hm_n h') (hm_s h') p R s m args c) (hr : meth.sig.returnType = (some .int)) (hlk : meth.locks = false) (hk32 : ∀ (y0 : Nat) (y1 : Int32) (y2 : Int32) (y3 : Int32) (y4 : Int32) (g : hm_T), k32 y0 y1 y2 y3 y4 g = some (r, h') → hm_G E 7 n0 s0 (hm_n h') (hm_s h') p l e R s m args below meth c (MQ below (hm_Qc E (some (.int r)) h') args s (hm_n h' - n0) (hm_s h' - s0) (fun q => E.2.2 ≤ q)) 32 [(0, .ref y0), (1, .int y1), (2, .int y2), (3, .int y3), (4, .int y4)] [] g) (hf : f_R_least_221 F k32 x0 x1 x2 x3 x4 h = some (r, h')) : hm_G E 7 n0 s0 (hm_n h') (hm_s h') p l e R s m args below meth c (MQ below (hm_Qc E (some (.int r)) h') args s (hm_n h' - n0) (hm_s h' - s0) (fun q => E.2.2 ≤ q)) 221 [(0, .ref x0), (1, .int x1), (2, .int x2), (3, .int x3), (4, .int x4)] [] h := by
  unfold f_R_least_221 at hf
  refine hm_iinc (v := (x4 + (1 : Int32))) (lv' := [(4, .int (x4 + (1 : Int32))), (0, .ref x0), (1, .int x1), (2, .int x2), (3, .int x3)]) C d_R_least_221 4 rfl rfl (by decide) rfl ?_
  refine hm_goto (tgt := 32) C d_R_least_224 (by decide) ?_
  refine hm_sub (lv' := [(0, .ref x0), (1, .int x1), (2, .int x2), (3, .int x3), (4, .int (x4 + (1 : Int32)))]) [1, 2, 3, 4, 0] rfl ?_
  exact hk32 _ _ _ _ _ _ hf
set_option maxRecDepth 20000 in
set_option maxHeartbeats 1000000 in
theorem w_f_R_least_220 {p : Program} {l : Launch} {e : Env} {R : Room} {s : State} {m : MethodId} {args : Array Value} {below : List Frame} {meth : Method} {c : Code} {E : hm_E} {n0 s0 F : Nat} {r : Int32} {h h' : hm_T} {x0 : Nat} {x1 : Int32} {x2 : Int32} {x4 : Int32} {t0 : Int32} {k32 : Nat → Int32 → Int32 → Int32 → Int32 → hm_T → Option (Int32 × hm_T)} (C : hm_C E prog_6_method_32_code 7 "DistanceLabelsModel" 3 65 n0 s0 (hm_n h') (hm_s h') p R s m args c) (hr : meth.sig.returnType = (some .int)) (hlk : meth.locks = false) (hk32 : ∀ (y0 : Nat) (y1 : Int32) (y2 : Int32) (y3 : Int32) (y4 : Int32) (g : hm_T), k32 y0 y1 y2 y3 y4 g = some (r, h') → hm_G E 7 n0 s0 (hm_n h') (hm_s h') p l e R s m args below meth c (MQ below (hm_Qc E (some (.int r)) h') args s (hm_n h' - n0) (hm_s h' - s0) (fun q => E.2.2 ≤ q)) 32 [(0, .ref y0), (1, .int y1), (2, .int y2), (3, .int y3), (4, .int y4)] [] g) (hf : f_R_least_220 F k32 x0 x1 x2 x4 t0 h = some (r, h')) : hm_G E 7 n0 s0 (hm_n h') (hm_s h') p l e R s m args below meth c (MQ below (hm_Qc E (some (.int r)) h') args s (hm_n h' - n0) (hm_s h' - s0) (fun q => E.2.2 ≤ q)) 220 [(0, .ref x0), (1, .int x1), (2, .int x2), (4, .int x4)] [.int t0] h := by
  unfold f_R_least_220 at hf
  refine hm_istore_n (lv' := [(3, .int t0), (0, .ref x0), (1, .int x1), (2, .int x2), (4, .int x4)]) C d_R_least_220 rfl (by decide) rfl ?_
  refine hm_sub (lv' := [(0, .ref x0), (1, .int x1), (2, .int x2), (3, .int t0), (4, .int x4)]) [1, 2, 3, 0, 4] rfl ?_
  exact w_f_R_least_221 C hr hlk hk32 hf
set_option maxRecDepth 20000 in
set_option maxHeartbeats 1000000 in
theorem w_f_R_least_207 {p : Program} {l : Launch} {e : Env} {R : Room} {s : State} {m : MethodId} {args : Array Value} {below : List Frame} {meth : Method} {c : Code} {E : hm_E} {n0 s0 F : Nat} {r : Int32} {h h' : hm_T} {x0 : Nat} {x1 : Int32} {x2 : Int32} {x4 : Int32} {x6 : Int32} {t0 : Int32} {k32 : Nat → Int32 → Int32 → Int32 → Int32 → hm_T → Option (Int32 × hm_T)} (C : hm_C E prog_6_method_32_code 7 "DistanceLabelsModel" 3 65 n0 s0 (hm_n h') (hm_s h') p R s m args c) (hr : meth.sig.returnType = (some .int)) (hlk : meth.locks = false) (hk32 : ∀ (y0 : Nat) (y1 : Int32) (y2 : Int32) (y3 : Int32) (y4 : Int32) (g : hm_T), k32 y0 y1 y2 y3 y4 g = some (r, h') → hm_G E 7 n0 s0 (hm_n h') (hm_s h') p l e R s m args below meth c (MQ below (hm_Qc E (some (.int r)) h') args s (hm_n h' - n0) (hm_s h' - s0) (fun q => E.2.2 ≤ q)) 32 [(0, .ref y0), (1, .int y1), (2, .int y2), (3, .int y3), (4, .int y4)] [] g) (hf : f_R_least_207 F k32 x0 x1 x2 x4 x6 t0 h = some (r, h')) : hm_G E 7 n0 s0 (hm_n h') (hm_s h') p l e R s m args below meth c (MQ below (hm_Qc E (some (.int r)) h') args s (hm_n h' - n0) (hm_s h' - s0) (fun q => E.2.2 ≤ q)) 207 [(0, .ref x0), (1, .int x1), (2, .int x2), (4, .int x4), (6, .int x6)] [.int t0] h := by
  unfold f_R_least_207 at hf
  refine hm_istore_n (lv' := [(3, .int t0), (0, .ref x0), (1, .int x1), (2, .int x2), (4, .int x4), (6, .int x6)]) C d_R_least_207 rfl (by decide) rfl ?_
  refine hm_iload C d_R_least_208 5 rfl ?_
  refine hm_iload_n C d_R_least_210 rfl 0 rfl ?_
  refine hm_icmp_le (tgt := 219) C d_R_least_211 (by decide) (fun z1 => ?_) (fun z1 => ?_)
  · have hf := hm_ifp hf z1
    refine hm_iload_n C d_R_least_219 rfl 0 rfl ?_
    refine hm_sub (lv' := [(0, .ref x0), (1, .int x1), (2, .int x2), (4, .int x4)]) [1, 2, 3, 4] rfl ?_
    exact w_f_R_least_220 C hr hlk hk32 hf
  · have hf := hm_ifn hf z1
    refine hm_iload C d_R_least_214 5 rfl ?_
    refine hm_goto (tgt := 220) C d_R_least_216 (by decide) ?_
    refine hm_sub (lv' := [(0, .ref x0), (1, .int x1), (2, .int x2), (4, .int x4)]) [1, 2, 3, 4] rfl ?_
    exact w_f_R_least_220 C hr hlk hk32 hf
set_option maxRecDepth 20000 in
set_option maxHeartbeats 1000000 in
theorem w_f_R_least_193 {p : Program} {l : Launch} {e : Env} {R : Room} {s : State} {m : MethodId} {args : Array Value} {below : List Frame} {meth : Method} {c : Code} {E : hm_E} {n0 s0 F : Nat} {r : Int32} {h h' : hm_T} {x0 : Nat} {x1 : Int32} {x2 : Int32} {x3 : Int32} {x4 : Int32} {x5 : Int32} {t0 : Int32} {k32 : Nat → Int32 → Int32 → Int32 → Int32 → hm_T → Option (Int32 × hm_T)} (C : hm_C E prog_6_method_32_code 7 "DistanceLabelsModel" 3 65 n0 s0 (hm_n h') (hm_s h') p R s m args c) (hr : meth.sig.returnType = (some .int)) (hlk : meth.locks = false) (hk32 : ∀ (y0 : Nat) (y1 : Int32) (y2 : Int32) (y3 : Int32) (y4 : Int32) (g : hm_T), k32 y0 y1 y2 y3 y4 g = some (r, h') → hm_G E 7 n0 s0 (hm_n h') (hm_s h') p l e R s m args below meth c (MQ below (hm_Qc E (some (.int r)) h') args s (hm_n h' - n0) (hm_s h' - s0) (fun q => E.2.2 ≤ q)) 32 [(0, .ref y0), (1, .int y1), (2, .int y2), (3, .int y3), (4, .int y4)] [] g) (hf : f_R_least_193 F k32 x0 x1 x2 x3 x4 x5 t0 h = some (r, h')) : hm_G E 7 n0 s0 (hm_n h') (hm_s h') p l e R s m args below meth c (MQ below (hm_Qc E (some (.int r)) h') args s (hm_n h' - n0) (hm_s h' - s0) (fun q => E.2.2 ≤ q)) 193 [(0, .ref x0), (1, .int x1), (2, .int x2), (3, .int x3), (4, .int x4), (5, .int x5)] [.int t0] h := by
  unfold f_R_least_193 at hf
  refine hm_istore (lv' := [(6, .int t0), (0, .ref x0), (1, .int x1), (2, .int x2), (3, .int x3), (4, .int x4), (5, .int x5)]) C d_R_least_193 (by decide) rfl ?_
  refine hm_iload C d_R_least_195 6 rfl ?_
  refine hm_iload_n C d_R_least_197 rfl 4 rfl ?_
  refine hm_icmp_le (tgt := 206) C d_R_least_198 (by decide) (fun z1 => ?_) (fun z1 => ?_)
  · have hf := hm_ifp hf z1
    refine hm_iload_n C d_R_least_206 rfl 4 rfl ?_
    refine hm_sub (lv' := [(0, .ref x0), (1, .int x1), (2, .int x2), (4, .int x4), (6, .int t0)]) [1, 2, 3, 5, 0] rfl ?_
    exact w_f_R_least_207 C hr hlk hk32 hf
  · have hf := hm_ifn hf z1
    refine hm_iload C d_R_least_201 6 rfl ?_
    refine hm_goto (tgt := 207) C d_R_least_203 (by decide) ?_
    refine hm_sub (lv' := [(0, .ref x0), (1, .int x1), (2, .int x2), (4, .int x4), (6, .int t0)]) [1, 2, 3, 5, 0] rfl ?_
    exact w_f_R_least_207 C hr hlk hk32 hf
set_option maxRecDepth 20000 in
set_option maxHeartbeats 1000000 in
theorem w_f_R_least_192 {p : Program} {l : Launch} {e : Env} {R : Room} {s : State} {m : MethodId} {args : Array Value} {below : List Frame} {meth : Method} {c : Code} {E : hm_E} {n0 s0 F : Nat} {r : Int32} {h h' : hm_T} {x0 : Nat} {x1 : Int32} {x2 : Int32} {x3 : Int32} {x4 : Int32} {x5 : Int32} {k32 : Nat → Int32 → Int32 → Int32 → Int32 → hm_T → Option (Int32 × hm_T)} (C : hm_C E prog_6_method_32_code 7 "DistanceLabelsModel" 3 65 n0 s0 (hm_n h') (hm_s h') p R s m args c) (hr : meth.sig.returnType = (some .int)) (hlk : meth.locks = false) (hk32 : ∀ (y0 : Nat) (y1 : Int32) (y2 : Int32) (y3 : Int32) (y4 : Int32) (g : hm_T), k32 y0 y1 y2 y3 y4 g = some (r, h') → hm_G E 7 n0 s0 (hm_n h') (hm_s h') p l e R s m args below meth c (MQ below (hm_Qc E (some (.int r)) h') args s (hm_n h' - n0) (hm_s h' - s0) (fun q => E.2.2 ≤ q)) 32 [(0, .ref y0), (1, .int y1), (2, .int y2), (3, .int y3), (4, .int y4)] [] g) (hf : f_R_least_192 F k32 x0 x1 x2 x3 x4 x5 h = some (r, h')) : hm_G E 7 n0 s0 (hm_n h') (hm_s h') p l e R s m args below meth c (MQ below (hm_Qc E (some (.int r)) h') args s (hm_n h' - n0) (hm_s h' - s0) (fun q => E.2.2 ≤ q)) 192 [(0, .ref x0), (1, .int x1), (2, .int x2), (3, .int x3), (4, .int x4), (5, .int x5)] [] h := by
  unfold f_R_least_192 at hf
  refine hm_iconst (v := (0 : Int32)) C d_R_least_192 (by decide) ?_
  exact w_f_R_least_193 C hr hlk hk32 hf
set_option maxRecDepth 20000 in
set_option maxHeartbeats 1000000 in
theorem w_f_R_least_142 {p : Program} {l : Launch} {e : Env} {R : Room} {s : State} {m : MethodId} {args : Array Value} {below : List Frame} {meth : Method} {c : Code} {E : hm_E} {n0 s0 F : Nat} {r : Int32} {h h' : hm_T} {x0 : Nat} {x1 : Int32} {x2 : Int32} {x3 : Int32} {x4 : Int32} {t0 : Int32} {k32 : Nat → Int32 → Int32 → Int32 → Int32 → hm_T → Option (Int32 × hm_T)} (C : hm_C E prog_6_method_32_code 7 "DistanceLabelsModel" 3 65 n0 s0 (hm_n h') (hm_s h') p R s m args c) (hr : meth.sig.returnType = (some .int)) (hlk : meth.locks = false) (hk32 : ∀ (y0 : Nat) (y1 : Int32) (y2 : Int32) (y3 : Int32) (y4 : Int32) (g : hm_T), k32 y0 y1 y2 y3 y4 g = some (r, h') → hm_G E 7 n0 s0 (hm_n h') (hm_s h') p l e R s m args below meth c (MQ below (hm_Qc E (some (.int r)) h') args s (hm_n h' - n0) (hm_s h' - s0) (fun q => E.2.2 ≤ q)) 32 [(0, .ref y0), (1, .int y1), (2, .int y2), (3, .int y3), (4, .int y4)] [] g) (hf : f_R_least_142 F k32 x0 x1 x2 x3 x4 t0 h = some (r, h')) : hm_G E 7 n0 s0 (hm_n h') (hm_s h') p l e R s m args below meth c (MQ below (hm_Qc E (some (.int r)) h') args s (hm_n h' - n0) (hm_s h' - s0) (fun q => E.2.2 ≤ q)) 142 [(0, .ref x0), (1, .int x1), (2, .int x2), (3, .int x3), (4, .int x4)] [.int t0] h := by
  unfold f_R_least_142 at hf
  refine hm_istore (lv' := [(5, .int t0), (0, .ref x0), (1, .int x1), (2, .int x2), (3, .int x3), (4, .int x4)]) C d_R_least_142 (by decide) rfl ?_
  refine hm_aload_n C d_R_least_144 rfl 1 rfl ?_
  refine hm_iload_n C d_R_least_145 rfl 2 rfl ?_
  refine hm_iload C d_R_least_146 5 rfl ?_
  obtain ⟨u1, eu1, hf⟩ := hm_bind hf
  obtain ⟨v2, h2, eh2, hf⟩ := hm_and_of hf
  refine hm_callV (vs := [.int x1, .int x4]) (st := []) (sb := [.int v2]) C (c_R_isWay eh2) Y_R_isWay F_4 eu1 k_202 k_203 k_201 (by decide) (by decide) rfl (Nat.le_of_ble_eq_true rfl) d_R_least_148 rfl rfl ?_
  refine hm_if_eq (tgt := 192) C d_R_least_151 (by decide) (fun z3 => ?_) (fun z3 => ?_)
  · have hf := hm_ifp hf z3
    refine hm_sub (lv' := [(0, .ref x0), (1, .int x1), (2, .int x2), (3, .int x3), (4, .int x4), (5, .int t0)]) [1, 2, 3, 4, 5, 0] rfl ?_
    exact w_f_R_least_192 C hr hlk hk32 hf
  · have hf := hm_ifn hf z3
    refine hm_aload_n C d_R_least_154 rfl 1 rfl ?_
    refine hm_iload_n C d_R_least_155 rfl 3 rfl ?_
    refine hm_iload C d_R_least_156 5 rfl ?_
    obtain ⟨u4, eu4, hf⟩ := hm_bind hf
    obtain ⟨v5, h5, eh5, hf⟩ := hm_and_of hf
    refine hm_callV (vs := [.int x2, .int x4]) (st := []) (sb := [.int v5]) C (c_R_isWay eh5) Y_R_isWay F_4 eu4 k_202 k_203 k_201 (by decide) (by decide) rfl (Nat.le_of_ble_eq_true rfl) d_R_least_158 rfl rfl ?_
    refine hm_if_eq (tgt := 192) C d_R_least_161 (by decide) (fun z6 => ?_) (fun z6 => ?_)
    · have hf := hm_ifp hf z6
      refine hm_sub (lv' := [(0, .ref x0), (1, .int x1), (2, .int x2), (3, .int x3), (4, .int x4), (5, .int t0)]) [1, 2, 3, 4, 5, 0] rfl ?_
      exact w_f_R_least_192 C hr hlk hk32 hf
    · have hf := hm_ifn hf z6
      refine hm_aload_n C d_R_least_164 rfl 1 rfl ?_
      obtain ⟨a7, ea7, hf⟩ := hm_bind hf
      refine hm_getR C F_4 6 (by decide) rfl k_143 d_R_least_165 ea7 ?_
      refine hm_bipush (v := (16 : Int32)) C d_R_least_168 (by decide) ?_
      refine hm_iload_n C d_R_least_170 rfl 2 rfl ?_
      refine hm_imul C d_R_least_171 ?_
      refine hm_iload C d_R_least_172 5 rfl ?_
      refine hm_iadd C d_R_least_174 ?_
      obtain ⟨v8, ev8, hf⟩ := hm_bind hf
      refine hm_iaload C d_R_least_175 ev8 ?_
      refine hm_aload_n C d_R_least_176 rfl 1 rfl ?_
      obtain ⟨a9, ea9, hf⟩ := hm_bind hf
      refine hm_getR C F_4 6 (by decide) rfl k_143 d_R_least_177 ea9 ?_
      refine hm_bipush (v := (16 : Int32)) C d_R_least_180 (by decide) ?_
      refine hm_iload_n C d_R_least_182 rfl 3 rfl ?_
      refine hm_imul C d_R_least_183 ?_
      refine hm_iload C d_R_least_184 5 rfl ?_
      refine hm_iadd C d_R_least_186 ?_
      obtain ⟨v10, ev10, hf⟩ := hm_bind hf
      refine hm_iaload C d_R_least_187 ev10 ?_
      refine hm_isub C d_R_least_188 ?_
      refine hm_goto (tgt := 193) C d_R_least_189 (by decide) ?_
      refine hm_sub (lv' := [(0, .ref x0), (1, .int x1), (2, .int x2), (3, .int x3), (4, .int x4), (5, .int t0)]) [1, 2, 3, 4, 5, 0] rfl ?_
      exact w_f_R_least_193 C hr hlk hk32 hf
set_option maxRecDepth 20000 in
set_option maxHeartbeats 1000000 in
theorem w_f_R_least_141 {p : Program} {l : Launch} {e : Env} {R : Room} {s : State} {m : MethodId} {args : Array Value} {below : List Frame} {meth : Method} {c : Code} {E : hm_E} {n0 s0 F : Nat} {r : Int32} {h h' : hm_T} {x0 : Nat} {x1 : Int32} {x2 : Int32} {x3 : Int32} {x4 : Int32} {k32 : Nat → Int32 → Int32 → Int32 → Int32 → hm_T → Option (Int32 × hm_T)} (C : hm_C E prog_6_method_32_code 7 "DistanceLabelsModel" 3 65 n0 s0 (hm_n h') (hm_s h') p R s m args c) (hr : meth.sig.returnType = (some .int)) (hlk : meth.locks = false) (hk32 : ∀ (y0 : Nat) (y1 : Int32) (y2 : Int32) (y3 : Int32) (y4 : Int32) (g : hm_T), k32 y0 y1 y2 y3 y4 g = some (r, h') → hm_G E 7 n0 s0 (hm_n h') (hm_s h') p l e R s m args below meth c (MQ below (hm_Qc E (some (.int r)) h') args s (hm_n h' - n0) (hm_s h' - s0) (fun q => E.2.2 ≤ q)) 32 [(0, .ref y0), (1, .int y1), (2, .int y2), (3, .int y3), (4, .int y4)] [] g) (hf : f_R_least_141 F k32 x0 x1 x2 x3 x4 h = some (r, h')) : hm_G E 7 n0 s0 (hm_n h') (hm_s h') p l e R s m args below meth c (MQ below (hm_Qc E (some (.int r)) h') args s (hm_n h' - n0) (hm_s h' - s0) (fun q => E.2.2 ≤ q)) 141 [(0, .ref x0), (1, .int x1), (2, .int x2), (3, .int x3), (4, .int x4)] [] h := by
  unfold f_R_least_141 at hf
  refine hm_iconst (v := (0 : Int32)) C d_R_least_141 (by decide) ?_
  exact w_f_R_least_142 C hr hlk hk32 hf
set_option maxRecDepth 20000 in
set_option maxHeartbeats 1000000 in
theorem w_f_R_least_93 {p : Program} {l : Launch} {e : Env} {R : Room} {s : State} {m : MethodId} {args : Array Value} {below : List Frame} {meth : Method} {c : Code} {E : hm_E} {n0 s0 F : Nat} {r : Int32} {h h' : hm_T} {x0 : Nat} {x1 : Int32} {x2 : Int32} {x3 : Int32} {x4 : Int32} {k32 : Nat → Int32 → Int32 → Int32 → Int32 → hm_T → Option (Int32 × hm_T)} (C : hm_C E prog_6_method_32_code 7 "DistanceLabelsModel" 3 65 n0 s0 (hm_n h') (hm_s h') p R s m args c) (hr : meth.sig.returnType = (some .int)) (hlk : meth.locks = false) (hk32 : ∀ (y0 : Nat) (y1 : Int32) (y2 : Int32) (y3 : Int32) (y4 : Int32) (g : hm_T), k32 y0 y1 y2 y3 y4 g = some (r, h') → hm_G E 7 n0 s0 (hm_n h') (hm_s h') p l e R s m args below meth c (MQ below (hm_Qc E (some (.int r)) h') args s (hm_n h' - n0) (hm_s h' - s0) (fun q => E.2.2 ≤ q)) 32 [(0, .ref y0), (1, .int y1), (2, .int y2), (3, .int y3), (4, .int y4)] [] g) (hf : f_R_least_93 F k32 x0 x1 x2 x3 x4 h = some (r, h')) : hm_G E 7 n0 s0 (hm_n h') (hm_s h') p l e R s m args below meth c (MQ below (hm_Qc E (some (.int r)) h') args s (hm_n h' - n0) (hm_s h' - s0) (fun q => E.2.2 ≤ q)) 93 [(0, .ref x0), (1, .int x1), (2, .int x2), (3, .int x3), (4, .int x4)] [] h := by
  unfold f_R_least_93 at hf
  refine hm_aload_n C d_R_least_93 rfl 0 rfl ?_
  refine hm_iload C d_R_least_94 4 rfl ?_
  refine hm_iload_n C d_R_least_96 rfl 1 rfl ?_
  obtain ⟨u1, eu1, hf⟩ := hm_bind hf
  obtain ⟨v2, h2, eh2, hf⟩ := hm_and_of hf
  refine hm_callV (vs := [.int x4, .int x1]) (st := []) (sb := [.int v2]) C (c_R_isWay eh2) Y_R_isWay F_4 eu1 k_202 k_203 k_201 (by decide) (by decide) rfl (Nat.le_of_ble_eq_true rfl) d_R_least_97 rfl rfl ?_
  refine hm_if_eq (tgt := 141) C d_R_least_100 (by decide) (fun z3 => ?_) (fun z3 => ?_)
  · have hf := hm_ifp hf z3
    exact w_f_R_least_141 C hr hlk hk32 hf
  · have hf := hm_ifn hf z3
    refine hm_aload_n C d_R_least_103 rfl 0 rfl ?_
    refine hm_iload C d_R_least_104 4 rfl ?_
    refine hm_iload_n C d_R_least_106 rfl 2 rfl ?_
    obtain ⟨u4, eu4, hf⟩ := hm_bind hf
    obtain ⟨v5, h5, eh5, hf⟩ := hm_and_of hf
    refine hm_callV (vs := [.int x4, .int x2]) (st := []) (sb := [.int v5]) C (c_R_isWay eh5) Y_R_isWay F_4 eu4 k_202 k_203 k_201 (by decide) (by decide) rfl (Nat.le_of_ble_eq_true rfl) d_R_least_107 rfl rfl ?_
    refine hm_if_eq (tgt := 141) C d_R_least_110 (by decide) (fun z6 => ?_) (fun z6 => ?_)
    · have hf := hm_ifp hf z6
      exact w_f_R_least_141 C hr hlk hk32 hf
    · have hf := hm_ifn hf z6
      refine hm_aload_n C d_R_least_113 rfl 0 rfl ?_
      obtain ⟨a7, ea7, hf⟩ := hm_bind hf
      refine hm_getR C F_4 6 (by decide) rfl k_143 d_R_least_114 ea7 ?_
      refine hm_bipush (v := (16 : Int32)) C d_R_least_117 (by decide) ?_
      refine hm_iload C d_R_least_119 4 rfl ?_
      refine hm_imul C d_R_least_121 ?_
      refine hm_iload_n C d_R_least_122 rfl 2 rfl ?_
      refine hm_iadd C d_R_least_123 ?_
      obtain ⟨v8, ev8, hf⟩ := hm_bind hf
      refine hm_iaload C d_R_least_124 ev8 ?_
      refine hm_aload_n C d_R_least_125 rfl 0 rfl ?_
      obtain ⟨a9, ea9, hf⟩ := hm_bind hf
      refine hm_getR C F_4 6 (by decide) rfl k_143 d_R_least_126 ea9 ?_
      refine hm_bipush (v := (16 : Int32)) C d_R_least_129 (by decide) ?_
      refine hm_iload C d_R_least_131 4 rfl ?_
      refine hm_imul C d_R_least_133 ?_
      refine hm_iload_n C d_R_least_134 rfl 1 rfl ?_
      refine hm_iadd C d_R_least_135 ?_
      obtain ⟨v10, ev10, hf⟩ := hm_bind hf
      refine hm_iaload C d_R_least_136 ev10 ?_
      refine hm_isub C d_R_least_137 ?_
      refine hm_goto (tgt := 142) C d_R_least_138 (by decide) ?_
      exact w_f_R_least_142 C hr hlk hk32 hf
set_option maxRecDepth 20000 in
set_option maxHeartbeats 1000000 in
theorem w_f_R_least_71 {p : Program} {l : Launch} {e : Env} {R : Room} {s : State} {m : MethodId} {args : Array Value} {below : List Frame} {meth : Method} {c : Code} {E : hm_E} {n0 s0 F : Nat} {r : Int32} {h h' : hm_T} {x0 : Nat} {x1 : Int32} {x2 : Int32} {x3 : Int32} {x4 : Int32} {k32 : Nat → Int32 → Int32 → Int32 → Int32 → hm_T → Option (Int32 × hm_T)} (C : hm_C E prog_6_method_32_code 7 "DistanceLabelsModel" 3 65 n0 s0 (hm_n h') (hm_s h') p R s m args c) (hr : meth.sig.returnType = (some .int)) (hlk : meth.locks = false) (hk32 : ∀ (y0 : Nat) (y1 : Int32) (y2 : Int32) (y3 : Int32) (y4 : Int32) (g : hm_T), k32 y0 y1 y2 y3 y4 g = some (r, h') → hm_G E 7 n0 s0 (hm_n h') (hm_s h') p l e R s m args below meth c (MQ below (hm_Qc E (some (.int r)) h') args s (hm_n h' - n0) (hm_s h' - s0) (fun q => E.2.2 ≤ q)) 32 [(0, .ref y0), (1, .int y1), (2, .int y2), (3, .int y3), (4, .int y4)] [] g) (hf : f_R_least_71 F k32 x0 x1 x2 x3 x4 h = some (r, h')) : hm_G E 7 n0 s0 (hm_n h') (hm_s h') p l e R s m args below meth c (MQ below (hm_Qc E (some (.int r)) h') args s (hm_n h' - n0) (hm_s h' - s0) (fun q => E.2.2 ≤ q)) 71 [(0, .ref x0), (1, .int x1), (2, .int x2), (3, .int x3), (4, .int x4)] [] h := by
  unfold f_R_least_71 at hf
  refine hm_aload_n C d_R_least_71 rfl 0 rfl ?_
  refine hm_iload_n C d_R_least_72 rfl 2 rfl ?_
  refine hm_iload C d_R_least_73 4 rfl ?_
  obtain ⟨u1, eu1, hf⟩ := hm_bind hf
  obtain ⟨v2, h2, eh2, hf⟩ := hm_and_of hf
  refine hm_callV (vs := [.int x2, .int x4]) (st := []) (sb := [.int v2]) C (c_R_isWay eh2) Y_R_isWay F_4 eu1 k_202 k_203 k_201 (by decide) (by decide) rfl (Nat.le_of_ble_eq_true rfl) d_R_least_75 rfl rfl ?_
  refine hm_if_eq (tgt := 93) C d_R_least_78 (by decide) (fun z3 => ?_) (fun z3 => ?_)
  · have hf := hm_ifp hf z3
    exact w_f_R_least_93 C hr hlk hk32 hf
  · have hf := hm_ifn hf z3
    refine hm_aload_n C d_R_least_81 rfl 0 rfl ?_
    refine hm_iload_n C d_R_least_82 rfl 1 rfl ?_
    refine hm_iload C d_R_least_83 4 rfl ?_
    obtain ⟨u4, eu4, hf⟩ := hm_bind hf
    obtain ⟨v5, h5, eh5, hf⟩ := hm_and_of hf
    refine hm_callV (vs := [.int x1, .int x4]) (st := []) (sb := [.int v5]) C (c_R_isWay eh5) Y_R_isWay F_4 eu4 k_202 k_203 k_201 (by decide) (by decide) rfl (Nat.le_of_ble_eq_true rfl) d_R_least_85 rfl rfl ?_
    refine hm_if_ne (tgt := 93) C d_R_least_88 (by decide) (fun z6 => ?_) (fun z6 => ?_)
    · have hf := hm_ifn hf z6
      exact w_f_R_least_93 C hr hlk hk32 hf
    · have hf := hm_ifp hf z6
      refine hm_iconst (v := (-1 : Int32)) C d_R_least_91 (by decide) ?_
      exact hm_iret C hr hlk d_R_least_92 hf
set_option maxRecDepth 20000 in
set_option maxHeartbeats 1000000 in
theorem w_g_R_least_32 {p : Program} {l : Launch} {e : Env} {R : Room} {s : State} {m : MethodId} {args : Array Value} {below : List Frame} {meth : Method} {c : Code} {E : hm_E} {n0 s0 F : Nat} {r : Int32} {h h' : hm_T} {x0 : Nat} {x1 : Int32} {x2 : Int32} {x3 : Int32} {x4 : Int32} {k32 : Nat → Int32 → Int32 → Int32 → Int32 → hm_T → Option (Int32 × hm_T)} (C : hm_C E prog_6_method_32_code 7 "DistanceLabelsModel" 3 65 n0 s0 (hm_n h') (hm_s h') p R s m args c) (hr : meth.sig.returnType = (some .int)) (hlk : meth.locks = false) (hk32 : ∀ (y0 : Nat) (y1 : Int32) (y2 : Int32) (y3 : Int32) (y4 : Int32) (g : hm_T), k32 y0 y1 y2 y3 y4 g = some (r, h') → hm_G E 7 n0 s0 (hm_n h') (hm_s h') p l e R s m args below meth c (MQ below (hm_Qc E (some (.int r)) h') args s (hm_n h' - n0) (hm_s h' - s0) (fun q => E.2.2 ≤ q)) 32 [(0, .ref y0), (1, .int y1), (2, .int y2), (3, .int y3), (4, .int y4)] [] g) (hf : g_R_least_32 F k32 x0 x1 x2 x3 x4 h = some (r, h')) : hm_G E 7 n0 s0 (hm_n h') (hm_s h') p l e R s m args below meth c (MQ below (hm_Qc E (some (.int r)) h') args s (hm_n h' - n0) (hm_s h' - s0) (fun q => E.2.2 ≤ q)) 32 [(0, .ref x0), (1, .int x1), (2, .int x2), (3, .int x3), (4, .int x4)] [] h := by
  unfold g_R_least_32 at hf
  refine hm_iload C d_R_least_32 4 rfl ?_
  refine hm_aload_n C d_R_least_34 rfl 0 rfl ?_
  obtain ⟨v1, ev1, hf⟩ := hm_bind hf
  refine hm_getI C F_4 1 (by decide) rfl k_159 d_R_least_35 ev1 ?_
  refine hm_icmp_ge (tgt := 227) C d_R_least_38 (by decide) (fun z2 => ?_) (fun z2 => ?_)
  · have hf := hm_ifp hf z2
    refine hm_iload_n C d_R_least_227 rfl 3 rfl ?_
    exact hm_iret C hr hlk d_R_least_228 hf
  · have hf := hm_ifn hf z2
    refine hm_aload_n C d_R_least_41 rfl 0 rfl ?_
    obtain ⟨a3, ea3, hf⟩ := hm_bind hf
    refine hm_getR C F_4 4 (by decide) rfl k_142 d_R_least_42 ea3 ?_
    refine hm_iload C d_R_least_45 4 rfl ?_
    obtain ⟨v4, ev4, hf⟩ := hm_bind hf
    refine hm_baload C d_R_least_47 ev4 ?_
    refine hm_if_eq (tgt := 221) C d_R_least_48 (by decide) (fun z5 => ?_) (fun z5 => ?_)
    · have hf := hm_ifp hf z5
      exact w_f_R_least_221 C hr hlk hk32 hf
    · have hf := hm_ifn hf z5
      refine hm_aload_n C d_R_least_51 rfl 0 rfl ?_
      refine hm_iload C d_R_least_52 4 rfl ?_
      refine hm_iload_n C d_R_least_54 rfl 1 rfl ?_
      obtain ⟨u6, eu6, hf⟩ := hm_bind hf
      obtain ⟨v7, h7, eh7, hf⟩ := hm_and_of hf
      refine hm_callV (vs := [.int x4, .int x1]) (st := []) (sb := [.int v7]) C (c_R_isWay eh7) Y_R_isWay F_4 eu6 k_202 k_203 k_201 (by decide) (by decide) rfl (Nat.le_of_ble_eq_true rfl) d_R_least_55 rfl rfl ?_
      refine hm_if_eq (tgt := 71) C d_R_least_58 (by decide) (fun z8 => ?_) (fun z8 => ?_)
      · have hf := hm_ifp hf z8
        exact w_f_R_least_71 C hr hlk hk32 hf
      · have hf := hm_ifn hf z8
        refine hm_aload_n C d_R_least_61 rfl 0 rfl ?_
        refine hm_iload C d_R_least_62 4 rfl ?_
        refine hm_iload_n C d_R_least_64 rfl 2 rfl ?_
        obtain ⟨u9, eu9, hf⟩ := hm_bind hf
        obtain ⟨v10, h10, eh10, hf⟩ := hm_and_of hf
        refine hm_callV (vs := [.int x4, .int x2]) (st := []) (sb := [.int v10]) C (c_R_isWay eh10) Y_R_isWay F_4 eu9 k_202 k_203 k_201 (by decide) (by decide) rfl (Nat.le_of_ble_eq_true rfl) d_R_least_65 rfl rfl ?_
        refine hm_if_eq (tgt := 91) C d_R_least_68 (by decide) (fun z11 => ?_) (fun z11 => ?_)
        · have hf := hm_ifp hf z11
          refine hm_iconst (v := (-1 : Int32)) C d_R_least_91 (by decide) ?_
          exact hm_iret C hr hlk d_R_least_92 hf
        · have hf := hm_ifn hf z11
          exact w_f_R_least_71 C hr hlk hk32 hf
theorem w_R_least_32L {p : Program} {l : Launch} {e : Env} {R : Room} {s : State} {m : MethodId} {args : Array Value} {below : List Frame} {meth : Method} {c : Code} {E : hm_E} {n0 s0 F : Nat} {r : Int32} {h' : hm_T} (C : hm_C E prog_6_method_32_code 7 "DistanceLabelsModel" 3 65 n0 s0 (hm_n h') (hm_s h') p R s m args c) (hr : meth.sig.returnType = (some .int)) (hlk : meth.locks = false) : ∀ (N : Nat) (x0 : Nat) (x1 : Int32) (x2 : Int32) (x3 : Int32) (x4 : Int32) (h : hm_T), f_R_least_32 F N x0 x1 x2 x3 x4 h = some (r, h') → hm_G E 7 n0 s0 (hm_n h') (hm_s h') p l e R s m args below meth c (MQ below (hm_Qc E (some (.int r)) h') args s (hm_n h' - n0) (hm_s h' - s0) (fun q => E.2.2 ≤ q)) 32 [(0, .ref x0), (1, .int x1), (2, .int x2), (3, .int x3), (4, .int x4)] [] h := by
  intro N
  induction N with
  | zero => intro _ _ _ _ _ _ hf; cases hf
  | succ n ih => intro x0 x1 x2 x3 x4 h hf; exact w_g_R_least_32 C hr hlk ih hf
set_option maxRecDepth 20000 in
set_option maxHeartbeats 1000000 in
theorem w_f_R_least {p : Program} {l : Launch} {e : Env} {R : Room} {s : State} {m : MethodId} {args : Array Value} {below : List Frame} {meth : Method} {c : Code} {E : hm_E} {n0 s0 F : Nat} {r : Int32} {h h' : hm_T} {x0 : Nat} {x1 : Int32} {x2 : Int32} (C : hm_C E prog_6_method_32_code 7 "DistanceLabelsModel" 3 65 n0 s0 (hm_n h') (hm_s h') p R s m args c) (hr : meth.sig.returnType = (some .int)) (hlk : meth.locks = false) (hf : f_R_least F x0 x1 x2 h = some (r, h')) : hm_G E 7 n0 s0 (hm_n h') (hm_s h') p l e R s m args below meth c (MQ below (hm_Qc E (some (.int r)) h') args s (hm_n h' - n0) (hm_s h' - s0) (fun q => E.2.2 ≤ q)) 0 [(0, .ref x0), (1, .int x1), (2, .int x2)] [] h := by
  unfold f_R_least at hf
  refine hm_aload_n C d_R_least_0 rfl 0 rfl ?_
  refine hm_iconst (v := (0 : Int32)) C d_R_least_1 (by decide) ?_
  obtain ⟨h1, eh1, hf⟩ := hm_bind hf
  refine hm_putI C F_4 0 (by decide) rfl k_158 (Or.inl rfl) rfl d_R_least_2 eh1 ?_
  refine hm_aload_n C d_R_least_5 rfl 0 rfl ?_
  obtain ⟨v2, ev2, hf⟩ := hm_bind hf
  refine hm_getI C F_4 5 (by decide) rfl k_165 d_R_least_6 ev2 ?_
  refine hm_if_ne (tgt := 15) C d_R_least_9 (by decide) (fun z3 => ?_) (fun z3 => ?_)
  · have hf := hm_ifn hf z3
    refine hm_aload_n C d_R_least_15 rfl 0 rfl ?_
    refine hm_iload_n C d_R_least_16 rfl 1 rfl ?_
    refine hm_iload_n C d_R_least_17 rfl 2 rfl ?_
    obtain ⟨u4, eu4, hf⟩ := hm_bind hf
    obtain ⟨v5, h5, eh5, hf⟩ := hm_and_of hf
    refine hm_callV (vs := [.int x1, .int x2]) (st := []) (sb := [.int v5]) C (c_R_noPair eh5) Y_R_noPair F_4 eu4 k_167 k_168 k_166 (by decide) (by decide) rfl (Nat.le_of_ble_eq_true rfl) d_R_least_18 rfl rfl ?_
    refine hm_if_eq (tgt := 27) C d_R_least_21 (by decide) (fun z6 => ?_) (fun z6 => ?_)
    · have hf := hm_ifp hf z6
      refine hm_iconst (v := (0 : Int32)) C d_R_least_27 (by decide) ?_
      refine hm_istore_n (lv' := [(3, .int (0 : Int32)), (0, .ref x0), (1, .int x1), (2, .int x2)]) C d_R_least_28 rfl (by decide) rfl ?_
      refine hm_iconst (v := (0 : Int32)) C d_R_least_29 (by decide) ?_
      refine hm_istore (lv' := [(4, .int (0 : Int32)), (3, .int (0 : Int32)), (0, .ref x0), (1, .int x1), (2, .int x2)]) C d_R_least_30 (by decide) rfl ?_
      refine hm_sub (lv' := [(0, .ref x0), (1, .int x1), (2, .int x2), (3, .int (0 : Int32)), (4, .int (0 : Int32))]) [2, 3, 4, 1, 0] rfl ?_
      exact w_R_least_32L C hr hlk _ _ _ _ _ _ _ hf
    · have hf := hm_ifn hf z6
      refine hm_bipush (v := (-2 : Int32)) C d_R_least_24 (by decide) ?_
      exact hm_iret C hr hlk d_R_least_26 hf
  · have hf := hm_ifp hf z3
    refine hm_bipush (v := (-4 : Int32)) C d_R_least_12 (by decide) ?_
    exact hm_iret C hr hlk d_R_least_14 hf
set_option maxRecDepth 20000 in
theorem c_R_least {E : hm_E} {l : Launch} {F : Nat} {r : Int32} {h h' : hm_T} {x0 : Nat} {x1 : Int32} {x2 : Int32} (hf : f_R_least F x0 x1 x2 h = some (r, h')) : hm_M E l y_R_least prog_6_method_32_code 7 (some .int) 3 65 [.ref x0, .int x1, .int x2] h (some (.int r)) h' :=
  hm_enter (by decide +kernel) (Nat.le_of_ble_eq_true rfl) (m_f_R_least hf) (fun p e R s m below meth c C hr hlk hin => w_f_R_least C hr hlk hf)
def f_R_most_98 (F : Nat) (x3 : Int32) (h : hm_T) : Option (Int32 × hm_T) :=
  (if (1000000 : Int32) ≤ x3 then some ((-1 : Int32), h) else some (x3, h))
def f_R_most_91 (F : Nat) (k33 : Nat → Int32 → Int32 → Int32 → Int32 → hm_T → Option (Int32 × hm_T)) (x0 : Nat) (x1 : Int32) (x2 : Int32) (x4 : Int32) (t0 : Int32) (h : hm_T) : Option (Int32 × hm_T) :=
  k33 x0 x1 x2 t0 (x4 + (1 : Int32)) h
def f_R_most_90 (F : Nat) (k33 : Nat → Int32 → Int32 → Int32 → Int32 → hm_T → Option (Int32 × hm_T)) (x0 : Nat) (x1 : Int32) (x2 : Int32) (x3 : Int32) (x4 : Int32) (h : hm_T) : Option (Int32 × hm_T) :=
  f_R_most_91 F k33 x0 x1 x2 x4 x3 h
def g_R_most_33 (F : Nat) (k33 : Nat → Int32 → Int32 → Int32 → Int32 → hm_T → Option (Int32 × hm_T)) (x0 : Nat) (x1 : Int32) (x2 : Int32) (x3 : Int32) (x4 : Int32) (h : hm_T) : Option (Int32 × hm_T) :=
  (hm_gi 4 25 1 h x0).bind (fun v1 => (if v1 ≤ x4 then f_R_most_98 F x3 h else (hm_gr 4 25 6 h x0).bind (fun a3 => (hm_ild h a3 (((16 : Int32) * x1) + x4)).bind (fun v4 => (hm_gr 4 25 6 h x0).bind (fun a5 => (hm_ild h a5 (((16 : Int32) * x4) + x2)).bind (fun v6 => (hm_gr 4 25 4 h x0).bind (fun a7 => (hm_zld h a7 x4).bind (fun v8 => (if v8 = 0 then f_R_most_90 F k33 x0 x1 x2 x3 x4 h else (if x3 ≤ (v4 + v6) then f_R_most_90 F k33 x0 x1 x2 x3 x4 h else f_R_most_91 F k33 x0 x1 x2 x4 (v4 + v6) h))))))))))
def f_R_most_33 (F : Nat) : Nat → Nat → Int32 → Int32 → Int32 → Int32 → hm_T → Option (Int32 × hm_T)
  | 0 => fun _ _ _ _ _ _ => none
  | n + 1 => g_R_most_33 F (f_R_most_33 F n)
def f_R_most (F : Nat) (x0 : Nat) (x1 : Int32) (x2 : Int32) (h : hm_T) : Option (Int32 × hm_T) :=
  (hm_pi 4 25 0 h x0 (0 : Int32)).bind (fun h1 => (hm_gi 4 25 5 h1 x0).bind (fun v2 => (if v2 = 0 then some ((-4 : Int32), h1) else (hm_is 4 25 h1 x0).bind (fun u4 => hm_and (f_R_noPair F x0 x1 x2 h1) (fun v5 h5 => (if v5 = 0 then f_R_most_33 F F x0 x1 x2 (1000000 : Int32) (0 : Int32) h5 else some ((-2 : Int32), h5)))))))
theorem m_f_R_most_98 {F : Nat} {r : Int32} {h h' : hm_T} {x3 : Int32} (hf : f_R_most_98 F x3 h = some (r, h')) : hm_le h h' := by
  unfold f_R_most_98 at hf
  by_cases z1 : (1000000 : Int32) ≤ x3
  · have hf := hm_ifp hf z1
    exact (hm_le.ret hf)
  · have hf := hm_ifn hf z1
    exact (hm_le.ret hf)
theorem m_f_R_most_91 {F : Nat} {r : Int32} {h h' : hm_T} {x0 : Nat} {x1 : Int32} {x2 : Int32} {x4 : Int32} {t0 : Int32} {k33 : Nat → Int32 → Int32 → Int32 → Int32 → hm_T → Option (Int32 × hm_T)} (hk33 : ∀ (y0 : Nat) (y1 : Int32) (y2 : Int32) (y3 : Int32) (y4 : Int32) (g : hm_T), k33 y0 y1 y2 y3 y4 g = some (r, h') → hm_le g h') (hf : f_R_most_91 F k33 x0 x1 x2 x4 t0 h = some (r, h')) : hm_le h h' := by
  unfold f_R_most_91 at hf
  exact (hk33 _ _ _ _ _ _ hf)
theorem m_f_R_most_90 {F : Nat} {r : Int32} {h h' : hm_T} {x0 : Nat} {x1 : Int32} {x2 : Int32} {x3 : Int32} {x4 : Int32} {k33 : Nat → Int32 → Int32 → Int32 → Int32 → hm_T → Option (Int32 × hm_T)} (hk33 : ∀ (y0 : Nat) (y1 : Int32) (y2 : Int32) (y3 : Int32) (y4 : Int32) (g : hm_T), k33 y0 y1 y2 y3 y4 g = some (r, h') → hm_le g h') (hf : f_R_most_90 F k33 x0 x1 x2 x3 x4 h = some (r, h')) : hm_le h h' := by
  unfold f_R_most_90 at hf
  exact (m_f_R_most_91 hk33 hf)
theorem m_g_R_most_33 {F : Nat} {r : Int32} {h h' : hm_T} {x0 : Nat} {x1 : Int32} {x2 : Int32} {x3 : Int32} {x4 : Int32} {k33 : Nat → Int32 → Int32 → Int32 → Int32 → hm_T → Option (Int32 × hm_T)} (hk33 : ∀ (y0 : Nat) (y1 : Int32) (y2 : Int32) (y3 : Int32) (y4 : Int32) (g : hm_T), k33 y0 y1 y2 y3 y4 g = some (r, h') → hm_le g h') (hf : g_R_most_33 F k33 x0 x1 x2 x3 x4 h = some (r, h')) : hm_le h h' := by
  unfold g_R_most_33 at hf
  obtain ⟨v1, ev1, hf⟩ := hm_bind hf
  by_cases z2 : v1 ≤ x4
  · have hf := hm_ifp hf z2
    exact (m_f_R_most_98 hf)
  · have hf := hm_ifn hf z2
    obtain ⟨a3, ea3, hf⟩ := hm_bind hf
    obtain ⟨v4, ev4, hf⟩ := hm_bind hf
    obtain ⟨a5, ea5, hf⟩ := hm_bind hf
    obtain ⟨v6, ev6, hf⟩ := hm_bind hf
    obtain ⟨a7, ea7, hf⟩ := hm_bind hf
    obtain ⟨v8, ev8, hf⟩ := hm_bind hf
    by_cases z9 : v8 = 0
    · have hf := hm_ifp hf z9
      exact (m_f_R_most_90 hk33 hf)
    · have hf := hm_ifn hf z9
      by_cases z10 : x3 ≤ (v4 + v6)
      · have hf := hm_ifp hf z10
        exact (m_f_R_most_90 hk33 hf)
      · have hf := hm_ifn hf z10
        exact (m_f_R_most_91 hk33 hf)
theorem m_R_most_33L {F : Nat} {r : Int32} {h' : hm_T} : ∀ (N : Nat) (x0 : Nat) (x1 : Int32) (x2 : Int32) (x3 : Int32) (x4 : Int32) (h : hm_T), f_R_most_33 F N x0 x1 x2 x3 x4 h = some (r, h') → hm_le h h' := by
  intro N
  induction N with
  | zero => intro _ _ _ _ _ _ hf; cases hf
  | succ n ih => intro x0 x1 x2 x3 x4 h hf; exact m_g_R_most_33 ih hf
theorem m_f_R_most {F : Nat} {r : Int32} {h h' : hm_T} {x0 : Nat} {x1 : Int32} {x2 : Int32} (hf : f_R_most F x0 x1 x2 h = some (r, h')) : hm_le h h' := by
  unfold f_R_most at hf
  obtain ⟨h1, eh1, hf⟩ := hm_bind hf
  have mh1 := hm_le.pi eh1
  obtain ⟨v2, ev2, hf⟩ := hm_bind hf
  by_cases z3 : v2 = 0
  · have hf := hm_ifp hf z3
    exact mh1.tr ((hm_le.ret hf))
  · have hf := hm_ifn hf z3
    obtain ⟨u4, eu4, hf⟩ := hm_bind hf
    obtain ⟨v5, h5, eh5, hf⟩ := hm_and_of hf
    have mh5 := m_f_R_noPair eh5
    by_cases z6 : v5 = 0
    · have hf := hm_ifp hf z6
      exact mh1.tr (mh5.tr ((m_R_most_33L _ _ _ _ _ _ _ hf)))
    · have hf := hm_ifn hf z6
      exact mh1.tr (mh5.tr ((hm_le.ret hf)))
set_option maxRecDepth 20000 in
set_option maxHeartbeats 1000000 in
theorem w_f_R_most_98 {p : Program} {l : Launch} {e : Env} {R : Room} {s : State} {m : MethodId} {args : Array Value} {below : List Frame} {meth : Method} {c : Code} {E : hm_E} {n0 s0 F : Nat} {r : Int32} {h h' : hm_T} {x3 : Int32} (C : hm_C E prog_6_method_33_code 6 "DistanceLabelsModel" 3 65 n0 s0 (hm_n h') (hm_s h') p R s m args c) (hr : meth.sig.returnType = (some .int)) (hlk : meth.locks = false) (hf : f_R_most_98 F x3 h = some (r, h')) : hm_G E 6 n0 s0 (hm_n h') (hm_s h') p l e R s m args below meth c (MQ below (hm_Qc E (some (.int r)) h') args s (hm_n h' - n0) (hm_s h' - s0) (fun q => E.2.2 ≤ q)) 98 [(3, .int x3)] [] h := by
  unfold f_R_most_98 at hf
  refine hm_iload_n C d_R_most_98 rfl 0 rfl ?_
  refine hm_ldc (v := (1000000 : Int32)) C k_139 d_R_most_99 ?_
  refine hm_icmp_ge (tgt := 108) C d_R_most_101 (by decide) (fun z1 => ?_) (fun z1 => ?_)
  · have hf := hm_ifp hf z1
    refine hm_iconst (v := (-1 : Int32)) C d_R_most_108 (by decide) ?_
    exact hm_iret C hr hlk d_R_most_109 hf
  · have hf := hm_ifn hf z1
    refine hm_iload_n C d_R_most_104 rfl 0 rfl ?_
    refine hm_goto (tgt := 109) C d_R_most_105 (by decide) ?_
    exact hm_iret C hr hlk d_R_most_109 hf
set_option maxRecDepth 20000 in
set_option maxHeartbeats 1000000 in
theorem w_f_R_most_91 {p : Program} {l : Launch} {e : Env} {R : Room} {s : State} {m : MethodId} {args : Array Value} {below : List Frame} {meth : Method} {c : Code} {E : hm_E} {n0 s0 F : Nat} {r : Int32} {h h' : hm_T} {x0 : Nat} {x1 : Int32} {x2 : Int32} {x4 : Int32} {t0 : Int32} {k33 : Nat → Int32 → Int32 → Int32 → Int32 → hm_T → Option (Int32 × hm_T)} (C : hm_C E prog_6_method_33_code 6 "DistanceLabelsModel" 3 65 n0 s0 (hm_n h') (hm_s h') p R s m args c) (hr : meth.sig.returnType = (some .int)) (hlk : meth.locks = false) (hk33 : ∀ (y0 : Nat) (y1 : Int32) (y2 : Int32) (y3 : Int32) (y4 : Int32) (g : hm_T), k33 y0 y1 y2 y3 y4 g = some (r, h') → hm_G E 6 n0 s0 (hm_n h') (hm_s h') p l e R s m args below meth c (MQ below (hm_Qc E (some (.int r)) h') args s (hm_n h' - n0) (hm_s h' - s0) (fun q => E.2.2 ≤ q)) 33 [(0, .ref y0), (1, .int y1), (2, .int y2), (3, .int y3), (4, .int y4)] [] g) (hf : f_R_most_91 F k33 x0 x1 x2 x4 t0 h = some (r, h')) : hm_G E 6 n0 s0 (hm_n h') (hm_s h') p l e R s m args below meth c (MQ below (hm_Qc E (some (.int r)) h') args s (hm_n h' - n0) (hm_s h' - s0) (fun q => E.2.2 ≤ q)) 91 [(0, .ref x0), (1, .int x1), (2, .int x2), (4, .int x4)] [.int t0] h := by
  unfold f_R_most_91 at hf
  refine hm_istore_n (lv' := [(3, .int t0), (0, .ref x0), (1, .int x1), (2, .int x2), (4, .int x4)]) C d_R_most_91 rfl (by decide) rfl ?_
  refine hm_iinc (v := (x4 + (1 : Int32))) (lv' := [(4, .int (x4 + (1 : Int32))), (3, .int t0), (0, .ref x0), (1, .int x1), (2, .int x2)]) C d_R_most_92 4 rfl rfl (by decide) rfl ?_
  refine hm_goto (tgt := 33) C d_R_most_95 (by decide) ?_
  refine hm_sub (lv' := [(0, .ref x0), (1, .int x1), (2, .int x2), (3, .int t0), (4, .int (x4 + (1 : Int32)))]) [2, 3, 4, 1, 0] rfl ?_
  exact hk33 _ _ _ _ _ _ hf
set_option maxRecDepth 20000 in
set_option maxHeartbeats 1000000 in
theorem w_f_R_most_90 {p : Program} {l : Launch} {e : Env} {R : Room} {s : State} {m : MethodId} {args : Array Value} {below : List Frame} {meth : Method} {c : Code} {E : hm_E} {n0 s0 F : Nat} {r : Int32} {h h' : hm_T} {x0 : Nat} {x1 : Int32} {x2 : Int32} {x3 : Int32} {x4 : Int32} {k33 : Nat → Int32 → Int32 → Int32 → Int32 → hm_T → Option (Int32 × hm_T)} (C : hm_C E prog_6_method_33_code 6 "DistanceLabelsModel" 3 65 n0 s0 (hm_n h') (hm_s h') p R s m args c) (hr : meth.sig.returnType = (some .int)) (hlk : meth.locks = false) (hk33 : ∀ (y0 : Nat) (y1 : Int32) (y2 : Int32) (y3 : Int32) (y4 : Int32) (g : hm_T), k33 y0 y1 y2 y3 y4 g = some (r, h') → hm_G E 6 n0 s0 (hm_n h') (hm_s h') p l e R s m args below meth c (MQ below (hm_Qc E (some (.int r)) h') args s (hm_n h' - n0) (hm_s h' - s0) (fun q => E.2.2 ≤ q)) 33 [(0, .ref y0), (1, .int y1), (2, .int y2), (3, .int y3), (4, .int y4)] [] g) (hf : f_R_most_90 F k33 x0 x1 x2 x3 x4 h = some (r, h')) : hm_G E 6 n0 s0 (hm_n h') (hm_s h') p l e R s m args below meth c (MQ below (hm_Qc E (some (.int r)) h') args s (hm_n h' - n0) (hm_s h' - s0) (fun q => E.2.2 ≤ q)) 90 [(0, .ref x0), (1, .int x1), (2, .int x2), (3, .int x3), (4, .int x4)] [] h := by
  unfold f_R_most_90 at hf
  refine hm_iload_n C d_R_most_90 rfl 3 rfl ?_
  refine hm_sub (lv' := [(0, .ref x0), (1, .int x1), (2, .int x2), (4, .int x4)]) [0, 1, 2, 4] rfl ?_
  exact w_f_R_most_91 C hr hlk hk33 hf
set_option maxRecDepth 20000 in
set_option maxHeartbeats 1000000 in
theorem w_g_R_most_33 {p : Program} {l : Launch} {e : Env} {R : Room} {s : State} {m : MethodId} {args : Array Value} {below : List Frame} {meth : Method} {c : Code} {E : hm_E} {n0 s0 F : Nat} {r : Int32} {h h' : hm_T} {x0 : Nat} {x1 : Int32} {x2 : Int32} {x3 : Int32} {x4 : Int32} {k33 : Nat → Int32 → Int32 → Int32 → Int32 → hm_T → Option (Int32 × hm_T)} (C : hm_C E prog_6_method_33_code 6 "DistanceLabelsModel" 3 65 n0 s0 (hm_n h') (hm_s h') p R s m args c) (hr : meth.sig.returnType = (some .int)) (hlk : meth.locks = false) (hk33 : ∀ (y0 : Nat) (y1 : Int32) (y2 : Int32) (y3 : Int32) (y4 : Int32) (g : hm_T), k33 y0 y1 y2 y3 y4 g = some (r, h') → hm_G E 6 n0 s0 (hm_n h') (hm_s h') p l e R s m args below meth c (MQ below (hm_Qc E (some (.int r)) h') args s (hm_n h' - n0) (hm_s h' - s0) (fun q => E.2.2 ≤ q)) 33 [(0, .ref y0), (1, .int y1), (2, .int y2), (3, .int y3), (4, .int y4)] [] g) (hf : g_R_most_33 F k33 x0 x1 x2 x3 x4 h = some (r, h')) : hm_G E 6 n0 s0 (hm_n h') (hm_s h') p l e R s m args below meth c (MQ below (hm_Qc E (some (.int r)) h') args s (hm_n h' - n0) (hm_s h' - s0) (fun q => E.2.2 ≤ q)) 33 [(0, .ref x0), (1, .int x1), (2, .int x2), (3, .int x3), (4, .int x4)] [] h := by
  unfold g_R_most_33 at hf
  refine hm_iload C d_R_most_33 4 rfl ?_
  refine hm_aload_n C d_R_most_35 rfl 0 rfl ?_
  obtain ⟨v1, ev1, hf⟩ := hm_bind hf
  refine hm_getI C F_4 1 (by decide) rfl k_159 d_R_most_36 ev1 ?_
  refine hm_icmp_ge (tgt := 98) C d_R_most_39 (by decide) (fun z2 => ?_) (fun z2 => ?_)
  · have hf := hm_ifp hf z2
    refine hm_sub (lv' := [(3, .int x3)]) [3] rfl ?_
    exact w_f_R_most_98 C hr hlk hf
  · have hf := hm_ifn hf z2
    refine hm_aload_n C d_R_most_42 rfl 0 rfl ?_
    obtain ⟨a3, ea3, hf⟩ := hm_bind hf
    refine hm_getR C F_4 6 (by decide) rfl k_143 d_R_most_43 ea3 ?_
    refine hm_bipush (v := (16 : Int32)) C d_R_most_46 (by decide) ?_
    refine hm_iload_n C d_R_most_48 rfl 1 rfl ?_
    refine hm_imul C d_R_most_49 ?_
    refine hm_iload C d_R_most_50 4 rfl ?_
    refine hm_iadd C d_R_most_52 ?_
    obtain ⟨v4, ev4, hf⟩ := hm_bind hf
    refine hm_iaload C d_R_most_53 ev4 ?_
    refine hm_aload_n C d_R_most_54 rfl 0 rfl ?_
    obtain ⟨a5, ea5, hf⟩ := hm_bind hf
    refine hm_getR C F_4 6 (by decide) rfl k_143 d_R_most_55 ea5 ?_
    refine hm_bipush (v := (16 : Int32)) C d_R_most_58 (by decide) ?_
    refine hm_iload C d_R_most_60 4 rfl ?_
    refine hm_imul C d_R_most_62 ?_
    refine hm_iload_n C d_R_most_63 rfl 2 rfl ?_
    refine hm_iadd C d_R_most_64 ?_
    obtain ⟨v6, ev6, hf⟩ := hm_bind hf
    refine hm_iaload C d_R_most_65 ev6 ?_
    refine hm_iadd C d_R_most_66 ?_
    refine hm_istore (lv' := [(5, .int (v4 + v6)), (0, .ref x0), (1, .int x1), (2, .int x2), (3, .int x3), (4, .int x4)]) C d_R_most_67 (by decide) rfl ?_
    refine hm_aload_n C d_R_most_69 rfl 1 rfl ?_
    obtain ⟨a7, ea7, hf⟩ := hm_bind hf
    refine hm_getR C F_4 4 (by decide) rfl k_142 d_R_most_70 ea7 ?_
    refine hm_iload C d_R_most_73 5 rfl ?_
    obtain ⟨v8, ev8, hf⟩ := hm_bind hf
    refine hm_baload C d_R_most_75 ev8 ?_
    refine hm_if_eq (tgt := 90) C d_R_most_76 (by decide) (fun z9 => ?_) (fun z9 => ?_)
    · have hf := hm_ifp hf z9
      refine hm_sub (lv' := [(0, .ref x0), (1, .int x1), (2, .int x2), (3, .int x3), (4, .int x4)]) [1, 2, 3, 4, 5] rfl ?_
      exact w_f_R_most_90 C hr hlk hk33 hf
    · have hf := hm_ifn hf z9
      refine hm_iload C d_R_most_79 0 rfl ?_
      refine hm_iload_n C d_R_most_81 rfl 4 rfl ?_
      refine hm_icmp_ge (tgt := 90) C d_R_most_82 (by decide) (fun z10 => ?_) (fun z10 => ?_)
      · have hf := hm_ifp hf z10
        refine hm_sub (lv' := [(0, .ref x0), (1, .int x1), (2, .int x2), (3, .int x3), (4, .int x4)]) [1, 2, 3, 4, 5] rfl ?_
        exact w_f_R_most_90 C hr hlk hk33 hf
      · have hf := hm_ifn hf z10
        refine hm_iload C d_R_most_85 0 rfl ?_
        refine hm_goto (tgt := 91) C d_R_most_87 (by decide) ?_
        refine hm_sub (lv' := [(0, .ref x0), (1, .int x1), (2, .int x2), (4, .int x4)]) [1, 2, 3, 5] rfl ?_
        exact w_f_R_most_91 C hr hlk hk33 hf
theorem w_R_most_33L {p : Program} {l : Launch} {e : Env} {R : Room} {s : State} {m : MethodId} {args : Array Value} {below : List Frame} {meth : Method} {c : Code} {E : hm_E} {n0 s0 F : Nat} {r : Int32} {h' : hm_T} (C : hm_C E prog_6_method_33_code 6 "DistanceLabelsModel" 3 65 n0 s0 (hm_n h') (hm_s h') p R s m args c) (hr : meth.sig.returnType = (some .int)) (hlk : meth.locks = false) : ∀ (N : Nat) (x0 : Nat) (x1 : Int32) (x2 : Int32) (x3 : Int32) (x4 : Int32) (h : hm_T), f_R_most_33 F N x0 x1 x2 x3 x4 h = some (r, h') → hm_G E 6 n0 s0 (hm_n h') (hm_s h') p l e R s m args below meth c (MQ below (hm_Qc E (some (.int r)) h') args s (hm_n h' - n0) (hm_s h' - s0) (fun q => E.2.2 ≤ q)) 33 [(0, .ref x0), (1, .int x1), (2, .int x2), (3, .int x3), (4, .int x4)] [] h := by
  intro N
  induction N with
  | zero => intro _ _ _ _ _ _ hf; cases hf
  | succ n ih => intro x0 x1 x2 x3 x4 h hf; exact w_g_R_most_33 C hr hlk ih hf
set_option maxRecDepth 20000 in
set_option maxHeartbeats 1000000 in
theorem w_f_R_most {p : Program} {l : Launch} {e : Env} {R : Room} {s : State} {m : MethodId} {args : Array Value} {below : List Frame} {meth : Method} {c : Code} {E : hm_E} {n0 s0 F : Nat} {r : Int32} {h h' : hm_T} {x0 : Nat} {x1 : Int32} {x2 : Int32} (C : hm_C E prog_6_method_33_code 6 "DistanceLabelsModel" 3 65 n0 s0 (hm_n h') (hm_s h') p R s m args c) (hr : meth.sig.returnType = (some .int)) (hlk : meth.locks = false) (hf : f_R_most F x0 x1 x2 h = some (r, h')) : hm_G E 6 n0 s0 (hm_n h') (hm_s h') p l e R s m args below meth c (MQ below (hm_Qc E (some (.int r)) h') args s (hm_n h' - n0) (hm_s h' - s0) (fun q => E.2.2 ≤ q)) 0 [(0, .ref x0), (1, .int x1), (2, .int x2)] [] h := by
  unfold f_R_most at hf
  refine hm_aload_n C d_R_most_0 rfl 0 rfl ?_
  refine hm_iconst (v := (0 : Int32)) C d_R_most_1 (by decide) ?_
  obtain ⟨h1, eh1, hf⟩ := hm_bind hf
  refine hm_putI C F_4 0 (by decide) rfl k_158 (Or.inl rfl) rfl d_R_most_2 eh1 ?_
  refine hm_aload_n C d_R_most_5 rfl 0 rfl ?_
  obtain ⟨v2, ev2, hf⟩ := hm_bind hf
  refine hm_getI C F_4 5 (by decide) rfl k_165 d_R_most_6 ev2 ?_
  refine hm_if_ne (tgt := 15) C d_R_most_9 (by decide) (fun z3 => ?_) (fun z3 => ?_)
  · have hf := hm_ifn hf z3
    refine hm_aload_n C d_R_most_15 rfl 0 rfl ?_
    refine hm_iload_n C d_R_most_16 rfl 1 rfl ?_
    refine hm_iload_n C d_R_most_17 rfl 2 rfl ?_
    obtain ⟨u4, eu4, hf⟩ := hm_bind hf
    obtain ⟨v5, h5, eh5, hf⟩ := hm_and_of hf
    refine hm_callV (vs := [.int x1, .int x2]) (st := []) (sb := [.int v5]) C (c_R_noPair eh5) Y_R_noPair F_4 eu4 k_167 k_168 k_166 (by decide) (by decide) rfl (Nat.le_of_ble_eq_true rfl) d_R_most_18 rfl rfl ?_
    refine hm_if_eq (tgt := 27) C d_R_most_21 (by decide) (fun z6 => ?_) (fun z6 => ?_)
    · have hf := hm_ifp hf z6
      refine hm_ldc (v := (1000000 : Int32)) C k_139 d_R_most_27 ?_
      refine hm_istore_n (lv' := [(3, .int (1000000 : Int32)), (0, .ref x0), (1, .int x1), (2, .int x2)]) C d_R_most_29 rfl (by decide) rfl ?_
      refine hm_iconst (v := (0 : Int32)) C d_R_most_30 (by decide) ?_
      refine hm_istore (lv' := [(4, .int (0 : Int32)), (3, .int (1000000 : Int32)), (0, .ref x0), (1, .int x1), (2, .int x2)]) C d_R_most_31 (by decide) rfl ?_
      refine hm_sub (lv' := [(0, .ref x0), (1, .int x1), (2, .int x2), (3, .int (1000000 : Int32)), (4, .int (0 : Int32))]) [2, 3, 4, 1, 0] rfl ?_
      exact w_R_most_33L C hr hlk _ _ _ _ _ _ _ hf
    · have hf := hm_ifn hf z6
      refine hm_bipush (v := (-2 : Int32)) C d_R_most_24 (by decide) ?_
      exact hm_iret C hr hlk d_R_most_26 hf
  · have hf := hm_ifp hf z3
    refine hm_bipush (v := (-4 : Int32)) C d_R_most_12 (by decide) ?_
    exact hm_iret C hr hlk d_R_most_14 hf
set_option maxRecDepth 20000 in
theorem c_R_most {E : hm_E} {l : Launch} {F : Nat} {r : Int32} {h h' : hm_T} {x0 : Nat} {x1 : Int32} {x2 : Int32} (hf : f_R_most F x0 x1 x2 h = some (r, h')) : hm_M E l y_R_most prog_6_method_33_code 6 (some .int) 3 65 [.ref x0, .int x1, .int x2] h (some (.int r)) h' :=
  hm_enter (by decide +kernel) (Nat.le_of_ble_eq_true rfl) (m_f_R_most hf) (fun p e R s m below meth c C hr hlk hin => w_f_R_most C hr hlk hf)
def f_R_count_72 (F : Nat) (k47 : Nat → Int32 → Int32 → hm_T → Option (Int32 × hm_T)) (x0 : Nat) (x3 : Int32) (t0 : Int32) (h : hm_T) : Option (Int32 × hm_T) :=
  k47 x0 t0 (x3 + (1 : Int32)) h
def g_R_count_47 (F : Nat) (k47 : Nat → Int32 → Int32 → hm_T → Option (Int32 × hm_T)) (x0 : Nat) (x2 : Int32) (x3 : Int32) (h : hm_T) : Option (Int32 × hm_T) :=
  (if (256 : Int32) ≤ x3 then some (x2, h) else (hm_gr 4 25 2 h x0).bind (fun a2 => (hm_ild h a2 x3).bind (fun v3 => (if (1000000 : Int32) ≤ v3 then f_R_count_72 F k47 x0 x3 x2 h else f_R_count_72 F k47 x0 x3 (x2 + (1 : Int32)) h))))
def f_R_count_47 (F : Nat) : Nat → Nat → Int32 → Int32 → hm_T → Option (Int32 × hm_T)
  | 0 => fun _ _ _ _ => none
  | n + 1 => g_R_count_47 F (f_R_count_47 F n)
def f_R_count (F : Nat) (x0 : Nat) (x1 : Int32) (h : hm_T) : Option (Int32 × hm_T) :=
  (hm_pi 4 25 0 h x0 (0 : Int32)).bind (fun h1 => (if x1 = (0 : Int32) then (hm_gi 4 25 1 h1 x0).bind (fun v3 => some (v3, h1)) else (if x1 = (1 : Int32) then f_R_count_47 F F x0 (0 : Int32) (0 : Int32) h1 else (if x1 = (2 : Int32) then (hm_is 4 25 h1 x0).bind (fun u6 => hm_and (f_R_marks F x0 h1) (fun v7 h7 => some (v7, h7))) else (if x1 = (3 : Int32) then (hm_gi 4 25 5 h1 x0).bind (fun v9 => (if v9 = 0 then some ((0 : Int32), h1) else some ((1 : Int32), h1))) else some ((-2 : Int32), h1))))))
theorem m_f_R_count_72 {F : Nat} {r : Int32} {h h' : hm_T} {x0 : Nat} {x3 : Int32} {t0 : Int32} {k47 : Nat → Int32 → Int32 → hm_T → Option (Int32 × hm_T)} (hk47 : ∀ (y0 : Nat) (y2 : Int32) (y3 : Int32) (g : hm_T), k47 y0 y2 y3 g = some (r, h') → hm_le g h') (hf : f_R_count_72 F k47 x0 x3 t0 h = some (r, h')) : hm_le h h' := by
  unfold f_R_count_72 at hf
  exact (hk47 _ _ _ _ hf)
theorem m_g_R_count_47 {F : Nat} {r : Int32} {h h' : hm_T} {x0 : Nat} {x2 : Int32} {x3 : Int32} {k47 : Nat → Int32 → Int32 → hm_T → Option (Int32 × hm_T)} (hk47 : ∀ (y0 : Nat) (y2 : Int32) (y3 : Int32) (g : hm_T), k47 y0 y2 y3 g = some (r, h') → hm_le g h') (hf : g_R_count_47 F k47 x0 x2 x3 h = some (r, h')) : hm_le h h' := by
  unfold g_R_count_47 at hf
  by_cases z1 : (256 : Int32) ≤ x3
  · have hf := hm_ifp hf z1
    exact (hm_le.ret hf)
  · have hf := hm_ifn hf z1
    obtain ⟨a2, ea2, hf⟩ := hm_bind hf
    obtain ⟨v3, ev3, hf⟩ := hm_bind hf
    by_cases z4 : (1000000 : Int32) ≤ v3
    · have hf := hm_ifp hf z4
      exact (m_f_R_count_72 hk47 hf)
    · have hf := hm_ifn hf z4
      exact (m_f_R_count_72 hk47 hf)
theorem m_R_count_47L {F : Nat} {r : Int32} {h' : hm_T} : ∀ (N : Nat) (x0 : Nat) (x2 : Int32) (x3 : Int32) (h : hm_T), f_R_count_47 F N x0 x2 x3 h = some (r, h') → hm_le h h' := by
  intro N
  induction N with
  | zero => intro _ _ _ _ hf; cases hf
  | succ n ih => intro x0 x2 x3 h hf; exact m_g_R_count_47 ih hf
theorem m_f_R_count {F : Nat} {r : Int32} {h h' : hm_T} {x0 : Nat} {x1 : Int32} (hf : f_R_count F x0 x1 h = some (r, h')) : hm_le h h' := by
  unfold f_R_count at hf
  obtain ⟨h1, eh1, hf⟩ := hm_bind hf
  have mh1 := hm_le.pi eh1
  by_cases z2 : x1 = (0 : Int32)
  · have hf := hm_ifp hf z2
    obtain ⟨v3, ev3, hf⟩ := hm_bind hf
    exact mh1.tr ((hm_le.ret hf))
  · have hf := hm_ifn hf z2
    by_cases z4 : x1 = (1 : Int32)
    · have hf := hm_ifp hf z4
      exact mh1.tr ((m_R_count_47L _ _ _ _ _ hf))
    · have hf := hm_ifn hf z4
      by_cases z5 : x1 = (2 : Int32)
      · have hf := hm_ifp hf z5
        obtain ⟨u6, eu6, hf⟩ := hm_bind hf
        obtain ⟨v7, h7, eh7, hf⟩ := hm_and_of hf
        have mh7 := m_f_R_marks eh7
        exact mh1.tr (mh7.tr ((hm_le.ret hf)))
      · have hf := hm_ifn hf z5
        by_cases z8 : x1 = (3 : Int32)
        · have hf := hm_ifp hf z8
          obtain ⟨v9, ev9, hf⟩ := hm_bind hf
          by_cases z10 : v9 = 0
          · have hf := hm_ifp hf z10
            exact mh1.tr ((hm_le.ret hf))
          · have hf := hm_ifn hf z10
            exact mh1.tr ((hm_le.ret hf))
        · have hf := hm_ifn hf z8
          exact mh1.tr ((hm_le.ret hf))
set_option maxRecDepth 20000 in
set_option maxHeartbeats 1000000 in
theorem w_f_R_count_72 {p : Program} {l : Launch} {e : Env} {R : Room} {s : State} {m : MethodId} {args : Array Value} {below : List Frame} {meth : Method} {c : Code} {E : hm_E} {n0 s0 F : Nat} {r : Int32} {h h' : hm_T} {x0 : Nat} {x3 : Int32} {t0 : Int32} {k47 : Nat → Int32 → Int32 → hm_T → Option (Int32 × hm_T)} (C : hm_C E prog_6_method_34_code 4 "DistanceLabelsModel" 1 22 n0 s0 (hm_n h') (hm_s h') p R s m args c) (hr : meth.sig.returnType = (some .int)) (hlk : meth.locks = false) (hk47 : ∀ (y0 : Nat) (y2 : Int32) (y3 : Int32) (g : hm_T), k47 y0 y2 y3 g = some (r, h') → hm_G E 4 n0 s0 (hm_n h') (hm_s h') p l e R s m args below meth c (MQ below (hm_Qc E (some (.int r)) h') args s (hm_n h' - n0) (hm_s h' - s0) (fun q => E.2.2 ≤ q)) 47 [(0, .ref y0), (2, .int y2), (3, .int y3)] [] g) (hf : f_R_count_72 F k47 x0 x3 t0 h = some (r, h')) : hm_G E 4 n0 s0 (hm_n h') (hm_s h') p l e R s m args below meth c (MQ below (hm_Qc E (some (.int r)) h') args s (hm_n h' - n0) (hm_s h' - s0) (fun q => E.2.2 ≤ q)) 72 [(0, .ref x0), (3, .int x3)] [.int t0] h := by
  unfold f_R_count_72 at hf
  refine hm_istore_n (lv' := [(2, .int t0), (0, .ref x0), (3, .int x3)]) C d_R_count_72 rfl (by decide) rfl ?_
  refine hm_iinc (v := (x3 + (1 : Int32))) (lv' := [(3, .int (x3 + (1 : Int32))), (2, .int t0), (0, .ref x0)]) C d_R_count_73 2 rfl rfl (by decide) rfl ?_
  refine hm_goto (tgt := 47) C d_R_count_76 (by decide) ?_
  refine hm_sub (lv' := [(0, .ref x0), (2, .int t0), (3, .int (x3 + (1 : Int32)))]) [2, 1, 0] rfl ?_
  exact hk47 _ _ _ _ hf
set_option maxRecDepth 20000 in
set_option maxHeartbeats 1000000 in
theorem w_g_R_count_47 {p : Program} {l : Launch} {e : Env} {R : Room} {s : State} {m : MethodId} {args : Array Value} {below : List Frame} {meth : Method} {c : Code} {E : hm_E} {n0 s0 F : Nat} {r : Int32} {h h' : hm_T} {x0 : Nat} {x2 : Int32} {x3 : Int32} {k47 : Nat → Int32 → Int32 → hm_T → Option (Int32 × hm_T)} (C : hm_C E prog_6_method_34_code 4 "DistanceLabelsModel" 1 22 n0 s0 (hm_n h') (hm_s h') p R s m args c) (hr : meth.sig.returnType = (some .int)) (hlk : meth.locks = false) (hk47 : ∀ (y0 : Nat) (y2 : Int32) (y3 : Int32) (g : hm_T), k47 y0 y2 y3 g = some (r, h') → hm_G E 4 n0 s0 (hm_n h') (hm_s h') p l e R s m args below meth c (MQ below (hm_Qc E (some (.int r)) h') args s (hm_n h' - n0) (hm_s h' - s0) (fun q => E.2.2 ≤ q)) 47 [(0, .ref y0), (2, .int y2), (3, .int y3)] [] g) (hf : g_R_count_47 F k47 x0 x2 x3 h = some (r, h')) : hm_G E 4 n0 s0 (hm_n h') (hm_s h') p l e R s m args below meth c (MQ below (hm_Qc E (some (.int r)) h') args s (hm_n h' - n0) (hm_s h' - s0) (fun q => E.2.2 ≤ q)) 47 [(0, .ref x0), (2, .int x2), (3, .int x3)] [] h := by
  unfold g_R_count_47 at hf
  refine hm_iload_n C d_R_count_47 rfl 2 rfl ?_
  refine hm_sipush (v := (256 : Int32)) C d_R_count_48 (by decide) ?_
  refine hm_icmp_ge (tgt := 79) C d_R_count_51 (by decide) (fun z1 => ?_) (fun z1 => ?_)
  · have hf := hm_ifp hf z1
    refine hm_iload_n C d_R_count_79 rfl 1 rfl ?_
    exact hm_iret C hr hlk d_R_count_80 hf
  · have hf := hm_ifn hf z1
    refine hm_aload_n C d_R_count_54 rfl 0 rfl ?_
    obtain ⟨a2, ea2, hf⟩ := hm_bind hf
    refine hm_getR C F_4 2 (by decide) rfl k_138 d_R_count_55 ea2 ?_
    refine hm_iload_n C d_R_count_58 rfl 2 rfl ?_
    obtain ⟨v3, ev3, hf⟩ := hm_bind hf
    refine hm_iaload C d_R_count_59 ev3 ?_
    refine hm_ldc (v := (1000000 : Int32)) C k_139 d_R_count_60 ?_
    refine hm_icmp_ge (tgt := 71) C d_R_count_62 (by decide) (fun z4 => ?_) (fun z4 => ?_)
    · have hf := hm_ifp hf z4
      refine hm_iload_n C d_R_count_71 rfl 1 rfl ?_
      refine hm_sub (lv' := [(0, .ref x0), (3, .int x3)]) [0, 2] rfl ?_
      exact w_f_R_count_72 C hr hlk hk47 hf
    · have hf := hm_ifn hf z4
      refine hm_iload_n C d_R_count_65 rfl 1 rfl ?_
      refine hm_iconst (v := (1 : Int32)) C d_R_count_66 (by decide) ?_
      refine hm_iadd C d_R_count_67 ?_
      refine hm_goto (tgt := 72) C d_R_count_68 (by decide) ?_
      refine hm_sub (lv' := [(0, .ref x0), (3, .int x3)]) [0, 2] rfl ?_
      exact w_f_R_count_72 C hr hlk hk47 hf
theorem w_R_count_47L {p : Program} {l : Launch} {e : Env} {R : Room} {s : State} {m : MethodId} {args : Array Value} {below : List Frame} {meth : Method} {c : Code} {E : hm_E} {n0 s0 F : Nat} {r : Int32} {h' : hm_T} (C : hm_C E prog_6_method_34_code 4 "DistanceLabelsModel" 1 22 n0 s0 (hm_n h') (hm_s h') p R s m args c) (hr : meth.sig.returnType = (some .int)) (hlk : meth.locks = false) : ∀ (N : Nat) (x0 : Nat) (x2 : Int32) (x3 : Int32) (h : hm_T), f_R_count_47 F N x0 x2 x3 h = some (r, h') → hm_G E 4 n0 s0 (hm_n h') (hm_s h') p l e R s m args below meth c (MQ below (hm_Qc E (some (.int r)) h') args s (hm_n h' - n0) (hm_s h' - s0) (fun q => E.2.2 ≤ q)) 47 [(0, .ref x0), (2, .int x2), (3, .int x3)] [] h := by
  intro N
  induction N with
  | zero => intro _ _ _ _ hf; cases hf
  | succ n ih => intro x0 x2 x3 h hf; exact w_g_R_count_47 C hr hlk ih hf
set_option maxRecDepth 20000 in
set_option maxHeartbeats 1000000 in
theorem w_f_R_count {p : Program} {l : Launch} {e : Env} {R : Room} {s : State} {m : MethodId} {args : Array Value} {below : List Frame} {meth : Method} {c : Code} {E : hm_E} {n0 s0 F : Nat} {r : Int32} {h h' : hm_T} {x0 : Nat} {x1 : Int32} (C : hm_C E prog_6_method_34_code 4 "DistanceLabelsModel" 1 22 n0 s0 (hm_n h') (hm_s h') p R s m args c) (hr : meth.sig.returnType = (some .int)) (hlk : meth.locks = false) (hf : f_R_count F x0 x1 h = some (r, h')) : hm_G E 4 n0 s0 (hm_n h') (hm_s h') p l e R s m args below meth c (MQ below (hm_Qc E (some (.int r)) h') args s (hm_n h' - n0) (hm_s h' - s0) (fun q => E.2.2 ≤ q)) 0 [(0, .ref x0), (1, .int x1)] [] h := by
  unfold f_R_count at hf
  refine hm_aload_n C d_R_count_0 rfl 0 rfl ?_
  refine hm_iconst (v := (0 : Int32)) C d_R_count_1 (by decide) ?_
  obtain ⟨h1, eh1, hf⟩ := hm_bind hf
  refine hm_putI C F_4 0 (by decide) rfl k_158 (Or.inl rfl) rfl d_R_count_2 eh1 ?_
  refine hm_iconst (v := (0 : Int32)) C d_R_count_5 (by decide) ?_
  refine hm_istore_n (lv' := [(2, .int (0 : Int32)), (0, .ref x0), (1, .int x1)]) C d_R_count_6 rfl (by decide) rfl ?_
  refine hm_iload_n C d_R_count_7 rfl 2 rfl ?_
  by_cases z2 : x1 = (0 : Int32)
  · have hf := hm_ifp hf z2
    refine hm_tswIn (tgt := 40) C d_R_count_8 (by rw [z2]; decide) (by rw [z2]; decide) (by rw [z2]; rfl) (by decide) ?_
    refine hm_aload_n C d_R_count_40 rfl 1 rfl ?_
    obtain ⟨v3, ev3, hf⟩ := hm_bind hf
    refine hm_getI C F_4 1 (by decide) rfl k_159 d_R_count_41 ev3 ?_
    exact hm_iret C hr hlk d_R_count_44 hf
  · have hf := hm_ifn hf z2
    by_cases z4 : x1 = (1 : Int32)
    · have hf := hm_ifp hf z4
      refine hm_tswIn (tgt := 45) C d_R_count_8 (by rw [z4]; decide) (by rw [z4]; decide) (by rw [z4]; rfl) (by decide) ?_
      refine hm_iconst (v := (0 : Int32)) C d_R_count_45 (by decide) ?_
      refine hm_istore_n (lv' := [(3, .int (0 : Int32)), (2, .int (0 : Int32)), (0, .ref x0), (1, .int x1)]) C d_R_count_46 rfl (by decide) rfl ?_
      refine hm_sub (lv' := [(0, .ref x0), (2, .int (0 : Int32)), (3, .int (0 : Int32))]) [2, 1, 0] rfl ?_
      exact w_R_count_47L C hr hlk _ _ _ _ _ hf
    · have hf := hm_ifn hf z4
      by_cases z5 : x1 = (2 : Int32)
      · have hf := hm_ifp hf z5
        refine hm_tswIn (tgt := 81) C d_R_count_8 (by rw [z5]; decide) (by rw [z5]; decide) (by rw [z5]; rfl) (by decide) ?_
        refine hm_aload_n C d_R_count_81 rfl 1 rfl ?_
        obtain ⟨u6, eu6, hf⟩ := hm_bind hf
        obtain ⟨v7, h7, eh7, hf⟩ := hm_and_of hf
        refine hm_callV (vs := []) (st := []) (sb := [.int v7]) C (c_R_marks eh7) Y_R_marks F_4 eu6 k_173 k_174 k_172 (by decide) (by decide) rfl (Nat.le_of_ble_eq_true rfl) d_R_count_82 rfl rfl ?_
        exact hm_iret C hr hlk d_R_count_85 hf
      · have hf := hm_ifn hf z5
        by_cases z8 : x1 = (3 : Int32)
        · have hf := hm_ifp hf z8
          refine hm_tswIn (tgt := 86) C d_R_count_8 (by rw [z8]; decide) (by rw [z8]; decide) (by rw [z8]; rfl) (by decide) ?_
          refine hm_aload_n C d_R_count_86 rfl 1 rfl ?_
          obtain ⟨v9, ev9, hf⟩ := hm_bind hf
          refine hm_getI C F_4 5 (by decide) rfl k_165 d_R_count_87 ev9 ?_
          refine hm_if_eq (tgt := 97) C d_R_count_90 (by decide) (fun z10 => ?_) (fun z10 => ?_)
          · have hf := hm_ifp hf z10
            refine hm_iconst (v := (0 : Int32)) C d_R_count_97 (by decide) ?_
            exact hm_iret C hr hlk d_R_count_98 hf
          · have hf := hm_ifn hf z10
            refine hm_iconst (v := (1 : Int32)) C d_R_count_93 (by decide) ?_
            refine hm_goto (tgt := 98) C d_R_count_94 (by decide) ?_
            exact hm_iret C hr hlk d_R_count_98 hf
        · have hf := hm_ifn hf z8
          refine hm_tswOut (tgt := 99) C d_R_count_8 (by have qz2 := lv_neT z2 (a := 0) (by decide); have qz4 := lv_neT z4 (a := 1) (by decide); have qz5 := lv_neT z5 (a := 2) (by decide); have qz8 := lv_neT z8 (a := 3) (by decide); omega) (by decide) ?_
          refine hm_bipush (v := (-2 : Int32)) C d_R_count_99 (by decide) ?_
          exact hm_iret C hr hlk d_R_count_101 hf
set_option maxRecDepth 20000 in
theorem c_R_count {E : hm_E} {l : Launch} {F : Nat} {r : Int32} {h h' : hm_T} {x0 : Nat} {x1 : Int32} (hf : f_R_count F x0 x1 h = some (r, h')) : hm_M E l y_R_count prog_6_method_34_code 4 (some .int) 1 22 [.ref x0, .int x1] h (some (.int r)) h' :=
  hm_enter (by decide +kernel) (Nat.le_of_ble_eq_true rfl) (m_f_R_count hf) (fun p e R s m below meth c C hr hlk hin => w_f_R_count C hr hlk hf)
