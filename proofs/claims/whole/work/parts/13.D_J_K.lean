def f_K_fromOf (F : Nat) (x0 : Nat) (x1 : Int32) (h : hm_T) : Option (Int32 × hm_T) :=
  (hm_gr 0 7 2 h x0).bind (fun a1 => (hm_ild h a1 x1).bind (fun v2 => (if (256 : Int32) = 0 then none else some ((v2 / (256 : Int32)), h))))
theorem m_f_K_fromOf {F : Nat} {r : Int32} {h h' : hm_T} {x0 : Nat} {x1 : Int32} (hf : f_K_fromOf F x0 x1 h = some (r, h')) : hm_le h h' := by
  unfold f_K_fromOf at hf
  obtain ⟨a1, ea1, hf⟩ := hm_bind hf
  obtain ⟨v2, ev2, hf⟩ := hm_bind hf
  have z3 : ¬ (256 : Int32) = 0 := fun q => by rw [if_pos q] at hf; cases hf
  have hf := hm_ifn hf z3
  exact (hm_le.ret hf)
set_option maxRecDepth 20000 in
set_option maxHeartbeats 1000000 in
theorem w_f_K_fromOf {p : Program} {l : Launch} {e : Env} {R : Room} {s : State} {m : MethodId} {args : Array Value} {below : List Frame} {meth : Method} {c : Code} {E : hm_E} {n0 s0 F : Nat} {r : Int32} {h h' : hm_T} {x0 : Nat} {x1 : Int32} (C : hm_C E prog_2_method_5_code 2 "DistanceLabels$Contraction" 0 0 n0 s0 (hm_n h') (hm_s h') p R s m args c) (hr : meth.sig.returnType = (some .int)) (hlk : meth.locks = false) (hf : f_K_fromOf F x0 x1 h = some (r, h')) : hm_G E 2 n0 s0 (hm_n h') (hm_s h') p l e R s m args below meth c (MQ below (hm_Qc E (some (.int r)) h') args s (hm_n h' - n0) (hm_s h' - s0) (fun q => E.2.2 ≤ q)) 0 [(0, .ref x0), (1, .int x1)] [] h := by
  unfold f_K_fromOf at hf
  refine hm_aload_n C d_K_fromOf_0 rfl 0 rfl ?_
  obtain ⟨a1, ea1, hf⟩ := hm_bind hf
  refine hm_getR C F_0 2 (by decide) rfl k_16 d_K_fromOf_1 ea1 ?_
  refine hm_iload_n C d_K_fromOf_4 rfl 1 rfl ?_
  obtain ⟨v2, ev2, hf⟩ := hm_bind hf
  refine hm_iaload C d_K_fromOf_5 ev2 ?_
  refine hm_sipush (v := (256 : Int32)) C d_K_fromOf_6 (by decide) ?_
  have z3 : ¬ (256 : Int32) = 0 := fun q => by rw [if_pos q] at hf; cases hf
  have hf := hm_ifn hf z3
  refine hm_idiv C d_K_fromOf_9 z3 ?_
  exact hm_iret C hr hlk d_K_fromOf_10 hf
set_option maxRecDepth 20000 in
theorem c_K_fromOf {E : hm_E} {l : Launch} {F : Nat} {r : Int32} {h h' : hm_T} {x0 : Nat} {x1 : Int32} (hf : f_K_fromOf F x0 x1 h = some (r, h')) : hm_M E l y_K_fromOf prog_2_method_5_code 2 (some .int) 0 0 [.ref x0, .int x1] h (some (.int r)) h' :=
  hm_enter (by decide +kernel) (Nat.le_of_ble_eq_true rfl) (m_f_K_fromOf hf) (fun p e R s m below meth c C hr hlk hin => w_f_K_fromOf C hr hlk hf)
def f_K_toOf (F : Nat) (x0 : Nat) (x1 : Int32) (h : hm_T) : Option (Int32 × hm_T) :=
  (hm_gr 0 7 2 h x0).bind (fun a1 => (hm_ild h a1 x1).bind (fun v2 => (if (16 : Int32) = 0 then none else (if (16 : Int32) = 0 then none else some (((v2 / (16 : Int32)) - (v2 / (16 : Int32)) / (16 : Int32) * (16 : Int32)), h)))))
theorem m_f_K_toOf {F : Nat} {r : Int32} {h h' : hm_T} {x0 : Nat} {x1 : Int32} (hf : f_K_toOf F x0 x1 h = some (r, h')) : hm_le h h' := by
  unfold f_K_toOf at hf
  obtain ⟨a1, ea1, hf⟩ := hm_bind hf
  obtain ⟨v2, ev2, hf⟩ := hm_bind hf
  have z3 : ¬ (16 : Int32) = 0 := fun q => by rw [if_pos q] at hf; cases hf
  have hf := hm_ifn hf z3
  have z4 : ¬ (16 : Int32) = 0 := fun q => by rw [if_pos q] at hf; cases hf
  have hf := hm_ifn hf z4
  exact (hm_le.ret hf)
set_option maxRecDepth 20000 in
set_option maxHeartbeats 1000000 in
theorem w_f_K_toOf {p : Program} {l : Launch} {e : Env} {R : Room} {s : State} {m : MethodId} {args : Array Value} {below : List Frame} {meth : Method} {c : Code} {E : hm_E} {n0 s0 F : Nat} {r : Int32} {h h' : hm_T} {x0 : Nat} {x1 : Int32} (C : hm_C E prog_2_method_6_code 2 "DistanceLabels$Contraction" 0 0 n0 s0 (hm_n h') (hm_s h') p R s m args c) (hr : meth.sig.returnType = (some .int)) (hlk : meth.locks = false) (hf : f_K_toOf F x0 x1 h = some (r, h')) : hm_G E 2 n0 s0 (hm_n h') (hm_s h') p l e R s m args below meth c (MQ below (hm_Qc E (some (.int r)) h') args s (hm_n h' - n0) (hm_s h' - s0) (fun q => E.2.2 ≤ q)) 0 [(0, .ref x0), (1, .int x1)] [] h := by
  unfold f_K_toOf at hf
  refine hm_aload_n C d_K_toOf_0 rfl 0 rfl ?_
  obtain ⟨a1, ea1, hf⟩ := hm_bind hf
  refine hm_getR C F_0 2 (by decide) rfl k_16 d_K_toOf_1 ea1 ?_
  refine hm_iload_n C d_K_toOf_4 rfl 1 rfl ?_
  obtain ⟨v2, ev2, hf⟩ := hm_bind hf
  refine hm_iaload C d_K_toOf_5 ev2 ?_
  refine hm_bipush (v := (16 : Int32)) C d_K_toOf_6 (by decide) ?_
  have z3 : ¬ (16 : Int32) = 0 := fun q => by rw [if_pos q] at hf; cases hf
  have hf := hm_ifn hf z3
  refine hm_idiv C d_K_toOf_8 z3 ?_
  refine hm_bipush (v := (16 : Int32)) C d_K_toOf_9 (by decide) ?_
  have z4 : ¬ (16 : Int32) = 0 := fun q => by rw [if_pos q] at hf; cases hf
  have hf := hm_ifn hf z4
  refine hm_irem C d_K_toOf_11 z4 ?_
  exact hm_iret C hr hlk d_K_toOf_12 hf
set_option maxRecDepth 20000 in
theorem c_K_toOf {E : hm_E} {l : Launch} {F : Nat} {r : Int32} {h h' : hm_T} {x0 : Nat} {x1 : Int32} (hf : f_K_toOf F x0 x1 h = some (r, h')) : hm_M E l y_K_toOf prog_2_method_6_code 2 (some .int) 0 0 [.ref x0, .int x1] h (some (.int r)) h' :=
  hm_enter (by decide +kernel) (Nat.le_of_ble_eq_true rfl) (m_f_K_toOf hf) (fun p e R s m below meth c C hr hlk hin => w_f_K_toOf C hr hlk hf)
def f_K_byOf (F : Nat) (x0 : Nat) (x1 : Int32) (h : hm_T) : Option (Int32 × hm_T) :=
  (hm_gr 0 7 2 h x0).bind (fun a1 => (hm_ild h a1 x1).bind (fun v2 => (if (16 : Int32) = 0 then none else some ((v2 - v2 / (16 : Int32) * (16 : Int32)), h))))
theorem m_f_K_byOf {F : Nat} {r : Int32} {h h' : hm_T} {x0 : Nat} {x1 : Int32} (hf : f_K_byOf F x0 x1 h = some (r, h')) : hm_le h h' := by
  unfold f_K_byOf at hf
  obtain ⟨a1, ea1, hf⟩ := hm_bind hf
  obtain ⟨v2, ev2, hf⟩ := hm_bind hf
  have z3 : ¬ (16 : Int32) = 0 := fun q => by rw [if_pos q] at hf; cases hf
  have hf := hm_ifn hf z3
  exact (hm_le.ret hf)
set_option maxRecDepth 20000 in
set_option maxHeartbeats 1000000 in
theorem w_f_K_byOf {p : Program} {l : Launch} {e : Env} {R : Room} {s : State} {m : MethodId} {args : Array Value} {below : List Frame} {meth : Method} {c : Code} {E : hm_E} {n0 s0 F : Nat} {r : Int32} {h h' : hm_T} {x0 : Nat} {x1 : Int32} (C : hm_C E prog_2_method_7_code 2 "DistanceLabels$Contraction" 0 0 n0 s0 (hm_n h') (hm_s h') p R s m args c) (hr : meth.sig.returnType = (some .int)) (hlk : meth.locks = false) (hf : f_K_byOf F x0 x1 h = some (r, h')) : hm_G E 2 n0 s0 (hm_n h') (hm_s h') p l e R s m args below meth c (MQ below (hm_Qc E (some (.int r)) h') args s (hm_n h' - n0) (hm_s h' - s0) (fun q => E.2.2 ≤ q)) 0 [(0, .ref x0), (1, .int x1)] [] h := by
  unfold f_K_byOf at hf
  refine hm_aload_n C d_K_byOf_0 rfl 0 rfl ?_
  obtain ⟨a1, ea1, hf⟩ := hm_bind hf
  refine hm_getR C F_0 2 (by decide) rfl k_16 d_K_byOf_1 ea1 ?_
  refine hm_iload_n C d_K_byOf_4 rfl 1 rfl ?_
  obtain ⟨v2, ev2, hf⟩ := hm_bind hf
  refine hm_iaload C d_K_byOf_5 ev2 ?_
  refine hm_bipush (v := (16 : Int32)) C d_K_byOf_6 (by decide) ?_
  have z3 : ¬ (16 : Int32) = 0 := fun q => by rw [if_pos q] at hf; cases hf
  have hf := hm_ifn hf z3
  refine hm_irem C d_K_byOf_8 z3 ?_
  exact hm_iret C hr hlk d_K_byOf_9 hf
set_option maxRecDepth 20000 in
theorem c_K_byOf {E : hm_E} {l : Launch} {F : Nat} {r : Int32} {h h' : hm_T} {x0 : Nat} {x1 : Int32} (hf : f_K_byOf F x0 x1 h = some (r, h')) : hm_M E l y_K_byOf prog_2_method_7_code 2 (some .int) 0 0 [.ref x0, .int x1] h (some (.int r)) h' :=
  hm_enter (by decide +kernel) (Nat.le_of_ble_eq_true rfl) (m_f_K_byOf hf) (fun p e R s m below meth c C hr hlk hin => w_f_K_byOf C hr hlk hf)
def f_D_shortcut (F : Nat) (x0 : Nat) (x1 : Int32) (x2 : Int32) (h : hm_T) : Option (Int32 × hm_T) :=
  (hm_gi 3 9 7 h x0).bind (fun v1 => (if v1 = 0 then some ((-4 : Int32), h) else (if x1 = (-1 : Int32) then (hm_gr 3 9 4 h x0).bind (fun a24 => (hm_gi 0 7 4 h a24).bind (fun v25 => some (v25, h))) else (if x1 < 0 then some ((-2 : Int32), h) else (hm_gr 3 9 4 h x0).bind (fun a5 => (hm_gi 0 7 4 h a5).bind (fun v6 => (if x1 < v6 then (if x2 = (0 : Int32) then (hm_gr 3 9 4 h x0).bind (fun a9 => (hm_is 0 7 h a9).bind (fun u10 => hm_and (f_K_fromOf F a9 x1 h) (fun v11 h11 => some (v11, h11)))) else (if x2 = (1 : Int32) then (hm_gr 3 9 4 h x0).bind (fun a13 => (hm_is 0 7 h a13).bind (fun u14 => hm_and (f_K_toOf F a13 x1 h) (fun v15 h15 => some (v15, h15)))) else (if x2 = (2 : Int32) then (hm_gr 3 9 4 h x0).bind (fun a17 => (hm_gr 0 7 3 h a17).bind (fun a18 => (hm_ild h a18 x1).bind (fun v19 => some (v19, h)))) else (if x2 = (3 : Int32) then (hm_gr 3 9 4 h x0).bind (fun a21 => (hm_is 0 7 h a21).bind (fun u22 => hm_and (f_K_byOf F a21 x1 h) (fun v23 h23 => some (v23, h23)))) else some ((-2 : Int32), h))))) else some ((-2 : Int32), h))))))))
theorem m_f_D_shortcut {F : Nat} {r : Int32} {h h' : hm_T} {x0 : Nat} {x1 : Int32} {x2 : Int32} (hf : f_D_shortcut F x0 x1 x2 h = some (r, h')) : hm_le h h' := by
  unfold f_D_shortcut at hf
  obtain ⟨v1, ev1, hf⟩ := hm_bind hf
  by_cases z2 : v1 = 0
  · have hf := hm_ifp hf z2
    exact (hm_le.ret hf)
  · have hf := hm_ifn hf z2
    by_cases z3 : x1 = (-1 : Int32)
    · have hf := hm_ifp hf z3
      obtain ⟨a24, ea24, hf⟩ := hm_bind hf
      obtain ⟨v25, ev25, hf⟩ := hm_bind hf
      exact (hm_le.ret hf)
    · have hf := hm_ifn hf z3
      by_cases z4 : x1 < 0
      · have hf := hm_ifp hf z4
        exact (hm_le.ret hf)
      · have hf := hm_ifn hf z4
        obtain ⟨a5, ea5, hf⟩ := hm_bind hf
        obtain ⟨v6, ev6, hf⟩ := hm_bind hf
        by_cases z7 : x1 < v6
        · have hf := hm_ifp hf z7
          by_cases z8 : x2 = (0 : Int32)
          · have hf := hm_ifp hf z8
            obtain ⟨a9, ea9, hf⟩ := hm_bind hf
            obtain ⟨u10, eu10, hf⟩ := hm_bind hf
            obtain ⟨v11, h11, eh11, hf⟩ := hm_and_of hf
            have mh11 := m_f_K_fromOf eh11
            exact mh11.tr ((hm_le.ret hf))
          · have hf := hm_ifn hf z8
            by_cases z12 : x2 = (1 : Int32)
            · have hf := hm_ifp hf z12
              obtain ⟨a13, ea13, hf⟩ := hm_bind hf
              obtain ⟨u14, eu14, hf⟩ := hm_bind hf
              obtain ⟨v15, h15, eh15, hf⟩ := hm_and_of hf
              have mh15 := m_f_K_toOf eh15
              exact mh15.tr ((hm_le.ret hf))
            · have hf := hm_ifn hf z12
              by_cases z16 : x2 = (2 : Int32)
              · have hf := hm_ifp hf z16
                obtain ⟨a17, ea17, hf⟩ := hm_bind hf
                obtain ⟨a18, ea18, hf⟩ := hm_bind hf
                obtain ⟨v19, ev19, hf⟩ := hm_bind hf
                exact (hm_le.ret hf)
              · have hf := hm_ifn hf z16
                by_cases z20 : x2 = (3 : Int32)
                · have hf := hm_ifp hf z20
                  obtain ⟨a21, ea21, hf⟩ := hm_bind hf
                  obtain ⟨u22, eu22, hf⟩ := hm_bind hf
                  obtain ⟨v23, h23, eh23, hf⟩ := hm_and_of hf
                  have mh23 := m_f_K_byOf eh23
                  exact mh23.tr ((hm_le.ret hf))
                · have hf := hm_ifn hf z20
                  exact (hm_le.ret hf)
        · have hf := hm_ifn hf z7
          exact (hm_le.ret hf)
set_option maxRecDepth 20000 in
set_option maxHeartbeats 1000000 in
theorem w_f_D_shortcut {p : Program} {l : Launch} {e : Env} {R : Room} {s : State} {m : MethodId} {args : Array Value} {below : List Frame} {meth : Method} {c : Code} {E : hm_E} {n0 s0 F : Nat} {r : Int32} {h h' : hm_T} {x0 : Nat} {x1 : Int32} {x2 : Int32} (C : hm_C E prog_1_method_15_code 3 "DistanceLabels" 1 21 n0 s0 (hm_n h') (hm_s h') p R s m args c) (hr : meth.sig.returnType = (some .int)) (hlk : meth.locks = false) (hf : f_D_shortcut F x0 x1 x2 h = some (r, h')) : hm_G E 3 n0 s0 (hm_n h') (hm_s h') p l e R s m args below meth c (MQ below (hm_Qc E (some (.int r)) h') args s (hm_n h' - n0) (hm_s h' - s0) (fun q => E.2.2 ≤ q)) 0 [(0, .ref x0), (1, .int x1), (2, .int x2)] [] h := by
  unfold f_D_shortcut at hf
  refine hm_aload_n C d_D_shortcut_0 rfl 0 rfl ?_
  obtain ⟨v1, ev1, hf⟩ := hm_bind hf
  refine hm_getI C F_3 7 (by decide) rfl k_42 d_D_shortcut_1 ev1 ?_
  refine hm_if_ne (tgt := 10) C d_D_shortcut_4 (by decide) (fun z2 => ?_) (fun z2 => ?_)
  · have hf := hm_ifn hf z2
    refine hm_iload_n C d_D_shortcut_10 rfl 1 rfl ?_
    refine hm_iconst (v := (-1 : Int32)) C d_D_shortcut_11 (by decide) ?_
    refine hm_icmp_ne (tgt := 23) C d_D_shortcut_12 (by decide) (fun z3 => ?_) (fun z3 => ?_)
    · have hf := hm_ifn hf z3
      refine hm_iload_n C d_D_shortcut_23 rfl 1 rfl ?_
      refine hm_if_lt (tgt := 38) C d_D_shortcut_24 (by decide) (fun z4 => ?_) (fun z4 => ?_)
      · have hf := hm_ifp hf z4
        refine hm_bipush (v := (-2 : Int32)) C d_D_shortcut_38 (by decide) ?_
        exact hm_iret C hr hlk d_D_shortcut_40 hf
      · have hf := hm_ifn hf z4
        refine hm_iload_n C d_D_shortcut_27 rfl 1 rfl ?_
        refine hm_aload_n C d_D_shortcut_28 rfl 0 rfl ?_
        obtain ⟨a5, ea5, hf⟩ := hm_bind hf
        refine hm_getR C F_3 4 (by decide) rfl k_39 d_D_shortcut_29 ea5 ?_
        obtain ⟨v6, ev6, hf⟩ := hm_bind hf
        refine hm_getIN C F_0 4 (by decide) rfl kF_10 d_D_shortcut_32 ev6 ?_
        refine hm_icmp_lt (tgt := 41) C d_D_shortcut_35 (by decide) (fun z7 => ?_) (fun z7 => ?_)
        · have hf := hm_ifp hf z7
          refine hm_iload_n C d_D_shortcut_41 rfl 2 rfl ?_
          by_cases z8 : x2 = (0 : Int32)
          · have hf := hm_ifp hf z8
            refine hm_tswIn (tgt := 72) C d_D_shortcut_42 (by rw [z8]; decide) (by rw [z8]; decide) (by rw [z8]; rfl) (by decide) ?_
            refine hm_aload_n C d_D_shortcut_72 rfl 0 rfl ?_
            obtain ⟨a9, ea9, hf⟩ := hm_bind hf
            refine hm_getR C F_3 4 (by decide) rfl k_39 d_D_shortcut_73 ea9 ?_
            refine hm_iload_n C d_D_shortcut_76 rfl 1 rfl ?_
            obtain ⟨u10, eu10, hf⟩ := hm_bind hf
            obtain ⟨v11, h11, eh11, hf⟩ := hm_and_of hf
            refine hm_callVN (vs := [.int x1]) (st := []) (sb := [.int v11]) C (c_K_fromOf eh11) Y_K_fromOf F_0 eu10 k_108 k_109 kM_20 (by decide) (by decide) rfl (Nat.le_of_ble_eq_true rfl) d_D_shortcut_77 rfl rfl ?_
            exact hm_iret C hr hlk d_D_shortcut_80 hf
          · have hf := hm_ifn hf z8
            by_cases z12 : x2 = (1 : Int32)
            · have hf := hm_ifp hf z12
              refine hm_tswIn (tgt := 81) C d_D_shortcut_42 (by rw [z12]; decide) (by rw [z12]; decide) (by rw [z12]; rfl) (by decide) ?_
              refine hm_aload_n C d_D_shortcut_81 rfl 0 rfl ?_
              obtain ⟨a13, ea13, hf⟩ := hm_bind hf
              refine hm_getR C F_3 4 (by decide) rfl k_39 d_D_shortcut_82 ea13 ?_
              refine hm_iload_n C d_D_shortcut_85 rfl 1 rfl ?_
              obtain ⟨u14, eu14, hf⟩ := hm_bind hf
              obtain ⟨v15, h15, eh15, hf⟩ := hm_and_of hf
              refine hm_callVN (vs := [.int x1]) (st := []) (sb := [.int v15]) C (c_K_toOf eh15) Y_K_toOf F_0 eu14 k_110 k_111 kM_21 (by decide) (by decide) rfl (Nat.le_of_ble_eq_true rfl) d_D_shortcut_86 rfl rfl ?_
              exact hm_iret C hr hlk d_D_shortcut_89 hf
            · have hf := hm_ifn hf z12
              by_cases z16 : x2 = (2 : Int32)
              · have hf := hm_ifp hf z16
                refine hm_tswIn (tgt := 90) C d_D_shortcut_42 (by rw [z16]; decide) (by rw [z16]; decide) (by rw [z16]; rfl) (by decide) ?_
                refine hm_aload_n C d_D_shortcut_90 rfl 0 rfl ?_
                obtain ⟨a17, ea17, hf⟩ := hm_bind hf
                refine hm_getR C F_3 4 (by decide) rfl k_39 d_D_shortcut_91 ea17 ?_
                obtain ⟨a18, ea18, hf⟩ := hm_bind hf
                refine hm_getRN C F_0 3 (by decide) rfl kF_11 d_D_shortcut_94 ea18 ?_
                refine hm_iload_n C d_D_shortcut_97 rfl 1 rfl ?_
                obtain ⟨v19, ev19, hf⟩ := hm_bind hf
                refine hm_iaload C d_D_shortcut_98 ev19 ?_
                exact hm_iret C hr hlk d_D_shortcut_99 hf
              · have hf := hm_ifn hf z16
                by_cases z20 : x2 = (3 : Int32)
                · have hf := hm_ifp hf z20
                  refine hm_tswIn (tgt := 100) C d_D_shortcut_42 (by rw [z20]; decide) (by rw [z20]; decide) (by rw [z20]; rfl) (by decide) ?_
                  refine hm_aload_n C d_D_shortcut_100 rfl 0 rfl ?_
                  obtain ⟨a21, ea21, hf⟩ := hm_bind hf
                  refine hm_getR C F_3 4 (by decide) rfl k_39 d_D_shortcut_101 ea21 ?_
                  refine hm_iload_n C d_D_shortcut_104 rfl 1 rfl ?_
                  obtain ⟨u22, eu22, hf⟩ := hm_bind hf
                  obtain ⟨v23, h23, eh23, hf⟩ := hm_and_of hf
                  refine hm_callVN (vs := [.int x1]) (st := []) (sb := [.int v23]) C (c_K_byOf eh23) Y_K_byOf F_0 eu22 k_112 k_113 kM_22 (by decide) (by decide) rfl (Nat.le_of_ble_eq_true rfl) d_D_shortcut_105 rfl rfl ?_
                  exact hm_iret C hr hlk d_D_shortcut_108 hf
                · have hf := hm_ifn hf z20
                  refine hm_tswOut (tgt := 109) C d_D_shortcut_42 (by have qz8 := lv_neT z8 (a := 0) (by decide); have qz12 := lv_neT z12 (a := 1) (by decide); have qz16 := lv_neT z16 (a := 2) (by decide); have qz20 := lv_neT z20 (a := 3) (by decide); omega) (by decide) ?_
                  refine hm_bipush (v := (-2 : Int32)) C d_D_shortcut_109 (by decide) ?_
                  exact hm_iret C hr hlk d_D_shortcut_111 hf
        · have hf := hm_ifn hf z7
          refine hm_bipush (v := (-2 : Int32)) C d_D_shortcut_38 (by decide) ?_
          exact hm_iret C hr hlk d_D_shortcut_40 hf
    · have hf := hm_ifp hf z3
      refine hm_aload_n C d_D_shortcut_15 rfl 0 rfl ?_
      obtain ⟨a24, ea24, hf⟩ := hm_bind hf
      refine hm_getR C F_3 4 (by decide) rfl k_39 d_D_shortcut_16 ea24 ?_
      obtain ⟨v25, ev25, hf⟩ := hm_bind hf
      refine hm_getIN C F_0 4 (by decide) rfl kF_10 d_D_shortcut_19 ev25 ?_
      exact hm_iret C hr hlk d_D_shortcut_22 hf
  · have hf := hm_ifp hf z2
    refine hm_bipush (v := (-4 : Int32)) C d_D_shortcut_7 (by decide) ?_
    exact hm_iret C hr hlk d_D_shortcut_9 hf
set_option maxRecDepth 20000 in
theorem c_D_shortcut {E : hm_E} {l : Launch} {F : Nat} {r : Int32} {h h' : hm_T} {x0 : Nat} {x1 : Int32} {x2 : Int32} (hf : f_D_shortcut F x0 x1 x2 h = some (r, h')) : hm_M E l y_D_shortcut prog_1_method_15_code 3 (some .int) 1 21 [.ref x0, .int x1, .int x2] h (some (.int r)) h' :=
  hm_enter (by decide +kernel) (Nat.le_of_ble_eq_true rfl) (m_f_D_shortcut hf) (fun p e R s m below meth c C hr hlk hin => w_f_D_shortcut C hr hlk hf)
def g_J_fill_5 (F : Nat) (k5 : Nat → Int32 → Int32 → Int32 → hm_T → Option hm_T) (x0 : Nat) (x1 : Int32) (x2 : Int32) (x3 : Int32) (h : hm_T) : Option hm_T :=
  (if x3 ≤ x2 then some h else (hm_ist h x0 x2 x1).bind (fun h2 => k5 x0 x1 (x2 + (1 : Int32)) x3 h2))
def f_J_fill_5 (F : Nat) : Nat → Nat → Int32 → Int32 → Int32 → hm_T → Option hm_T
  | 0 => fun _ _ _ _ _ => none
  | n + 1 => g_J_fill_5 F (f_J_fill_5 F n)
def f_J_fill (F : Nat) (x0 : Nat) (x1 : Int32) (h : hm_T) : Option hm_T :=
  (hm_len h x0).bind (fun v1 => f_J_fill_5 F F x0 x1 (0 : Int32) v1 h)
theorem m_g_J_fill_5 {F : Nat} {h h' : hm_T} {x0 : Nat} {x1 : Int32} {x2 : Int32} {x3 : Int32} {k5 : Nat → Int32 → Int32 → Int32 → hm_T → Option hm_T} (hk5 : ∀ (y0 : Nat) (y1 : Int32) (y2 : Int32) (y3 : Int32) (g : hm_T), k5 y0 y1 y2 y3 g = some h' → hm_le g h') (hf : g_J_fill_5 F k5 x0 x1 x2 x3 h = some h') : hm_le h h' := by
  unfold g_J_fill_5 at hf
  by_cases z1 : x3 ≤ x2
  · have hf := hm_ifp hf z1
    exact (hm_le.retv hf)
  · have hf := hm_ifn hf z1
    obtain ⟨h2, eh2, hf⟩ := hm_bind hf
    have mh2 := hm_le.ist eh2
    exact mh2.tr ((hk5 _ _ _ _ _ hf))
theorem m_J_fill_5L {F : Nat} {h' : hm_T} : ∀ (N : Nat) (x0 : Nat) (x1 : Int32) (x2 : Int32) (x3 : Int32) (h : hm_T), f_J_fill_5 F N x0 x1 x2 x3 h = some h' → hm_le h h' := by
  intro N
  induction N with
  | zero => intro _ _ _ _ _ hf; cases hf
  | succ n ih => intro x0 x1 x2 x3 h hf; exact m_g_J_fill_5 ih hf
theorem m_f_J_fill {F : Nat} {h h' : hm_T} {x0 : Nat} {x1 : Int32} (hf : f_J_fill F x0 x1 h = some h') : hm_le h h' := by
  unfold f_J_fill at hf
  obtain ⟨v1, ev1, hf⟩ := hm_bind hf
  exact (m_J_fill_5L _ _ _ _ _ _ hf)
set_option maxRecDepth 20000 in
set_option maxHeartbeats 1000000 in
theorem w_g_J_fill_5 {p : Program} {l : Launch} {e : Env} {R : Room} {s : State} {m : MethodId} {args : Array Value} {below : List Frame} {meth : Method} {c : Code} {E : hm_E} {n0 s0 F : Nat} {h h' : hm_T} {x0 : Nat} {x1 : Int32} {x2 : Int32} {x3 : Int32} {k5 : Nat → Int32 → Int32 → Int32 → hm_T → Option hm_T} (C : hm_C E prog_8_method_103_code 4 "java/util/Arrays" 0 0 n0 s0 (hm_n h') (hm_s h') p R s m args c) (hr : meth.sig.returnType = none) (hlk : meth.locks = false) (hk5 : ∀ (y0 : Nat) (y1 : Int32) (y2 : Int32) (y3 : Int32) (g : hm_T), k5 y0 y1 y2 y3 g = some h' → hm_G E 4 n0 s0 (hm_n h') (hm_s h') p l e R s m args below meth c (MQ below (hm_Qc E none h') args s (hm_n h' - n0) (hm_s h' - s0) (fun q => E.2.2 ≤ q)) 5 [(0, .ref y0), (1, .int y1), (2, .int y2), (3, .int y3)] [] g) (hf : g_J_fill_5 F k5 x0 x1 x2 x3 h = some h') : hm_G E 4 n0 s0 (hm_n h') (hm_s h') p l e R s m args below meth c (MQ below (hm_Qc E none h') args s (hm_n h' - n0) (hm_s h' - s0) (fun q => E.2.2 ≤ q)) 5 [(0, .ref x0), (1, .int x1), (2, .int x2), (3, .int x3)] [] h := by
  unfold g_J_fill_5 at hf
  refine hm_iload_n C d_J_fill_5 rfl 2 rfl ?_
  refine hm_iload_n C d_J_fill_6 rfl 3 rfl ?_
  refine hm_icmp_ge (tgt := 20) C d_J_fill_7 (by decide) (fun z1 => ?_) (fun z1 => ?_)
  · have hf := hm_ifp hf z1
    exact hm_vret C hr hlk d_J_fill_20 hf
  · have hf := hm_ifn hf z1
    refine hm_aload_n C d_J_fill_10 rfl 0 rfl ?_
    refine hm_iload_n C d_J_fill_11 rfl 2 rfl ?_
    refine hm_iload_n C d_J_fill_12 rfl 1 rfl ?_
    obtain ⟨h2, eh2, hf⟩ := hm_bind hf
    refine hm_iastore C d_J_fill_13 eh2 ?_
    refine hm_iinc (v := (x2 + (1 : Int32))) (lv' := [(2, .int (x2 + (1 : Int32))), (0, .ref x0), (1, .int x1), (3, .int x3)]) C d_J_fill_14 2 rfl rfl (by decide) rfl ?_
    refine hm_goto (tgt := 5) C d_J_fill_17 (by decide) ?_
    refine hm_sub (lv' := [(0, .ref x0), (1, .int x1), (2, .int (x2 + (1 : Int32))), (3, .int x3)]) [1, 2, 0, 3] rfl ?_
    exact hk5 _ _ _ _ _ hf
theorem w_J_fill_5L {p : Program} {l : Launch} {e : Env} {R : Room} {s : State} {m : MethodId} {args : Array Value} {below : List Frame} {meth : Method} {c : Code} {E : hm_E} {n0 s0 F : Nat} {h' : hm_T} (C : hm_C E prog_8_method_103_code 4 "java/util/Arrays" 0 0 n0 s0 (hm_n h') (hm_s h') p R s m args c) (hr : meth.sig.returnType = none) (hlk : meth.locks = false) : ∀ (N : Nat) (x0 : Nat) (x1 : Int32) (x2 : Int32) (x3 : Int32) (h : hm_T), f_J_fill_5 F N x0 x1 x2 x3 h = some h' → hm_G E 4 n0 s0 (hm_n h') (hm_s h') p l e R s m args below meth c (MQ below (hm_Qc E none h') args s (hm_n h' - n0) (hm_s h' - s0) (fun q => E.2.2 ≤ q)) 5 [(0, .ref x0), (1, .int x1), (2, .int x2), (3, .int x3)] [] h := by
  intro N
  induction N with
  | zero => intro _ _ _ _ _ hf; cases hf
  | succ n ih => intro x0 x1 x2 x3 h hf; exact w_g_J_fill_5 C hr hlk ih hf
set_option maxRecDepth 20000 in
set_option maxHeartbeats 1000000 in
theorem w_f_J_fill {p : Program} {l : Launch} {e : Env} {R : Room} {s : State} {m : MethodId} {args : Array Value} {below : List Frame} {meth : Method} {c : Code} {E : hm_E} {n0 s0 F : Nat} {h h' : hm_T} {x0 : Nat} {x1 : Int32} (C : hm_C E prog_8_method_103_code 4 "java/util/Arrays" 0 0 n0 s0 (hm_n h') (hm_s h') p R s m args c) (hr : meth.sig.returnType = none) (hlk : meth.locks = false) (hf : f_J_fill F x0 x1 h = some h') : hm_G E 4 n0 s0 (hm_n h') (hm_s h') p l e R s m args below meth c (MQ below (hm_Qc E none h') args s (hm_n h' - n0) (hm_s h' - s0) (fun q => E.2.2 ≤ q)) 0 [(0, .ref x0), (1, .int x1)] [] h := by
  unfold f_J_fill at hf
  refine hm_iconst (v := (0 : Int32)) C d_J_fill_0 (by decide) ?_
  refine hm_istore_n (lv' := [(2, .int (0 : Int32)), (0, .ref x0), (1, .int x1)]) C d_J_fill_1 rfl (by decide) rfl ?_
  refine hm_aload_n C d_J_fill_2 rfl 1 rfl ?_
  obtain ⟨v1, ev1, hf⟩ := hm_bind hf
  refine hm_alen C d_J_fill_3 ev1 ?_
  refine hm_istore_n (lv' := [(3, .int v1), (2, .int (0 : Int32)), (0, .ref x0), (1, .int x1)]) C d_J_fill_4 rfl (by decide) rfl ?_
  refine hm_sub (lv' := [(0, .ref x0), (1, .int x1), (2, .int (0 : Int32)), (3, .int v1)]) [2, 3, 1, 0] rfl ?_
  exact w_J_fill_5L C hr hlk _ _ _ _ _ _ hf
set_option maxRecDepth 20000 in
theorem c_J_fill {E : hm_E} {l : Launch} {F : Nat} {h h' : hm_T} {x0 : Nat} {x1 : Int32} (hf : f_J_fill F x0 x1 h = some h') : hm_M E l y_J_fill prog_8_method_103_code 4 none 0 0 [.ref x0, .int x1] h none h' :=
  hm_enter (by decide +kernel) (Nat.le_of_ble_eq_true rfl) (m_f_J_fill hf) (fun p e R s m below meth c C hr hlk hin => w_f_J_fill C hr hlk hf)
def f_D_lesser (F : Nat) (x0 : Int32) (x1 : Int32) (h : hm_T) : Option (Int32 × hm_T) :=
  hm_and (f_D_isLess F x0 x1 h) (fun v1 h1 => (if v1 = 0 then some (x1, h1) else some (x0, h1)))
theorem m_f_D_lesser {F : Nat} {r : Int32} {h h' : hm_T} {x0 : Int32} {x1 : Int32} (hf : f_D_lesser F x0 x1 h = some (r, h')) : hm_le h h' := by
  unfold f_D_lesser at hf
  obtain ⟨v1, h1, eh1, hf⟩ := hm_and_of hf
  have mh1 := m_f_D_isLess eh1
  by_cases z2 : v1 = 0
  · have hf := hm_ifp hf z2
    exact mh1.tr ((hm_le.ret hf))
  · have hf := hm_ifn hf z2
    exact mh1.tr ((hm_le.ret hf))
set_option maxRecDepth 20000 in
set_option maxHeartbeats 1000000 in
theorem w_f_D_lesser {p : Program} {l : Launch} {e : Env} {R : Room} {s : State} {m : MethodId} {args : Array Value} {below : List Frame} {meth : Method} {c : Code} {E : hm_E} {n0 s0 F : Nat} {r : Int32} {h h' : hm_T} {x0 : Int32} {x1 : Int32} (C : hm_C E prog_1_method_33_code 2 "DistanceLabels" 1 21 n0 s0 (hm_n h') (hm_s h') p R s m args c) (hr : meth.sig.returnType = (some .int)) (hlk : meth.locks = false) (hf : f_D_lesser F x0 x1 h = some (r, h')) : hm_G E 2 n0 s0 (hm_n h') (hm_s h') p l e R s m args below meth c (MQ below (hm_Qc E (some (.int r)) h') args s (hm_n h' - n0) (hm_s h' - s0) (fun q => E.2.2 ≤ q)) 0 [(0, .int x0), (1, .int x1)] [] h := by
  unfold f_D_lesser at hf
  refine hm_iload_n C d_D_lesser_0 rfl 0 rfl ?_
  refine hm_iload_n C d_D_lesser_1 rfl 1 rfl ?_
  obtain ⟨v1, h1, eh1, hf⟩ := hm_and_of hf
  refine hm_callS (vs := [.int x0, .int x1]) (st := []) (sb := [.int v1]) C (c_D_isLess eh1) Y_D_isLess k_61 k_60 (by decide) (by decide) rfl (Nat.le_of_ble_eq_true rfl) d_D_lesser_2 rfl rfl ?_
  refine hm_if_eq (tgt := 12) C d_D_lesser_5 (by decide) (fun z2 => ?_) (fun z2 => ?_)
  · have hf := hm_ifp hf z2
    refine hm_iload_n C d_D_lesser_12 rfl 1 rfl ?_
    exact hm_iret C hr hlk d_D_lesser_13 hf
  · have hf := hm_ifn hf z2
    refine hm_iload_n C d_D_lesser_8 rfl 0 rfl ?_
    refine hm_goto (tgt := 13) C d_D_lesser_9 (by decide) ?_
    exact hm_iret C hr hlk d_D_lesser_13 hf
set_option maxRecDepth 20000 in
theorem c_D_lesser {E : hm_E} {l : Launch} {F : Nat} {r : Int32} {h h' : hm_T} {x0 : Int32} {x1 : Int32} (hf : f_D_lesser F x0 x1 h = some (r, h')) : hm_M E l y_D_lesser prog_1_method_33_code 2 (some .int) 1 21 [.int x0, .int x1] h (some (.int r)) h' :=
  hm_enter (by decide +kernel) (Nat.le_of_ble_eq_true rfl) (m_f_D_lesser hf) (fun p e R s m below meth c C hr hlk hin => w_f_D_lesser C hr hlk hf)
def f_K_climbFrom_95 (F : Nat) (k22 : Nat → Nat → Int32 → hm_T → Option hm_T) (x0 : Nat) (x1 : Nat) (x3 : Int32) (h : hm_T) : Option hm_T :=
  k22 x0 x1 (x3 + (-1 : Int32)) h
def g_K_climbFrom_37 (F : Nat) (k22 : Nat → Nat → Int32 → hm_T → Option hm_T) (k37 : Nat → Nat → Int32 → Int32 → Int32 → hm_T → Option hm_T) (x0 : Nat) (x1 : Nat) (x3 : Int32) (x4 : Int32) (x5 : Int32) (h : hm_T) : Option hm_T :=
  (if x3 ≤ x5 then f_K_climbFrom_95 F k22 x0 x1 x3 h else (hm_gr 2 5 3 h x1).bind (fun a2 => (hm_ild h a2 x5).bind (fun v3 => (hm_gr 0 7 5 h x0).bind (fun a4 => (hm_gr 0 7 5 h x0).bind (fun a5 => (hm_ild h a5 x4).bind (fun v6 => (hm_gr 0 7 0 h x0).bind (fun a7 => (hm_ald h a7 x4).bind (fun a8 => (hm_ild h a8 v3).bind (fun v9 => hm_and (f_D_sum F v6 v9 h) (fun v10 h10 => (hm_gr 0 7 5 h10 x0).bind (fun a11 => (hm_ild h10 a11 v3).bind (fun v12 => hm_and (f_D_lesser F v10 v12 h10) (fun v13 h13 => (hm_ist h13 a4 v3 v13).bind (fun h14 => k37 x0 x1 x3 x4 (x5 + (1 : Int32)) h14))))))))))))))
def f_K_climbFrom_37 (F : Nat) (k22 : Nat → Nat → Int32 → hm_T → Option hm_T) : Nat → Nat → Nat → Int32 → Int32 → Int32 → hm_T → Option hm_T
  | 0 => fun _ _ _ _ _ _ => none
  | n + 1 => g_K_climbFrom_37 F k22 (f_K_climbFrom_37 F k22 n)
def g_K_climbFrom_22 (F : Nat) (k22 : Nat → Nat → Int32 → hm_T → Option hm_T) (x0 : Nat) (x1 : Nat) (x3 : Int32) (h : hm_T) : Option hm_T :=
  (if x3 ≤ 0 then some h else (hm_gr 2 5 3 h x1).bind (fun a2 => (hm_ild h a2 x3).bind (fun v3 => f_K_climbFrom_37 F k22 F x0 x1 x3 v3 (0 : Int32) h)))
def f_K_climbFrom_22 (F : Nat) : Nat → Nat → Nat → Int32 → hm_T → Option hm_T
  | 0 => fun _ _ _ _ => none
  | n + 1 => g_K_climbFrom_22 F (f_K_climbFrom_22 F n)
def f_K_climbFrom (F : Nat) (x0 : Nat) (x1 : Nat) (x2 : Int32) (h : hm_T) : Option hm_T :=
  (hm_gr 0 7 5 h x0).bind (fun a1 => (f_J_fill F a1 (-1 : Int32) h).bind (fun h2 => (hm_gr 0 7 5 h2 x0).bind (fun a3 => (hm_ist h2 a3 x2 (0 : Int32)).bind (fun h4 => (hm_gr 2 5 4 h4 x1).bind (fun a5 => (hm_ild h4 a5 x2).bind (fun v6 => f_K_climbFrom_22 F F x0 x1 v6 h4))))))
theorem m_f_K_climbFrom_95 {F : Nat} {h h' : hm_T} {x0 : Nat} {x1 : Nat} {x3 : Int32} {k22 : Nat → Nat → Int32 → hm_T → Option hm_T} (hk22 : ∀ (y0 : Nat) (y1 : Nat) (y3 : Int32) (g : hm_T), k22 y0 y1 y3 g = some h' → hm_le g h') (hf : f_K_climbFrom_95 F k22 x0 x1 x3 h = some h') : hm_le h h' := by
  unfold f_K_climbFrom_95 at hf
  exact (hk22 _ _ _ _ hf)
theorem m_g_K_climbFrom_37 {F : Nat} {h h' : hm_T} {x0 : Nat} {x1 : Nat} {x3 : Int32} {x4 : Int32} {x5 : Int32} {k22 : Nat → Nat → Int32 → hm_T → Option hm_T} {k37 : Nat → Nat → Int32 → Int32 → Int32 → hm_T → Option hm_T} (hk22 : ∀ (y0 : Nat) (y1 : Nat) (y3 : Int32) (g : hm_T), k22 y0 y1 y3 g = some h' → hm_le g h') (hk37 : ∀ (y0 : Nat) (y1 : Nat) (y3 : Int32) (y4 : Int32) (y5 : Int32) (g : hm_T), k37 y0 y1 y3 y4 y5 g = some h' → hm_le g h') (hf : g_K_climbFrom_37 F k22 k37 x0 x1 x3 x4 x5 h = some h') : hm_le h h' := by
  unfold g_K_climbFrom_37 at hf
  by_cases z1 : x3 ≤ x5
  · have hf := hm_ifp hf z1
    exact (m_f_K_climbFrom_95 hk22 hf)
  · have hf := hm_ifn hf z1
    obtain ⟨a2, ea2, hf⟩ := hm_bind hf
    obtain ⟨v3, ev3, hf⟩ := hm_bind hf
    obtain ⟨a4, ea4, hf⟩ := hm_bind hf
    obtain ⟨a5, ea5, hf⟩ := hm_bind hf
    obtain ⟨v6, ev6, hf⟩ := hm_bind hf
    obtain ⟨a7, ea7, hf⟩ := hm_bind hf
    obtain ⟨a8, ea8, hf⟩ := hm_bind hf
    obtain ⟨v9, ev9, hf⟩ := hm_bind hf
    obtain ⟨v10, h10, eh10, hf⟩ := hm_and_of hf
    have mh10 := m_f_D_sum eh10
    obtain ⟨a11, ea11, hf⟩ := hm_bind hf
    obtain ⟨v12, ev12, hf⟩ := hm_bind hf
    obtain ⟨v13, h13, eh13, hf⟩ := hm_and_of hf
    have mh13 := m_f_D_lesser eh13
    obtain ⟨h14, eh14, hf⟩ := hm_bind hf
    have mh14 := hm_le.ist eh14
    exact mh10.tr (mh13.tr (mh14.tr ((hk37 _ _ _ _ _ _ hf))))
theorem m_K_climbFrom_37L {F : Nat} {h' : hm_T} {k22 : Nat → Nat → Int32 → hm_T → Option hm_T} (hk22 : ∀ (y0 : Nat) (y1 : Nat) (y3 : Int32) (g : hm_T), k22 y0 y1 y3 g = some h' → hm_le g h') : ∀ (N : Nat) (x0 : Nat) (x1 : Nat) (x3 : Int32) (x4 : Int32) (x5 : Int32) (h : hm_T), f_K_climbFrom_37 F k22 N x0 x1 x3 x4 x5 h = some h' → hm_le h h' := by
  intro N
  induction N with
  | zero => intro _ _ _ _ _ _ hf; cases hf
  | succ n ih => intro x0 x1 x3 x4 x5 h hf; exact m_g_K_climbFrom_37 hk22 ih hf
theorem m_g_K_climbFrom_22 {F : Nat} {h h' : hm_T} {x0 : Nat} {x1 : Nat} {x3 : Int32} {k22 : Nat → Nat → Int32 → hm_T → Option hm_T} (hk22 : ∀ (y0 : Nat) (y1 : Nat) (y3 : Int32) (g : hm_T), k22 y0 y1 y3 g = some h' → hm_le g h') (hf : g_K_climbFrom_22 F k22 x0 x1 x3 h = some h') : hm_le h h' := by
  unfold g_K_climbFrom_22 at hf
  by_cases z1 : x3 ≤ 0
  · have hf := hm_ifp hf z1
    exact (hm_le.retv hf)
  · have hf := hm_ifn hf z1
    obtain ⟨a2, ea2, hf⟩ := hm_bind hf
    obtain ⟨v3, ev3, hf⟩ := hm_bind hf
    exact (m_K_climbFrom_37L hk22 _ _ _ _ _ _ _ hf)
theorem m_K_climbFrom_22L {F : Nat} {h' : hm_T} : ∀ (N : Nat) (x0 : Nat) (x1 : Nat) (x3 : Int32) (h : hm_T), f_K_climbFrom_22 F N x0 x1 x3 h = some h' → hm_le h h' := by
  intro N
  induction N with
  | zero => intro _ _ _ _ hf; cases hf
  | succ n ih => intro x0 x1 x3 h hf; exact m_g_K_climbFrom_22 ih hf
theorem m_f_K_climbFrom {F : Nat} {h h' : hm_T} {x0 : Nat} {x1 : Nat} {x2 : Int32} (hf : f_K_climbFrom F x0 x1 x2 h = some h') : hm_le h h' := by
  unfold f_K_climbFrom at hf
  obtain ⟨a1, ea1, hf⟩ := hm_bind hf
  obtain ⟨h2, eh2, hf⟩ := hm_bind hf
  have mh2 := m_f_J_fill eh2
  obtain ⟨a3, ea3, hf⟩ := hm_bind hf
  obtain ⟨h4, eh4, hf⟩ := hm_bind hf
  have mh4 := hm_le.ist eh4
  obtain ⟨a5, ea5, hf⟩ := hm_bind hf
  obtain ⟨v6, ev6, hf⟩ := hm_bind hf
  exact mh2.tr (mh4.tr ((m_K_climbFrom_22L _ _ _ _ _ hf)))
set_option maxRecDepth 20000 in
set_option maxHeartbeats 1000000 in
theorem w_f_K_climbFrom_95 {p : Program} {l : Launch} {e : Env} {R : Room} {s : State} {m : MethodId} {args : Array Value} {below : List Frame} {meth : Method} {c : Code} {E : hm_E} {n0 s0 F : Nat} {h h' : hm_T} {x0 : Nat} {x1 : Nat} {x3 : Int32} {k22 : Nat → Nat → Int32 → hm_T → Option hm_T} (C : hm_C E prog_2_method_9_code 7 "DistanceLabels$Contraction" 2 42 n0 s0 (hm_n h') (hm_s h') p R s m args c) (hr : meth.sig.returnType = none) (hlk : meth.locks = false) (hk22 : ∀ (y0 : Nat) (y1 : Nat) (y3 : Int32) (g : hm_T), k22 y0 y1 y3 g = some h' → hm_G E 7 n0 s0 (hm_n h') (hm_s h') p l e R s m args below meth c (MQ below (hm_Qc E none h') args s (hm_n h' - n0) (hm_s h' - s0) (fun q => E.2.2 ≤ q)) 22 [(0, .ref y0), (1, .ref y1), (3, .int y3)] [] g) (hf : f_K_climbFrom_95 F k22 x0 x1 x3 h = some h') : hm_G E 7 n0 s0 (hm_n h') (hm_s h') p l e R s m args below meth c (MQ below (hm_Qc E none h') args s (hm_n h' - n0) (hm_s h' - s0) (fun q => E.2.2 ≤ q)) 95 [(0, .ref x0), (1, .ref x1), (3, .int x3)] [] h := by
  unfold f_K_climbFrom_95 at hf
  refine hm_iinc (v := (x3 + (-1 : Int32))) (lv' := [(3, .int (x3 + (-1 : Int32))), (0, .ref x0), (1, .ref x1)]) C d_K_climbFrom_95 2 rfl rfl (by decide) rfl ?_
  refine hm_goto (tgt := 22) C d_K_climbFrom_98 (by decide) ?_
  refine hm_sub (lv' := [(0, .ref x0), (1, .ref x1), (3, .int (x3 + (-1 : Int32)))]) [1, 2, 0] rfl ?_
  exact hk22 _ _ _ _ hf
set_option maxRecDepth 20000 in
set_option maxHeartbeats 1000000 in
theorem w_g_K_climbFrom_37 {p : Program} {l : Launch} {e : Env} {R : Room} {s : State} {m : MethodId} {args : Array Value} {below : List Frame} {meth : Method} {c : Code} {E : hm_E} {n0 s0 F : Nat} {h h' : hm_T} {x0 : Nat} {x1 : Nat} {x3 : Int32} {x4 : Int32} {x5 : Int32} {k22 : Nat → Nat → Int32 → hm_T → Option hm_T} {k37 : Nat → Nat → Int32 → Int32 → Int32 → hm_T → Option hm_T} (C : hm_C E prog_2_method_9_code 7 "DistanceLabels$Contraction" 2 42 n0 s0 (hm_n h') (hm_s h') p R s m args c) (hr : meth.sig.returnType = none) (hlk : meth.locks = false) (hk22 : ∀ (y0 : Nat) (y1 : Nat) (y3 : Int32) (g : hm_T), k22 y0 y1 y3 g = some h' → hm_G E 7 n0 s0 (hm_n h') (hm_s h') p l e R s m args below meth c (MQ below (hm_Qc E none h') args s (hm_n h' - n0) (hm_s h' - s0) (fun q => E.2.2 ≤ q)) 22 [(0, .ref y0), (1, .ref y1), (3, .int y3)] [] g) (hk37 : ∀ (y0 : Nat) (y1 : Nat) (y3 : Int32) (y4 : Int32) (y5 : Int32) (g : hm_T), k37 y0 y1 y3 y4 y5 g = some h' → hm_G E 7 n0 s0 (hm_n h') (hm_s h') p l e R s m args below meth c (MQ below (hm_Qc E none h') args s (hm_n h' - n0) (hm_s h' - s0) (fun q => E.2.2 ≤ q)) 37 [(0, .ref y0), (1, .ref y1), (3, .int y3), (4, .int y4), (5, .int y5)] [] g) (hf : g_K_climbFrom_37 F k22 k37 x0 x1 x3 x4 x5 h = some h') : hm_G E 7 n0 s0 (hm_n h') (hm_s h') p l e R s m args below meth c (MQ below (hm_Qc E none h') args s (hm_n h' - n0) (hm_s h' - s0) (fun q => E.2.2 ≤ q)) 37 [(0, .ref x0), (1, .ref x1), (3, .int x3), (4, .int x4), (5, .int x5)] [] h := by
  unfold g_K_climbFrom_37 at hf
  refine hm_iload C d_K_climbFrom_37 4 rfl ?_
  refine hm_iload_n C d_K_climbFrom_39 rfl 2 rfl ?_
  refine hm_icmp_ge (tgt := 95) C d_K_climbFrom_40 (by decide) (fun z1 => ?_) (fun z1 => ?_)
  · have hf := hm_ifp hf z1
    refine hm_sub (lv' := [(0, .ref x0), (1, .ref x1), (3, .int x3)]) [0, 1, 2] rfl ?_
    exact w_f_K_climbFrom_95 C hr hlk hk22 hf
  · have hf := hm_ifn hf z1
    refine hm_aload_n C d_K_climbFrom_43 rfl 1 rfl ?_
    obtain ⟨a2, ea2, hf⟩ := hm_bind hf
    refine hm_getRN C F_2 3 (by decide) rfl kF_5 d_K_climbFrom_44 ea2 ?_
    refine hm_iload C d_K_climbFrom_47 4 rfl ?_
    obtain ⟨v3, ev3, hf⟩ := hm_bind hf
    refine hm_iaload C d_K_climbFrom_49 ev3 ?_
    refine hm_istore (lv' := [(6, .int v3), (0, .ref x0), (1, .ref x1), (3, .int x3), (4, .int x4), (5, .int x5)]) C d_K_climbFrom_50 (by decide) rfl ?_
    refine hm_aload_n C d_K_climbFrom_52 rfl 1 rfl ?_
    obtain ⟨a4, ea4, hf⟩ := hm_bind hf
    refine hm_getR C F_0 5 (by decide) rfl k_19 d_K_climbFrom_53 ea4 ?_
    refine hm_iload C d_K_climbFrom_56 0 rfl ?_
    refine hm_aload_n C d_K_climbFrom_58 rfl 1 rfl ?_
    obtain ⟨a5, ea5, hf⟩ := hm_bind hf
    refine hm_getR C F_0 5 (by decide) rfl k_19 d_K_climbFrom_59 ea5 ?_
    refine hm_iload C d_K_climbFrom_62 4 rfl ?_
    obtain ⟨v6, ev6, hf⟩ := hm_bind hf
    refine hm_iaload C d_K_climbFrom_64 ev6 ?_
    refine hm_aload_n C d_K_climbFrom_65 rfl 1 rfl ?_
    obtain ⟨a7, ea7, hf⟩ := hm_bind hf
    refine hm_getR C F_0 0 (by decide) rfl k_14 d_K_climbFrom_66 ea7 ?_
    refine hm_iload C d_K_climbFrom_69 4 rfl ?_
    obtain ⟨a8, ea8, hf⟩ := hm_bind hf
    refine hm_aaload C d_K_climbFrom_71 ea8 ?_
    refine hm_iload C d_K_climbFrom_72 0 rfl ?_
    obtain ⟨v9, ev9, hf⟩ := hm_bind hf
    refine hm_iaload C d_K_climbFrom_74 ev9 ?_
    obtain ⟨v10, h10, eh10, hf⟩ := hm_and_of hf
    refine hm_callSN (vs := [.int v6, .int v9]) (st := [.int v3, .ref a4]) (sb := [.int v10, .int v3, .ref a4]) C (c_D_sum eh10) Y_D_sum k_69 kM_13 (by decide) (by decide) rfl (Nat.le_of_ble_eq_true rfl) d_K_climbFrom_75 rfl rfl ?_
    refine hm_aload_n C d_K_climbFrom_78 rfl 1 rfl ?_
    obtain ⟨a11, ea11, hf⟩ := hm_bind hf
    refine hm_getR C F_0 5 (by decide) rfl k_19 d_K_climbFrom_79 ea11 ?_
    refine hm_iload C d_K_climbFrom_82 0 rfl ?_
    obtain ⟨v12, ev12, hf⟩ := hm_bind hf
    refine hm_iaload C d_K_climbFrom_84 ev12 ?_
    obtain ⟨v13, h13, eh13, hf⟩ := hm_and_of hf
    refine hm_callSN (vs := [.int v10, .int v12]) (st := [.int v3, .ref a4]) (sb := [.int v13, .int v3, .ref a4]) C (c_D_lesser eh13) Y_D_lesser k_114 kM_23 (by decide) (by decide) rfl (Nat.le_of_ble_eq_true rfl) d_K_climbFrom_85 rfl rfl ?_
    obtain ⟨h14, eh14, hf⟩ := hm_bind hf
    refine hm_iastore C d_K_climbFrom_88 eh14 ?_
    refine hm_iinc (v := (x5 + (1 : Int32))) (lv' := [(5, .int (x5 + (1 : Int32))), (6, .int v3), (0, .ref x0), (1, .ref x1), (3, .int x3), (4, .int x4)]) C d_K_climbFrom_89 5 rfl rfl (by decide) rfl ?_
    refine hm_goto (tgt := 37) C d_K_climbFrom_92 (by decide) ?_
    refine hm_sub (lv' := [(0, .ref x0), (1, .ref x1), (3, .int x3), (4, .int x4), (5, .int (x5 + (1 : Int32)))]) [2, 3, 4, 5, 0] rfl ?_
    exact hk37 _ _ _ _ _ _ hf
theorem w_K_climbFrom_37L {p : Program} {l : Launch} {e : Env} {R : Room} {s : State} {m : MethodId} {args : Array Value} {below : List Frame} {meth : Method} {c : Code} {E : hm_E} {n0 s0 F : Nat} {h' : hm_T} {k22 : Nat → Nat → Int32 → hm_T → Option hm_T} (C : hm_C E prog_2_method_9_code 7 "DistanceLabels$Contraction" 2 42 n0 s0 (hm_n h') (hm_s h') p R s m args c) (hr : meth.sig.returnType = none) (hlk : meth.locks = false) (hk22 : ∀ (y0 : Nat) (y1 : Nat) (y3 : Int32) (g : hm_T), k22 y0 y1 y3 g = some h' → hm_G E 7 n0 s0 (hm_n h') (hm_s h') p l e R s m args below meth c (MQ below (hm_Qc E none h') args s (hm_n h' - n0) (hm_s h' - s0) (fun q => E.2.2 ≤ q)) 22 [(0, .ref y0), (1, .ref y1), (3, .int y3)] [] g) : ∀ (N : Nat) (x0 : Nat) (x1 : Nat) (x3 : Int32) (x4 : Int32) (x5 : Int32) (h : hm_T), f_K_climbFrom_37 F k22 N x0 x1 x3 x4 x5 h = some h' → hm_G E 7 n0 s0 (hm_n h') (hm_s h') p l e R s m args below meth c (MQ below (hm_Qc E none h') args s (hm_n h' - n0) (hm_s h' - s0) (fun q => E.2.2 ≤ q)) 37 [(0, .ref x0), (1, .ref x1), (3, .int x3), (4, .int x4), (5, .int x5)] [] h := by
  intro N
  induction N with
  | zero => intro _ _ _ _ _ _ hf; cases hf
  | succ n ih => intro x0 x1 x3 x4 x5 h hf; exact w_g_K_climbFrom_37 C hr hlk hk22 ih hf
set_option maxRecDepth 20000 in
set_option maxHeartbeats 1000000 in
theorem w_g_K_climbFrom_22 {p : Program} {l : Launch} {e : Env} {R : Room} {s : State} {m : MethodId} {args : Array Value} {below : List Frame} {meth : Method} {c : Code} {E : hm_E} {n0 s0 F : Nat} {h h' : hm_T} {x0 : Nat} {x1 : Nat} {x3 : Int32} {k22 : Nat → Nat → Int32 → hm_T → Option hm_T} (C : hm_C E prog_2_method_9_code 7 "DistanceLabels$Contraction" 2 42 n0 s0 (hm_n h') (hm_s h') p R s m args c) (hr : meth.sig.returnType = none) (hlk : meth.locks = false) (hk22 : ∀ (y0 : Nat) (y1 : Nat) (y3 : Int32) (g : hm_T), k22 y0 y1 y3 g = some h' → hm_G E 7 n0 s0 (hm_n h') (hm_s h') p l e R s m args below meth c (MQ below (hm_Qc E none h') args s (hm_n h' - n0) (hm_s h' - s0) (fun q => E.2.2 ≤ q)) 22 [(0, .ref y0), (1, .ref y1), (3, .int y3)] [] g) (hf : g_K_climbFrom_22 F k22 x0 x1 x3 h = some h') : hm_G E 7 n0 s0 (hm_n h') (hm_s h') p l e R s m args below meth c (MQ below (hm_Qc E none h') args s (hm_n h' - n0) (hm_s h' - s0) (fun q => E.2.2 ≤ q)) 22 [(0, .ref x0), (1, .ref x1), (3, .int x3)] [] h := by
  unfold g_K_climbFrom_22 at hf
  refine hm_iload_n C d_K_climbFrom_22 rfl 2 rfl ?_
  refine hm_if_le (tgt := 101) C d_K_climbFrom_23 (by decide) (fun z1 => ?_) (fun z1 => ?_)
  · have hf := hm_ifp hf z1
    exact hm_vret C hr hlk d_K_climbFrom_101 hf
  · have hf := hm_ifn hf z1
    refine hm_aload_n C d_K_climbFrom_26 rfl 1 rfl ?_
    obtain ⟨a2, ea2, hf⟩ := hm_bind hf
    refine hm_getRN C F_2 3 (by decide) rfl kF_5 d_K_climbFrom_27 ea2 ?_
    refine hm_iload_n C d_K_climbFrom_30 rfl 2 rfl ?_
    obtain ⟨v3, ev3, hf⟩ := hm_bind hf
    refine hm_iaload C d_K_climbFrom_31 ev3 ?_
    refine hm_istore (lv' := [(4, .int v3), (0, .ref x0), (1, .ref x1), (3, .int x3)]) C d_K_climbFrom_32 (by decide) rfl ?_
    refine hm_iconst (v := (0 : Int32)) C d_K_climbFrom_34 (by decide) ?_
    refine hm_istore (lv' := [(5, .int (0 : Int32)), (4, .int v3), (0, .ref x0), (1, .ref x1), (3, .int x3)]) C d_K_climbFrom_35 (by decide) rfl ?_
    refine hm_sub (lv' := [(0, .ref x0), (1, .ref x1), (3, .int x3), (4, .int v3), (5, .int (0 : Int32))]) [2, 3, 4, 1, 0] rfl ?_
    exact w_K_climbFrom_37L C hr hlk hk22 _ _ _ _ _ _ _ hf
theorem w_K_climbFrom_22L {p : Program} {l : Launch} {e : Env} {R : Room} {s : State} {m : MethodId} {args : Array Value} {below : List Frame} {meth : Method} {c : Code} {E : hm_E} {n0 s0 F : Nat} {h' : hm_T} (C : hm_C E prog_2_method_9_code 7 "DistanceLabels$Contraction" 2 42 n0 s0 (hm_n h') (hm_s h') p R s m args c) (hr : meth.sig.returnType = none) (hlk : meth.locks = false) : ∀ (N : Nat) (x0 : Nat) (x1 : Nat) (x3 : Int32) (h : hm_T), f_K_climbFrom_22 F N x0 x1 x3 h = some h' → hm_G E 7 n0 s0 (hm_n h') (hm_s h') p l e R s m args below meth c (MQ below (hm_Qc E none h') args s (hm_n h' - n0) (hm_s h' - s0) (fun q => E.2.2 ≤ q)) 22 [(0, .ref x0), (1, .ref x1), (3, .int x3)] [] h := by
  intro N
  induction N with
  | zero => intro _ _ _ _ hf; cases hf
  | succ n ih => intro x0 x1 x3 h hf; exact w_g_K_climbFrom_22 C hr hlk ih hf
set_option maxRecDepth 20000 in
set_option maxHeartbeats 1000000 in
theorem w_f_K_climbFrom {p : Program} {l : Launch} {e : Env} {R : Room} {s : State} {m : MethodId} {args : Array Value} {below : List Frame} {meth : Method} {c : Code} {E : hm_E} {n0 s0 F : Nat} {h h' : hm_T} {x0 : Nat} {x1 : Nat} {x2 : Int32} (C : hm_C E prog_2_method_9_code 7 "DistanceLabels$Contraction" 2 42 n0 s0 (hm_n h') (hm_s h') p R s m args c) (hr : meth.sig.returnType = none) (hlk : meth.locks = false) (hf : f_K_climbFrom F x0 x1 x2 h = some h') : hm_G E 7 n0 s0 (hm_n h') (hm_s h') p l e R s m args below meth c (MQ below (hm_Qc E none h') args s (hm_n h' - n0) (hm_s h' - s0) (fun q => E.2.2 ≤ q)) 0 [(0, .ref x0), (1, .ref x1), (2, .int x2)] [] h := by
  unfold f_K_climbFrom at hf
  refine hm_aload_n C d_K_climbFrom_0 rfl 0 rfl ?_
  obtain ⟨a1, ea1, hf⟩ := hm_bind hf
  refine hm_getR C F_0 5 (by decide) rfl k_19 d_K_climbFrom_1 ea1 ?_
  refine hm_iconst (v := (-1 : Int32)) C d_K_climbFrom_4 (by decide) ?_
  obtain ⟨h2, eh2, hf⟩ := hm_bind hf
  refine hm_callS (vs := [.ref a1, .int (-1 : Int32)]) (st := []) (sb := []) C (c_J_fill eh2) Y_J_fill k_116 k_115 (by decide) (by decide) rfl (Nat.le_of_ble_eq_true rfl) d_K_climbFrom_5 rfl rfl ?_
  refine hm_aload_n C d_K_climbFrom_8 rfl 0 rfl ?_
  obtain ⟨a3, ea3, hf⟩ := hm_bind hf
  refine hm_getR C F_0 5 (by decide) rfl k_19 d_K_climbFrom_9 ea3 ?_
  refine hm_iload_n C d_K_climbFrom_12 rfl 2 rfl ?_
  refine hm_iconst (v := (0 : Int32)) C d_K_climbFrom_13 (by decide) ?_
  obtain ⟨h4, eh4, hf⟩ := hm_bind hf
  refine hm_iastore C d_K_climbFrom_14 eh4 ?_
  refine hm_aload_n C d_K_climbFrom_15 rfl 1 rfl ?_
  obtain ⟨a5, ea5, hf⟩ := hm_bind hf
  refine hm_getRN C F_2 4 (by decide) rfl kF_4 d_K_climbFrom_16 ea5 ?_
  refine hm_iload_n C d_K_climbFrom_19 rfl 2 rfl ?_
  obtain ⟨v6, ev6, hf⟩ := hm_bind hf
  refine hm_iaload C d_K_climbFrom_20 ev6 ?_
  refine hm_istore_n (lv' := [(3, .int v6), (0, .ref x0), (1, .ref x1), (2, .int x2)]) C d_K_climbFrom_21 rfl (by decide) rfl ?_
  refine hm_sub (lv' := [(0, .ref x0), (1, .ref x1), (3, .int v6)]) [1, 2, 0] rfl ?_
  exact w_K_climbFrom_22L C hr hlk _ _ _ _ _ hf
set_option maxRecDepth 20000 in
theorem c_K_climbFrom {E : hm_E} {l : Launch} {F : Nat} {h h' : hm_T} {x0 : Nat} {x1 : Nat} {x2 : Int32} (hf : f_K_climbFrom F x0 x1 x2 h = some h') : hm_M E l y_K_climbFrom prog_2_method_9_code 7 none 2 42 [.ref x0, .ref x1, .int x2] h none h' :=
  hm_enter (by decide +kernel) (Nat.le_of_ble_eq_true rfl) (m_f_K_climbFrom hf) (fun p e R s m below meth c C hr hlk hin => w_f_K_climbFrom C hr hlk hf)
def f_K_climbBackFrom_95 (F : Nat) (k22 : Nat → Nat → Int32 → hm_T → Option hm_T) (x0 : Nat) (x1 : Nat) (x3 : Int32) (h : hm_T) : Option hm_T :=
  k22 x0 x1 (x3 + (-1 : Int32)) h
def g_K_climbBackFrom_37 (F : Nat) (k22 : Nat → Nat → Int32 → hm_T → Option hm_T) (k37 : Nat → Nat → Int32 → Int32 → Int32 → hm_T → Option hm_T) (x0 : Nat) (x1 : Nat) (x3 : Int32) (x4 : Int32) (x5 : Int32) (h : hm_T) : Option hm_T :=
  (if x3 ≤ x5 then f_K_climbBackFrom_95 F k22 x0 x1 x3 h else (hm_gr 2 5 3 h x1).bind (fun a2 => (hm_ild h a2 x5).bind (fun v3 => (hm_gr 0 7 6 h x0).bind (fun a4 => (hm_gr 0 7 0 h x0).bind (fun a5 => (hm_ald h a5 v3).bind (fun a6 => (hm_ild h a6 x4).bind (fun v7 => (hm_gr 0 7 6 h x0).bind (fun a8 => (hm_ild h a8 x4).bind (fun v9 => hm_and (f_D_sum F v7 v9 h) (fun v10 h10 => (hm_gr 0 7 6 h10 x0).bind (fun a11 => (hm_ild h10 a11 v3).bind (fun v12 => hm_and (f_D_lesser F v10 v12 h10) (fun v13 h13 => (hm_ist h13 a4 v3 v13).bind (fun h14 => k37 x0 x1 x3 x4 (x5 + (1 : Int32)) h14))))))))))))))
def f_K_climbBackFrom_37 (F : Nat) (k22 : Nat → Nat → Int32 → hm_T → Option hm_T) : Nat → Nat → Nat → Int32 → Int32 → Int32 → hm_T → Option hm_T
  | 0 => fun _ _ _ _ _ _ => none
  | n + 1 => g_K_climbBackFrom_37 F k22 (f_K_climbBackFrom_37 F k22 n)
def g_K_climbBackFrom_22 (F : Nat) (k22 : Nat → Nat → Int32 → hm_T → Option hm_T) (x0 : Nat) (x1 : Nat) (x3 : Int32) (h : hm_T) : Option hm_T :=
  (if x3 ≤ 0 then some h else (hm_gr 2 5 3 h x1).bind (fun a2 => (hm_ild h a2 x3).bind (fun v3 => f_K_climbBackFrom_37 F k22 F x0 x1 x3 v3 (0 : Int32) h)))
def f_K_climbBackFrom_22 (F : Nat) : Nat → Nat → Nat → Int32 → hm_T → Option hm_T
  | 0 => fun _ _ _ _ => none
  | n + 1 => g_K_climbBackFrom_22 F (f_K_climbBackFrom_22 F n)
def f_K_climbBackFrom (F : Nat) (x0 : Nat) (x1 : Nat) (x2 : Int32) (h : hm_T) : Option hm_T :=
  (hm_gr 0 7 6 h x0).bind (fun a1 => (f_J_fill F a1 (-1 : Int32) h).bind (fun h2 => (hm_gr 0 7 6 h2 x0).bind (fun a3 => (hm_ist h2 a3 x2 (0 : Int32)).bind (fun h4 => (hm_gr 2 5 4 h4 x1).bind (fun a5 => (hm_ild h4 a5 x2).bind (fun v6 => f_K_climbBackFrom_22 F F x0 x1 v6 h4))))))
theorem m_f_K_climbBackFrom_95 {F : Nat} {h h' : hm_T} {x0 : Nat} {x1 : Nat} {x3 : Int32} {k22 : Nat → Nat → Int32 → hm_T → Option hm_T} (hk22 : ∀ (y0 : Nat) (y1 : Nat) (y3 : Int32) (g : hm_T), k22 y0 y1 y3 g = some h' → hm_le g h') (hf : f_K_climbBackFrom_95 F k22 x0 x1 x3 h = some h') : hm_le h h' := by
  unfold f_K_climbBackFrom_95 at hf
  exact (hk22 _ _ _ _ hf)
theorem m_g_K_climbBackFrom_37 {F : Nat} {h h' : hm_T} {x0 : Nat} {x1 : Nat} {x3 : Int32} {x4 : Int32} {x5 : Int32} {k22 : Nat → Nat → Int32 → hm_T → Option hm_T} {k37 : Nat → Nat → Int32 → Int32 → Int32 → hm_T → Option hm_T} (hk22 : ∀ (y0 : Nat) (y1 : Nat) (y3 : Int32) (g : hm_T), k22 y0 y1 y3 g = some h' → hm_le g h') (hk37 : ∀ (y0 : Nat) (y1 : Nat) (y3 : Int32) (y4 : Int32) (y5 : Int32) (g : hm_T), k37 y0 y1 y3 y4 y5 g = some h' → hm_le g h') (hf : g_K_climbBackFrom_37 F k22 k37 x0 x1 x3 x4 x5 h = some h') : hm_le h h' := by
  unfold g_K_climbBackFrom_37 at hf
  by_cases z1 : x3 ≤ x5
  · have hf := hm_ifp hf z1
    exact (m_f_K_climbBackFrom_95 hk22 hf)
  · have hf := hm_ifn hf z1
    obtain ⟨a2, ea2, hf⟩ := hm_bind hf
    obtain ⟨v3, ev3, hf⟩ := hm_bind hf
    obtain ⟨a4, ea4, hf⟩ := hm_bind hf
    obtain ⟨a5, ea5, hf⟩ := hm_bind hf
    obtain ⟨a6, ea6, hf⟩ := hm_bind hf
    obtain ⟨v7, ev7, hf⟩ := hm_bind hf
    obtain ⟨a8, ea8, hf⟩ := hm_bind hf
    obtain ⟨v9, ev9, hf⟩ := hm_bind hf
    obtain ⟨v10, h10, eh10, hf⟩ := hm_and_of hf
    have mh10 := m_f_D_sum eh10
    obtain ⟨a11, ea11, hf⟩ := hm_bind hf
    obtain ⟨v12, ev12, hf⟩ := hm_bind hf
    obtain ⟨v13, h13, eh13, hf⟩ := hm_and_of hf
    have mh13 := m_f_D_lesser eh13
    obtain ⟨h14, eh14, hf⟩ := hm_bind hf
    have mh14 := hm_le.ist eh14
    exact mh10.tr (mh13.tr (mh14.tr ((hk37 _ _ _ _ _ _ hf))))
theorem m_K_climbBackFrom_37L {F : Nat} {h' : hm_T} {k22 : Nat → Nat → Int32 → hm_T → Option hm_T} (hk22 : ∀ (y0 : Nat) (y1 : Nat) (y3 : Int32) (g : hm_T), k22 y0 y1 y3 g = some h' → hm_le g h') : ∀ (N : Nat) (x0 : Nat) (x1 : Nat) (x3 : Int32) (x4 : Int32) (x5 : Int32) (h : hm_T), f_K_climbBackFrom_37 F k22 N x0 x1 x3 x4 x5 h = some h' → hm_le h h' := by
  intro N
  induction N with
  | zero => intro _ _ _ _ _ _ hf; cases hf
  | succ n ih => intro x0 x1 x3 x4 x5 h hf; exact m_g_K_climbBackFrom_37 hk22 ih hf
theorem m_g_K_climbBackFrom_22 {F : Nat} {h h' : hm_T} {x0 : Nat} {x1 : Nat} {x3 : Int32} {k22 : Nat → Nat → Int32 → hm_T → Option hm_T} (hk22 : ∀ (y0 : Nat) (y1 : Nat) (y3 : Int32) (g : hm_T), k22 y0 y1 y3 g = some h' → hm_le g h') (hf : g_K_climbBackFrom_22 F k22 x0 x1 x3 h = some h') : hm_le h h' := by
  unfold g_K_climbBackFrom_22 at hf
  by_cases z1 : x3 ≤ 0
  · have hf := hm_ifp hf z1
    exact (hm_le.retv hf)
  · have hf := hm_ifn hf z1
    obtain ⟨a2, ea2, hf⟩ := hm_bind hf
    obtain ⟨v3, ev3, hf⟩ := hm_bind hf
    exact (m_K_climbBackFrom_37L hk22 _ _ _ _ _ _ _ hf)
theorem m_K_climbBackFrom_22L {F : Nat} {h' : hm_T} : ∀ (N : Nat) (x0 : Nat) (x1 : Nat) (x3 : Int32) (h : hm_T), f_K_climbBackFrom_22 F N x0 x1 x3 h = some h' → hm_le h h' := by
  intro N
  induction N with
  | zero => intro _ _ _ _ hf; cases hf
  | succ n ih => intro x0 x1 x3 h hf; exact m_g_K_climbBackFrom_22 ih hf
theorem m_f_K_climbBackFrom {F : Nat} {h h' : hm_T} {x0 : Nat} {x1 : Nat} {x2 : Int32} (hf : f_K_climbBackFrom F x0 x1 x2 h = some h') : hm_le h h' := by
  unfold f_K_climbBackFrom at hf
  obtain ⟨a1, ea1, hf⟩ := hm_bind hf
  obtain ⟨h2, eh2, hf⟩ := hm_bind hf
  have mh2 := m_f_J_fill eh2
  obtain ⟨a3, ea3, hf⟩ := hm_bind hf
  obtain ⟨h4, eh4, hf⟩ := hm_bind hf
  have mh4 := hm_le.ist eh4
  obtain ⟨a5, ea5, hf⟩ := hm_bind hf
  obtain ⟨v6, ev6, hf⟩ := hm_bind hf
  exact mh2.tr (mh4.tr ((m_K_climbBackFrom_22L _ _ _ _ _ hf)))
set_option maxRecDepth 20000 in
set_option maxHeartbeats 1000000 in
theorem w_f_K_climbBackFrom_95 {p : Program} {l : Launch} {e : Env} {R : Room} {s : State} {m : MethodId} {args : Array Value} {below : List Frame} {meth : Method} {c : Code} {E : hm_E} {n0 s0 F : Nat} {h h' : hm_T} {x0 : Nat} {x1 : Nat} {x3 : Int32} {k22 : Nat → Nat → Int32 → hm_T → Option hm_T} (C : hm_C E prog_2_method_10_code 7 "DistanceLabels$Contraction" 2 42 n0 s0 (hm_n h') (hm_s h') p R s m args c) (hr : meth.sig.returnType = none) (hlk : meth.locks = false) (hk22 : ∀ (y0 : Nat) (y1 : Nat) (y3 : Int32) (g : hm_T), k22 y0 y1 y3 g = some h' → hm_G E 7 n0 s0 (hm_n h') (hm_s h') p l e R s m args below meth c (MQ below (hm_Qc E none h') args s (hm_n h' - n0) (hm_s h' - s0) (fun q => E.2.2 ≤ q)) 22 [(0, .ref y0), (1, .ref y1), (3, .int y3)] [] g) (hf : f_K_climbBackFrom_95 F k22 x0 x1 x3 h = some h') : hm_G E 7 n0 s0 (hm_n h') (hm_s h') p l e R s m args below meth c (MQ below (hm_Qc E none h') args s (hm_n h' - n0) (hm_s h' - s0) (fun q => E.2.2 ≤ q)) 95 [(0, .ref x0), (1, .ref x1), (3, .int x3)] [] h := by
  unfold f_K_climbBackFrom_95 at hf
  refine hm_iinc (v := (x3 + (-1 : Int32))) (lv' := [(3, .int (x3 + (-1 : Int32))), (0, .ref x0), (1, .ref x1)]) C d_K_climbBackFrom_95 2 rfl rfl (by decide) rfl ?_
  refine hm_goto (tgt := 22) C d_K_climbBackFrom_98 (by decide) ?_
  refine hm_sub (lv' := [(0, .ref x0), (1, .ref x1), (3, .int (x3 + (-1 : Int32)))]) [1, 2, 0] rfl ?_
  exact hk22 _ _ _ _ hf
set_option maxRecDepth 20000 in
set_option maxHeartbeats 1000000 in
theorem w_g_K_climbBackFrom_37 {p : Program} {l : Launch} {e : Env} {R : Room} {s : State} {m : MethodId} {args : Array Value} {below : List Frame} {meth : Method} {c : Code} {E : hm_E} {n0 s0 F : Nat} {h h' : hm_T} {x0 : Nat} {x1 : Nat} {x3 : Int32} {x4 : Int32} {x5 : Int32} {k22 : Nat → Nat → Int32 → hm_T → Option hm_T} {k37 : Nat → Nat → Int32 → Int32 → Int32 → hm_T → Option hm_T} (C : hm_C E prog_2_method_10_code 7 "DistanceLabels$Contraction" 2 42 n0 s0 (hm_n h') (hm_s h') p R s m args c) (hr : meth.sig.returnType = none) (hlk : meth.locks = false) (hk22 : ∀ (y0 : Nat) (y1 : Nat) (y3 : Int32) (g : hm_T), k22 y0 y1 y3 g = some h' → hm_G E 7 n0 s0 (hm_n h') (hm_s h') p l e R s m args below meth c (MQ below (hm_Qc E none h') args s (hm_n h' - n0) (hm_s h' - s0) (fun q => E.2.2 ≤ q)) 22 [(0, .ref y0), (1, .ref y1), (3, .int y3)] [] g) (hk37 : ∀ (y0 : Nat) (y1 : Nat) (y3 : Int32) (y4 : Int32) (y5 : Int32) (g : hm_T), k37 y0 y1 y3 y4 y5 g = some h' → hm_G E 7 n0 s0 (hm_n h') (hm_s h') p l e R s m args below meth c (MQ below (hm_Qc E none h') args s (hm_n h' - n0) (hm_s h' - s0) (fun q => E.2.2 ≤ q)) 37 [(0, .ref y0), (1, .ref y1), (3, .int y3), (4, .int y4), (5, .int y5)] [] g) (hf : g_K_climbBackFrom_37 F k22 k37 x0 x1 x3 x4 x5 h = some h') : hm_G E 7 n0 s0 (hm_n h') (hm_s h') p l e R s m args below meth c (MQ below (hm_Qc E none h') args s (hm_n h' - n0) (hm_s h' - s0) (fun q => E.2.2 ≤ q)) 37 [(0, .ref x0), (1, .ref x1), (3, .int x3), (4, .int x4), (5, .int x5)] [] h := by
  unfold g_K_climbBackFrom_37 at hf
  refine hm_iload C d_K_climbBackFrom_37 4 rfl ?_
  refine hm_iload_n C d_K_climbBackFrom_39 rfl 2 rfl ?_
  refine hm_icmp_ge (tgt := 95) C d_K_climbBackFrom_40 (by decide) (fun z1 => ?_) (fun z1 => ?_)
  · have hf := hm_ifp hf z1
    refine hm_sub (lv' := [(0, .ref x0), (1, .ref x1), (3, .int x3)]) [0, 1, 2] rfl ?_
    exact w_f_K_climbBackFrom_95 C hr hlk hk22 hf
  · have hf := hm_ifn hf z1
    refine hm_aload_n C d_K_climbBackFrom_43 rfl 1 rfl ?_
    obtain ⟨a2, ea2, hf⟩ := hm_bind hf
    refine hm_getRN C F_2 3 (by decide) rfl kF_5 d_K_climbBackFrom_44 ea2 ?_
    refine hm_iload C d_K_climbBackFrom_47 4 rfl ?_
    obtain ⟨v3, ev3, hf⟩ := hm_bind hf
    refine hm_iaload C d_K_climbBackFrom_49 ev3 ?_
    refine hm_istore (lv' := [(6, .int v3), (0, .ref x0), (1, .ref x1), (3, .int x3), (4, .int x4), (5, .int x5)]) C d_K_climbBackFrom_50 (by decide) rfl ?_
    refine hm_aload_n C d_K_climbBackFrom_52 rfl 1 rfl ?_
    obtain ⟨a4, ea4, hf⟩ := hm_bind hf
    refine hm_getR C F_0 6 (by decide) rfl k_20 d_K_climbBackFrom_53 ea4 ?_
    refine hm_iload C d_K_climbBackFrom_56 0 rfl ?_
    refine hm_aload_n C d_K_climbBackFrom_58 rfl 1 rfl ?_
    obtain ⟨a5, ea5, hf⟩ := hm_bind hf
    refine hm_getR C F_0 0 (by decide) rfl k_14 d_K_climbBackFrom_59 ea5 ?_
    refine hm_iload C d_K_climbBackFrom_62 0 rfl ?_
    obtain ⟨a6, ea6, hf⟩ := hm_bind hf
    refine hm_aaload C d_K_climbBackFrom_64 ea6 ?_
    refine hm_iload C d_K_climbBackFrom_65 4 rfl ?_
    obtain ⟨v7, ev7, hf⟩ := hm_bind hf
    refine hm_iaload C d_K_climbBackFrom_67 ev7 ?_
    refine hm_aload_n C d_K_climbBackFrom_68 rfl 1 rfl ?_
    obtain ⟨a8, ea8, hf⟩ := hm_bind hf
    refine hm_getR C F_0 6 (by decide) rfl k_20 d_K_climbBackFrom_69 ea8 ?_
    refine hm_iload C d_K_climbBackFrom_72 4 rfl ?_
    obtain ⟨v9, ev9, hf⟩ := hm_bind hf
    refine hm_iaload C d_K_climbBackFrom_74 ev9 ?_
    obtain ⟨v10, h10, eh10, hf⟩ := hm_and_of hf
    refine hm_callSN (vs := [.int v7, .int v9]) (st := [.int v3, .ref a4]) (sb := [.int v10, .int v3, .ref a4]) C (c_D_sum eh10) Y_D_sum k_69 kM_13 (by decide) (by decide) rfl (Nat.le_of_ble_eq_true rfl) d_K_climbBackFrom_75 rfl rfl ?_
    refine hm_aload_n C d_K_climbBackFrom_78 rfl 1 rfl ?_
    obtain ⟨a11, ea11, hf⟩ := hm_bind hf
    refine hm_getR C F_0 6 (by decide) rfl k_20 d_K_climbBackFrom_79 ea11 ?_
    refine hm_iload C d_K_climbBackFrom_82 0 rfl ?_
    obtain ⟨v12, ev12, hf⟩ := hm_bind hf
    refine hm_iaload C d_K_climbBackFrom_84 ev12 ?_
    obtain ⟨v13, h13, eh13, hf⟩ := hm_and_of hf
    refine hm_callSN (vs := [.int v10, .int v12]) (st := [.int v3, .ref a4]) (sb := [.int v13, .int v3, .ref a4]) C (c_D_lesser eh13) Y_D_lesser k_114 kM_23 (by decide) (by decide) rfl (Nat.le_of_ble_eq_true rfl) d_K_climbBackFrom_85 rfl rfl ?_
    obtain ⟨h14, eh14, hf⟩ := hm_bind hf
    refine hm_iastore C d_K_climbBackFrom_88 eh14 ?_
    refine hm_iinc (v := (x5 + (1 : Int32))) (lv' := [(5, .int (x5 + (1 : Int32))), (6, .int v3), (0, .ref x0), (1, .ref x1), (3, .int x3), (4, .int x4)]) C d_K_climbBackFrom_89 5 rfl rfl (by decide) rfl ?_
    refine hm_goto (tgt := 37) C d_K_climbBackFrom_92 (by decide) ?_
    refine hm_sub (lv' := [(0, .ref x0), (1, .ref x1), (3, .int x3), (4, .int x4), (5, .int (x5 + (1 : Int32)))]) [2, 3, 4, 5, 0] rfl ?_
    exact hk37 _ _ _ _ _ _ hf
theorem w_K_climbBackFrom_37L {p : Program} {l : Launch} {e : Env} {R : Room} {s : State} {m : MethodId} {args : Array Value} {below : List Frame} {meth : Method} {c : Code} {E : hm_E} {n0 s0 F : Nat} {h' : hm_T} {k22 : Nat → Nat → Int32 → hm_T → Option hm_T} (C : hm_C E prog_2_method_10_code 7 "DistanceLabels$Contraction" 2 42 n0 s0 (hm_n h') (hm_s h') p R s m args c) (hr : meth.sig.returnType = none) (hlk : meth.locks = false) (hk22 : ∀ (y0 : Nat) (y1 : Nat) (y3 : Int32) (g : hm_T), k22 y0 y1 y3 g = some h' → hm_G E 7 n0 s0 (hm_n h') (hm_s h') p l e R s m args below meth c (MQ below (hm_Qc E none h') args s (hm_n h' - n0) (hm_s h' - s0) (fun q => E.2.2 ≤ q)) 22 [(0, .ref y0), (1, .ref y1), (3, .int y3)] [] g) : ∀ (N : Nat) (x0 : Nat) (x1 : Nat) (x3 : Int32) (x4 : Int32) (x5 : Int32) (h : hm_T), f_K_climbBackFrom_37 F k22 N x0 x1 x3 x4 x5 h = some h' → hm_G E 7 n0 s0 (hm_n h') (hm_s h') p l e R s m args below meth c (MQ below (hm_Qc E none h') args s (hm_n h' - n0) (hm_s h' - s0) (fun q => E.2.2 ≤ q)) 37 [(0, .ref x0), (1, .ref x1), (3, .int x3), (4, .int x4), (5, .int x5)] [] h := by
  intro N
  induction N with
  | zero => intro _ _ _ _ _ _ hf; cases hf
  | succ n ih => intro x0 x1 x3 x4 x5 h hf; exact w_g_K_climbBackFrom_37 C hr hlk hk22 ih hf
set_option maxRecDepth 20000 in
set_option maxHeartbeats 1000000 in
theorem w_g_K_climbBackFrom_22 {p : Program} {l : Launch} {e : Env} {R : Room} {s : State} {m : MethodId} {args : Array Value} {below : List Frame} {meth : Method} {c : Code} {E : hm_E} {n0 s0 F : Nat} {h h' : hm_T} {x0 : Nat} {x1 : Nat} {x3 : Int32} {k22 : Nat → Nat → Int32 → hm_T → Option hm_T} (C : hm_C E prog_2_method_10_code 7 "DistanceLabels$Contraction" 2 42 n0 s0 (hm_n h') (hm_s h') p R s m args c) (hr : meth.sig.returnType = none) (hlk : meth.locks = false) (hk22 : ∀ (y0 : Nat) (y1 : Nat) (y3 : Int32) (g : hm_T), k22 y0 y1 y3 g = some h' → hm_G E 7 n0 s0 (hm_n h') (hm_s h') p l e R s m args below meth c (MQ below (hm_Qc E none h') args s (hm_n h' - n0) (hm_s h' - s0) (fun q => E.2.2 ≤ q)) 22 [(0, .ref y0), (1, .ref y1), (3, .int y3)] [] g) (hf : g_K_climbBackFrom_22 F k22 x0 x1 x3 h = some h') : hm_G E 7 n0 s0 (hm_n h') (hm_s h') p l e R s m args below meth c (MQ below (hm_Qc E none h') args s (hm_n h' - n0) (hm_s h' - s0) (fun q => E.2.2 ≤ q)) 22 [(0, .ref x0), (1, .ref x1), (3, .int x3)] [] h := by
  unfold g_K_climbBackFrom_22 at hf
  refine hm_iload_n C d_K_climbBackFrom_22 rfl 2 rfl ?_
  refine hm_if_le (tgt := 101) C d_K_climbBackFrom_23 (by decide) (fun z1 => ?_) (fun z1 => ?_)
  · have hf := hm_ifp hf z1
    exact hm_vret C hr hlk d_K_climbBackFrom_101 hf
  · have hf := hm_ifn hf z1
    refine hm_aload_n C d_K_climbBackFrom_26 rfl 1 rfl ?_
    obtain ⟨a2, ea2, hf⟩ := hm_bind hf
    refine hm_getRN C F_2 3 (by decide) rfl kF_5 d_K_climbBackFrom_27 ea2 ?_
    refine hm_iload_n C d_K_climbBackFrom_30 rfl 2 rfl ?_
    obtain ⟨v3, ev3, hf⟩ := hm_bind hf
    refine hm_iaload C d_K_climbBackFrom_31 ev3 ?_
    refine hm_istore (lv' := [(4, .int v3), (0, .ref x0), (1, .ref x1), (3, .int x3)]) C d_K_climbBackFrom_32 (by decide) rfl ?_
    refine hm_iconst (v := (0 : Int32)) C d_K_climbBackFrom_34 (by decide) ?_
    refine hm_istore (lv' := [(5, .int (0 : Int32)), (4, .int v3), (0, .ref x0), (1, .ref x1), (3, .int x3)]) C d_K_climbBackFrom_35 (by decide) rfl ?_
    refine hm_sub (lv' := [(0, .ref x0), (1, .ref x1), (3, .int x3), (4, .int v3), (5, .int (0 : Int32))]) [2, 3, 4, 1, 0] rfl ?_
    exact w_K_climbBackFrom_37L C hr hlk hk22 _ _ _ _ _ _ _ hf
theorem w_K_climbBackFrom_22L {p : Program} {l : Launch} {e : Env} {R : Room} {s : State} {m : MethodId} {args : Array Value} {below : List Frame} {meth : Method} {c : Code} {E : hm_E} {n0 s0 F : Nat} {h' : hm_T} (C : hm_C E prog_2_method_10_code 7 "DistanceLabels$Contraction" 2 42 n0 s0 (hm_n h') (hm_s h') p R s m args c) (hr : meth.sig.returnType = none) (hlk : meth.locks = false) : ∀ (N : Nat) (x0 : Nat) (x1 : Nat) (x3 : Int32) (h : hm_T), f_K_climbBackFrom_22 F N x0 x1 x3 h = some h' → hm_G E 7 n0 s0 (hm_n h') (hm_s h') p l e R s m args below meth c (MQ below (hm_Qc E none h') args s (hm_n h' - n0) (hm_s h' - s0) (fun q => E.2.2 ≤ q)) 22 [(0, .ref x0), (1, .ref x1), (3, .int x3)] [] h := by
  intro N
  induction N with
  | zero => intro _ _ _ _ hf; cases hf
  | succ n ih => intro x0 x1 x3 h hf; exact w_g_K_climbBackFrom_22 C hr hlk ih hf
set_option maxRecDepth 20000 in
set_option maxHeartbeats 1000000 in
theorem w_f_K_climbBackFrom {p : Program} {l : Launch} {e : Env} {R : Room} {s : State} {m : MethodId} {args : Array Value} {below : List Frame} {meth : Method} {c : Code} {E : hm_E} {n0 s0 F : Nat} {h h' : hm_T} {x0 : Nat} {x1 : Nat} {x2 : Int32} (C : hm_C E prog_2_method_10_code 7 "DistanceLabels$Contraction" 2 42 n0 s0 (hm_n h') (hm_s h') p R s m args c) (hr : meth.sig.returnType = none) (hlk : meth.locks = false) (hf : f_K_climbBackFrom F x0 x1 x2 h = some h') : hm_G E 7 n0 s0 (hm_n h') (hm_s h') p l e R s m args below meth c (MQ below (hm_Qc E none h') args s (hm_n h' - n0) (hm_s h' - s0) (fun q => E.2.2 ≤ q)) 0 [(0, .ref x0), (1, .ref x1), (2, .int x2)] [] h := by
  unfold f_K_climbBackFrom at hf
  refine hm_aload_n C d_K_climbBackFrom_0 rfl 0 rfl ?_
  obtain ⟨a1, ea1, hf⟩ := hm_bind hf
  refine hm_getR C F_0 6 (by decide) rfl k_20 d_K_climbBackFrom_1 ea1 ?_
  refine hm_iconst (v := (-1 : Int32)) C d_K_climbBackFrom_4 (by decide) ?_
  obtain ⟨h2, eh2, hf⟩ := hm_bind hf
  refine hm_callS (vs := [.ref a1, .int (-1 : Int32)]) (st := []) (sb := []) C (c_J_fill eh2) Y_J_fill k_116 k_115 (by decide) (by decide) rfl (Nat.le_of_ble_eq_true rfl) d_K_climbBackFrom_5 rfl rfl ?_
  refine hm_aload_n C d_K_climbBackFrom_8 rfl 0 rfl ?_
  obtain ⟨a3, ea3, hf⟩ := hm_bind hf
  refine hm_getR C F_0 6 (by decide) rfl k_20 d_K_climbBackFrom_9 ea3 ?_
  refine hm_iload_n C d_K_climbBackFrom_12 rfl 2 rfl ?_
  refine hm_iconst (v := (0 : Int32)) C d_K_climbBackFrom_13 (by decide) ?_
  obtain ⟨h4, eh4, hf⟩ := hm_bind hf
  refine hm_iastore C d_K_climbBackFrom_14 eh4 ?_
  refine hm_aload_n C d_K_climbBackFrom_15 rfl 1 rfl ?_
  obtain ⟨a5, ea5, hf⟩ := hm_bind hf
  refine hm_getRN C F_2 4 (by decide) rfl kF_4 d_K_climbBackFrom_16 ea5 ?_
  refine hm_iload_n C d_K_climbBackFrom_19 rfl 2 rfl ?_
  obtain ⟨v6, ev6, hf⟩ := hm_bind hf
  refine hm_iaload C d_K_climbBackFrom_20 ev6 ?_
  refine hm_istore_n (lv' := [(3, .int v6), (0, .ref x0), (1, .ref x1), (2, .int x2)]) C d_K_climbBackFrom_21 rfl (by decide) rfl ?_
  refine hm_sub (lv' := [(0, .ref x0), (1, .ref x1), (3, .int v6)]) [1, 2, 0] rfl ?_
  exact w_K_climbBackFrom_22L C hr hlk _ _ _ _ _ hf
set_option maxRecDepth 20000 in
theorem c_K_climbBackFrom {E : hm_E} {l : Launch} {F : Nat} {h h' : hm_T} {x0 : Nat} {x1 : Nat} {x2 : Int32} (hf : f_K_climbBackFrom F x0 x1 x2 h = some h') : hm_M E l y_K_climbBackFrom prog_2_method_10_code 7 none 2 42 [.ref x0, .ref x1, .int x2] h none h' :=
  hm_enter (by decide +kernel) (Nat.le_of_ble_eq_true rfl) (m_f_K_climbBackFrom hf) (fun p e R s m below meth c C hr hlk hin => w_f_K_climbBackFrom C hr hlk hf)
def g_K_climbed_18 (F : Nat) (k18 : Nat → Nat → Int32 → Int32 → hm_T → Option (Int32 × hm_T)) (x0 : Nat) (x1 : Nat) (x4 : Int32) (x5 : Int32) (h : hm_T) : Option (Int32 × hm_T) :=
  (hm_gi 2 5 0 h x1).bind (fun v1 => (if v1 ≤ x5 then some (x4, h) else (hm_gr 0 7 5 h x0).bind (fun a3 => (hm_ild h a3 x5).bind (fun v4 => (hm_gr 0 7 6 h x0).bind (fun a5 => (hm_ild h a5 x5).bind (fun v6 => hm_and (f_D_sum F v4 v6 h) (fun v7 h7 => hm_and (f_D_lesser F x4 v7 h7) (fun v8 h8 => k18 x0 x1 v8 (x5 + (1 : Int32)) h8))))))))
def f_K_climbed_18 (F : Nat) : Nat → Nat → Nat → Int32 → Int32 → hm_T → Option (Int32 × hm_T)
  | 0 => fun _ _ _ _ _ => none
  | n + 1 => g_K_climbed_18 F (f_K_climbed_18 F n)
def f_K_climbed (F : Nat) (x0 : Nat) (x1 : Nat) (x2 : Int32) (x3 : Int32) (h : hm_T) : Option (Int32 × hm_T) :=
  (hm_is 0 7 h x0).bind (fun u1 => (f_K_climbFrom F x0 x1 x2 h).bind (fun h2 => (hm_is 0 7 h2 x0).bind (fun u3 => (f_K_climbBackFrom F x0 x1 x3 h2).bind (fun h4 => f_K_climbed_18 F F x0 x1 (-1 : Int32) (0 : Int32) h4))))
theorem m_g_K_climbed_18 {F : Nat} {r : Int32} {h h' : hm_T} {x0 : Nat} {x1 : Nat} {x4 : Int32} {x5 : Int32} {k18 : Nat → Nat → Int32 → Int32 → hm_T → Option (Int32 × hm_T)} (hk18 : ∀ (y0 : Nat) (y1 : Nat) (y4 : Int32) (y5 : Int32) (g : hm_T), k18 y0 y1 y4 y5 g = some (r, h') → hm_le g h') (hf : g_K_climbed_18 F k18 x0 x1 x4 x5 h = some (r, h')) : hm_le h h' := by
  unfold g_K_climbed_18 at hf
  obtain ⟨v1, ev1, hf⟩ := hm_bind hf
  by_cases z2 : v1 ≤ x5
  · have hf := hm_ifp hf z2
    exact (hm_le.ret hf)
  · have hf := hm_ifn hf z2
    obtain ⟨a3, ea3, hf⟩ := hm_bind hf
    obtain ⟨v4, ev4, hf⟩ := hm_bind hf
    obtain ⟨a5, ea5, hf⟩ := hm_bind hf
    obtain ⟨v6, ev6, hf⟩ := hm_bind hf
    obtain ⟨v7, h7, eh7, hf⟩ := hm_and_of hf
    have mh7 := m_f_D_sum eh7
    obtain ⟨v8, h8, eh8, hf⟩ := hm_and_of hf
    have mh8 := m_f_D_lesser eh8
    exact mh7.tr (mh8.tr ((hk18 _ _ _ _ _ hf)))
theorem m_K_climbed_18L {F : Nat} {r : Int32} {h' : hm_T} : ∀ (N : Nat) (x0 : Nat) (x1 : Nat) (x4 : Int32) (x5 : Int32) (h : hm_T), f_K_climbed_18 F N x0 x1 x4 x5 h = some (r, h') → hm_le h h' := by
  intro N
  induction N with
  | zero => intro _ _ _ _ _ hf; cases hf
  | succ n ih => intro x0 x1 x4 x5 h hf; exact m_g_K_climbed_18 ih hf
theorem m_f_K_climbed {F : Nat} {r : Int32} {h h' : hm_T} {x0 : Nat} {x1 : Nat} {x2 : Int32} {x3 : Int32} (hf : f_K_climbed F x0 x1 x2 x3 h = some (r, h')) : hm_le h h' := by
  unfold f_K_climbed at hf
  obtain ⟨u1, eu1, hf⟩ := hm_bind hf
  obtain ⟨h2, eh2, hf⟩ := hm_bind hf
  have mh2 := m_f_K_climbFrom eh2
  obtain ⟨u3, eu3, hf⟩ := hm_bind hf
  obtain ⟨h4, eh4, hf⟩ := hm_bind hf
  have mh4 := m_f_K_climbBackFrom eh4
  exact mh2.tr (mh4.tr ((m_K_climbed_18L _ _ _ _ _ _ hf)))
set_option maxRecDepth 20000 in
set_option maxHeartbeats 1000000 in
theorem w_g_K_climbed_18 {p : Program} {l : Launch} {e : Env} {R : Room} {s : State} {m : MethodId} {args : Array Value} {below : List Frame} {meth : Method} {c : Code} {E : hm_E} {n0 s0 F : Nat} {r : Int32} {h h' : hm_T} {x0 : Nat} {x1 : Nat} {x4 : Int32} {x5 : Int32} {k18 : Nat → Nat → Int32 → Int32 → hm_T → Option (Int32 × hm_T)} (C : hm_C E prog_2_method_8_code 6 "DistanceLabels$Contraction" 3 68 n0 s0 (hm_n h') (hm_s h') p R s m args c) (hr : meth.sig.returnType = (some .int)) (hlk : meth.locks = false) (hk18 : ∀ (y0 : Nat) (y1 : Nat) (y4 : Int32) (y5 : Int32) (g : hm_T), k18 y0 y1 y4 y5 g = some (r, h') → hm_G E 6 n0 s0 (hm_n h') (hm_s h') p l e R s m args below meth c (MQ below (hm_Qc E (some (.int r)) h') args s (hm_n h' - n0) (hm_s h' - s0) (fun q => E.2.2 ≤ q)) 18 [(0, .ref y0), (1, .ref y1), (4, .int y4), (5, .int y5)] [] g) (hf : g_K_climbed_18 F k18 x0 x1 x4 x5 h = some (r, h')) : hm_G E 6 n0 s0 (hm_n h') (hm_s h') p l e R s m args below meth c (MQ below (hm_Qc E (some (.int r)) h') args s (hm_n h' - n0) (hm_s h' - s0) (fun q => E.2.2 ≤ q)) 18 [(0, .ref x0), (1, .ref x1), (4, .int x4), (5, .int x5)] [] h := by
  unfold g_K_climbed_18 at hf
  refine hm_iload C d_K_climbed_18 3 rfl ?_
  refine hm_aload_n C d_K_climbed_20 rfl 1 rfl ?_
  obtain ⟨v1, ev1, hf⟩ := hm_bind hf
  refine hm_getIN C F_2 0 (by decide) rfl kF_3 d_K_climbed_21 ev1 ?_
  refine hm_icmp_ge (tgt := 57) C d_K_climbed_24 (by decide) (fun z2 => ?_) (fun z2 => ?_)
  · have hf := hm_ifp hf z2
    refine hm_iload C d_K_climbed_57 2 rfl ?_
    exact hm_iret C hr hlk d_K_climbed_59 hf
  · have hf := hm_ifn hf z2
    refine hm_iload C d_K_climbed_27 2 rfl ?_
    refine hm_aload_n C d_K_climbed_29 rfl 0 rfl ?_
    obtain ⟨a3, ea3, hf⟩ := hm_bind hf
    refine hm_getR C F_0 5 (by decide) rfl k_19 d_K_climbed_30 ea3 ?_
    refine hm_iload C d_K_climbed_33 3 rfl ?_
    obtain ⟨v4, ev4, hf⟩ := hm_bind hf
    refine hm_iaload C d_K_climbed_35 ev4 ?_
    refine hm_aload_n C d_K_climbed_36 rfl 0 rfl ?_
    obtain ⟨a5, ea5, hf⟩ := hm_bind hf
    refine hm_getR C F_0 6 (by decide) rfl k_20 d_K_climbed_37 ea5 ?_
    refine hm_iload C d_K_climbed_40 3 rfl ?_
    obtain ⟨v6, ev6, hf⟩ := hm_bind hf
    refine hm_iaload C d_K_climbed_42 ev6 ?_
    obtain ⟨v7, h7, eh7, hf⟩ := hm_and_of hf
    refine hm_callSN (vs := [.int v4, .int v6]) (st := [.int x4]) (sb := [.int v7, .int x4]) C (c_D_sum eh7) Y_D_sum k_69 kM_13 (by decide) (by decide) rfl (Nat.le_of_ble_eq_true rfl) d_K_climbed_43 rfl rfl ?_
    obtain ⟨v8, h8, eh8, hf⟩ := hm_and_of hf
    refine hm_callSN (vs := [.int x4, .int v7]) (st := []) (sb := [.int v8]) C (c_D_lesser eh8) Y_D_lesser k_114 kM_23 (by decide) (by decide) rfl (Nat.le_of_ble_eq_true rfl) d_K_climbed_46 rfl rfl ?_
    refine hm_istore (lv' := [(4, .int v8), (0, .ref x0), (1, .ref x1), (5, .int x5)]) C d_K_climbed_49 (by decide) rfl ?_
    refine hm_iinc (v := (x5 + (1 : Int32))) (lv' := [(5, .int (x5 + (1 : Int32))), (4, .int v8), (0, .ref x0), (1, .ref x1)]) C d_K_climbed_51 3 rfl rfl (by decide) rfl ?_
    refine hm_goto (tgt := 18) C d_K_climbed_54 (by decide) ?_
    refine hm_sub (lv' := [(0, .ref x0), (1, .ref x1), (4, .int v8), (5, .int (x5 + (1 : Int32)))]) [2, 3, 1, 0] rfl ?_
    exact hk18 _ _ _ _ _ hf
theorem w_K_climbed_18L {p : Program} {l : Launch} {e : Env} {R : Room} {s : State} {m : MethodId} {args : Array Value} {below : List Frame} {meth : Method} {c : Code} {E : hm_E} {n0 s0 F : Nat} {r : Int32} {h' : hm_T} (C : hm_C E prog_2_method_8_code 6 "DistanceLabels$Contraction" 3 68 n0 s0 (hm_n h') (hm_s h') p R s m args c) (hr : meth.sig.returnType = (some .int)) (hlk : meth.locks = false) : ∀ (N : Nat) (x0 : Nat) (x1 : Nat) (x4 : Int32) (x5 : Int32) (h : hm_T), f_K_climbed_18 F N x0 x1 x4 x5 h = some (r, h') → hm_G E 6 n0 s0 (hm_n h') (hm_s h') p l e R s m args below meth c (MQ below (hm_Qc E (some (.int r)) h') args s (hm_n h' - n0) (hm_s h' - s0) (fun q => E.2.2 ≤ q)) 18 [(0, .ref x0), (1, .ref x1), (4, .int x4), (5, .int x5)] [] h := by
  intro N
  induction N with
  | zero => intro _ _ _ _ _ hf; cases hf
  | succ n ih => intro x0 x1 x4 x5 h hf; exact w_g_K_climbed_18 C hr hlk ih hf
set_option maxRecDepth 20000 in
set_option maxHeartbeats 1000000 in
theorem w_f_K_climbed {p : Program} {l : Launch} {e : Env} {R : Room} {s : State} {m : MethodId} {args : Array Value} {below : List Frame} {meth : Method} {c : Code} {E : hm_E} {n0 s0 F : Nat} {r : Int32} {h h' : hm_T} {x0 : Nat} {x1 : Nat} {x2 : Int32} {x3 : Int32} (C : hm_C E prog_2_method_8_code 6 "DistanceLabels$Contraction" 3 68 n0 s0 (hm_n h') (hm_s h') p R s m args c) (hr : meth.sig.returnType = (some .int)) (hlk : meth.locks = false) (hf : f_K_climbed F x0 x1 x2 x3 h = some (r, h')) : hm_G E 6 n0 s0 (hm_n h') (hm_s h') p l e R s m args below meth c (MQ below (hm_Qc E (some (.int r)) h') args s (hm_n h' - n0) (hm_s h' - s0) (fun q => E.2.2 ≤ q)) 0 [(0, .ref x0), (1, .ref x1), (2, .int x2), (3, .int x3)] [] h := by
  unfold f_K_climbed at hf
  refine hm_aload_n C d_K_climbed_0 rfl 0 rfl ?_
  refine hm_aload_n C d_K_climbed_1 rfl 1 rfl ?_
  refine hm_iload_n C d_K_climbed_2 rfl 2 rfl ?_
  obtain ⟨u1, eu1, hf⟩ := hm_bind hf
  obtain ⟨h2, eh2, hf⟩ := hm_bind hf
  refine hm_callV (vs := [.ref x1, .int x2]) (st := []) (sb := []) C (c_K_climbFrom eh2) Y_K_climbFrom F_0 eu1 k_118 k_119 k_117 (by decide) (by decide) rfl (Nat.le_of_ble_eq_true rfl) d_K_climbed_3 rfl rfl ?_
  refine hm_aload_n C d_K_climbed_6 rfl 0 rfl ?_
  refine hm_aload_n C d_K_climbed_7 rfl 1 rfl ?_
  refine hm_iload_n C d_K_climbed_8 rfl 3 rfl ?_
  obtain ⟨u3, eu3, hf⟩ := hm_bind hf
  obtain ⟨h4, eh4, hf⟩ := hm_bind hf
  refine hm_callV (vs := [.ref x1, .int x3]) (st := []) (sb := []) C (c_K_climbBackFrom eh4) Y_K_climbBackFrom F_0 eu3 k_121 k_122 k_120 (by decide) (by decide) rfl (Nat.le_of_ble_eq_true rfl) d_K_climbed_9 rfl rfl ?_
  refine hm_iconst (v := (-1 : Int32)) C d_K_climbed_12 (by decide) ?_
  refine hm_istore (lv' := [(4, .int (-1 : Int32)), (0, .ref x0), (1, .ref x1), (2, .int x2), (3, .int x3)]) C d_K_climbed_13 (by decide) rfl ?_
  refine hm_iconst (v := (0 : Int32)) C d_K_climbed_15 (by decide) ?_
  refine hm_istore (lv' := [(5, .int (0 : Int32)), (4, .int (-1 : Int32)), (0, .ref x0), (1, .ref x1), (2, .int x2), (3, .int x3)]) C d_K_climbed_16 (by decide) rfl ?_
  refine hm_sub (lv' := [(0, .ref x0), (1, .ref x1), (4, .int (-1 : Int32)), (5, .int (0 : Int32))]) [2, 3, 1, 0] rfl ?_
  exact w_K_climbed_18L C hr hlk _ _ _ _ _ _ hf
set_option maxRecDepth 20000 in
theorem c_K_climbed {E : hm_E} {l : Launch} {F : Nat} {r : Int32} {h h' : hm_T} {x0 : Nat} {x1 : Nat} {x2 : Int32} {x3 : Int32} (hf : f_K_climbed F x0 x1 x2 x3 h = some (r, h')) : hm_M E l y_K_climbed prog_2_method_8_code 6 (some .int) 3 68 [.ref x0, .ref x1, .int x2, .int x3] h (some (.int r)) h' :=
  hm_enter (by decide +kernel) (Nat.le_of_ble_eq_true rfl) (m_f_K_climbed hf) (fun p e R s m below meth c C hr hlk hin => w_f_K_climbed C hr hlk hf)
def f_D_climb (F : Nat) (x0 : Nat) (x1 : Int32) (x2 : Int32) (h : hm_T) : Option (Int32 × hm_T) :=
  (hm_is 3 9 h x0).bind (fun u1 => hm_and (f_D_refusalOf F x0 x1 x2 h) (fun v2 h2 => (if v2 = 0 then (hm_gr 3 9 4 h2 x0).bind (fun a4 => (hm_gr 3 9 0 h2 x0).bind (fun a5 => (hm_is 0 7 h2 a4).bind (fun u6 => hm_and (f_K_climbed F a4 a5 x1 x2 h2) (fun v7 h7 => some (v7, h7))))) else some (v2, h2))))
theorem m_f_D_climb {F : Nat} {r : Int32} {h h' : hm_T} {x0 : Nat} {x1 : Int32} {x2 : Int32} (hf : f_D_climb F x0 x1 x2 h = some (r, h')) : hm_le h h' := by
  unfold f_D_climb at hf
  obtain ⟨u1, eu1, hf⟩ := hm_bind hf
  obtain ⟨v2, h2, eh2, hf⟩ := hm_and_of hf
  have mh2 := m_f_D_refusalOf eh2
  by_cases z3 : v2 = 0
  · have hf := hm_ifp hf z3
    obtain ⟨a4, ea4, hf⟩ := hm_bind hf
    obtain ⟨a5, ea5, hf⟩ := hm_bind hf
    obtain ⟨u6, eu6, hf⟩ := hm_bind hf
    obtain ⟨v7, h7, eh7, hf⟩ := hm_and_of hf
    have mh7 := m_f_K_climbed eh7
    exact mh2.tr (mh7.tr ((hm_le.ret hf)))
  · have hf := hm_ifn hf z3
    exact mh2.tr ((hm_le.ret hf))
set_option maxRecDepth 20000 in
set_option maxHeartbeats 1000000 in
theorem w_f_D_climb {p : Program} {l : Launch} {e : Env} {R : Room} {s : State} {m : MethodId} {args : Array Value} {below : List Frame} {meth : Method} {c : Code} {E : hm_E} {n0 s0 F : Nat} {r : Int32} {h h' : hm_T} {x0 : Nat} {x1 : Int32} {x2 : Int32} (C : hm_C E prog_1_method_16_code 4 "DistanceLabels" 4 93 n0 s0 (hm_n h') (hm_s h') p R s m args c) (hr : meth.sig.returnType = (some .int)) (hlk : meth.locks = false) (hf : f_D_climb F x0 x1 x2 h = some (r, h')) : hm_G E 4 n0 s0 (hm_n h') (hm_s h') p l e R s m args below meth c (MQ below (hm_Qc E (some (.int r)) h') args s (hm_n h' - n0) (hm_s h' - s0) (fun q => E.2.2 ≤ q)) 0 [(0, .ref x0), (1, .int x1), (2, .int x2)] [] h := by
  unfold f_D_climb at hf
  refine hm_aload_n C d_D_climb_0 rfl 0 rfl ?_
  refine hm_iload_n C d_D_climb_1 rfl 1 rfl ?_
  refine hm_iload_n C d_D_climb_2 rfl 2 rfl ?_
  obtain ⟨u1, eu1, hf⟩ := hm_bind hf
  obtain ⟨v2, h2, eh2, hf⟩ := hm_and_of hf
  refine hm_callV (vs := [.int x1, .int x2]) (st := []) (sb := [.int v2]) C (c_D_refusalOf eh2) Y_D_refusalOf F_3 eu1 k_102 k_103 k_101 (by decide) (by decide) rfl (Nat.le_of_ble_eq_true rfl) d_D_climb_3 rfl rfl ?_
  refine hm_istore_n (lv' := [(3, .int v2), (0, .ref x0), (1, .int x1), (2, .int x2)]) C d_D_climb_6 rfl (by decide) rfl ?_
  refine hm_iload_n C d_D_climb_7 rfl 0 rfl ?_
  refine hm_if_eq (tgt := 15) C d_D_climb_8 (by decide) (fun z3 => ?_) (fun z3 => ?_)
  · have hf := hm_ifp hf z3
    refine hm_aload_n C d_D_climb_15 rfl 1 rfl ?_
    obtain ⟨a4, ea4, hf⟩ := hm_bind hf
    refine hm_getR C F_3 4 (by decide) rfl k_39 d_D_climb_16 ea4 ?_
    refine hm_aload_n C d_D_climb_19 rfl 1 rfl ?_
    obtain ⟨a5, ea5, hf⟩ := hm_bind hf
    refine hm_getR C F_3 0 (by decide) rfl k_26 d_D_climb_20 ea5 ?_
    refine hm_iload_n C d_D_climb_23 rfl 2 rfl ?_
    refine hm_iload_n C d_D_climb_24 rfl 3 rfl ?_
    obtain ⟨u6, eu6, hf⟩ := hm_bind hf
    obtain ⟨v7, h7, eh7, hf⟩ := hm_and_of hf
    refine hm_callVN (vs := [.ref a5, .int x1, .int x2]) (st := []) (sb := [.int v7]) C (c_K_climbed eh7) Y_K_climbed F_0 eu6 k_123 k_124 kM_24 (by decide) (by decide) rfl (Nat.le_of_ble_eq_true rfl) d_D_climb_25 rfl rfl ?_
    exact hm_iret C hr hlk d_D_climb_28 hf
  · have hf := hm_ifn hf z3
    refine hm_iload_n C d_D_climb_11 rfl 0 rfl ?_
    refine hm_goto (tgt := 28) C d_D_climb_12 (by decide) ?_
    exact hm_iret C hr hlk d_D_climb_28 hf
set_option maxRecDepth 20000 in
theorem c_D_climb {E : hm_E} {l : Launch} {F : Nat} {r : Int32} {h h' : hm_T} {x0 : Nat} {x1 : Int32} {x2 : Int32} (hf : f_D_climb F x0 x1 x2 h = some (r, h')) : hm_M E l y_D_climb prog_1_method_16_code 4 (some .int) 4 93 [.ref x0, .int x1, .int x2] h (some (.int r)) h' :=
  hm_enter (by decide +kernel) (Nat.le_of_ble_eq_true rfl) (m_f_D_climb hf) (fun p e R s m below meth c C hr hlk hin => w_f_D_climb C hr hlk hf)
def f_D_nextOnWay_58 (F : Nat) (k2 : Nat → Int32 → Int32 → Int32 → hm_T → Option (Int32 × hm_T)) (x0 : Nat) (x1 : Int32) (x2 : Int32) (x3 : Int32) (h : hm_T) : Option (Int32 × hm_T) :=
  k2 x0 x1 x2 (x3 + (1 : Int32)) h
def g_D_nextOnWay_2 (F : Nat) (k2 : Nat → Int32 → Int32 → Int32 → hm_T → Option (Int32 × hm_T)) (x0 : Nat) (x1 : Int32) (x2 : Int32) (x3 : Int32) (h : hm_T) : Option (Int32 × hm_T) :=
  (hm_gr 3 9 0 h x0).bind (fun a1 => (hm_gi 2 5 0 h a1).bind (fun v2 => (if v2 ≤ x3 then some (x2, h) else (hm_gr 3 9 0 h x0).bind (fun a4 => (hm_gr 2 5 2 h a4).bind (fun a5 => (hm_ald h a5 x1).bind (fun a6 => (hm_ild h a6 x3).bind (fun v7 => (if v7 = (-1 : Int32) then f_D_nextOnWay_58 F k2 x0 x1 x2 x3 h else (hm_gr 3 9 1 h x0).bind (fun a9 => (hm_ald h a9 x3).bind (fun a10 => (hm_ild h a10 x2).bind (fun v11 => hm_and (f_D_sum F v7 v11 h) (fun v12 h12 => (hm_gr 3 9 1 h12 x0).bind (fun a13 => (hm_ald h12 a13 x1).bind (fun a14 => (hm_ild h12 a14 x2).bind (fun v15 => (if v12 = v15 then some (x3, h12) else f_D_nextOnWay_58 F k2 x0 x1 x2 x3 h12))))))))))))))))
def f_D_nextOnWay_2 (F : Nat) : Nat → Nat → Int32 → Int32 → Int32 → hm_T → Option (Int32 × hm_T)
  | 0 => fun _ _ _ _ _ => none
  | n + 1 => g_D_nextOnWay_2 F (f_D_nextOnWay_2 F n)
def f_D_nextOnWay (F : Nat) (x0 : Nat) (x1 : Int32) (x2 : Int32) (h : hm_T) : Option (Int32 × hm_T) :=
  f_D_nextOnWay_2 F F x0 x1 x2 (0 : Int32) h
theorem m_f_D_nextOnWay_58 {F : Nat} {r : Int32} {h h' : hm_T} {x0 : Nat} {x1 : Int32} {x2 : Int32} {x3 : Int32} {k2 : Nat → Int32 → Int32 → Int32 → hm_T → Option (Int32 × hm_T)} (hk2 : ∀ (y0 : Nat) (y1 : Int32) (y2 : Int32) (y3 : Int32) (g : hm_T), k2 y0 y1 y2 y3 g = some (r, h') → hm_le g h') (hf : f_D_nextOnWay_58 F k2 x0 x1 x2 x3 h = some (r, h')) : hm_le h h' := by
  unfold f_D_nextOnWay_58 at hf
  exact (hk2 _ _ _ _ _ hf)
theorem m_g_D_nextOnWay_2 {F : Nat} {r : Int32} {h h' : hm_T} {x0 : Nat} {x1 : Int32} {x2 : Int32} {x3 : Int32} {k2 : Nat → Int32 → Int32 → Int32 → hm_T → Option (Int32 × hm_T)} (hk2 : ∀ (y0 : Nat) (y1 : Int32) (y2 : Int32) (y3 : Int32) (g : hm_T), k2 y0 y1 y2 y3 g = some (r, h') → hm_le g h') (hf : g_D_nextOnWay_2 F k2 x0 x1 x2 x3 h = some (r, h')) : hm_le h h' := by
  unfold g_D_nextOnWay_2 at hf
  obtain ⟨a1, ea1, hf⟩ := hm_bind hf
  obtain ⟨v2, ev2, hf⟩ := hm_bind hf
  by_cases z3 : v2 ≤ x3
  · have hf := hm_ifp hf z3
    exact (hm_le.ret hf)
  · have hf := hm_ifn hf z3
    obtain ⟨a4, ea4, hf⟩ := hm_bind hf
    obtain ⟨a5, ea5, hf⟩ := hm_bind hf
    obtain ⟨a6, ea6, hf⟩ := hm_bind hf
    obtain ⟨v7, ev7, hf⟩ := hm_bind hf
    by_cases z8 : v7 = (-1 : Int32)
    · have hf := hm_ifp hf z8
      exact (m_f_D_nextOnWay_58 hk2 hf)
    · have hf := hm_ifn hf z8
      obtain ⟨a9, ea9, hf⟩ := hm_bind hf
      obtain ⟨a10, ea10, hf⟩ := hm_bind hf
      obtain ⟨v11, ev11, hf⟩ := hm_bind hf
      obtain ⟨v12, h12, eh12, hf⟩ := hm_and_of hf
      have mh12 := m_f_D_sum eh12
      obtain ⟨a13, ea13, hf⟩ := hm_bind hf
      obtain ⟨a14, ea14, hf⟩ := hm_bind hf
      obtain ⟨v15, ev15, hf⟩ := hm_bind hf
      by_cases z16 : v12 = v15
      · have hf := hm_ifp hf z16
        exact mh12.tr ((hm_le.ret hf))
      · have hf := hm_ifn hf z16
        exact mh12.tr ((m_f_D_nextOnWay_58 hk2 hf))
theorem m_D_nextOnWay_2L {F : Nat} {r : Int32} {h' : hm_T} : ∀ (N : Nat) (x0 : Nat) (x1 : Int32) (x2 : Int32) (x3 : Int32) (h : hm_T), f_D_nextOnWay_2 F N x0 x1 x2 x3 h = some (r, h') → hm_le h h' := by
  intro N
  induction N with
  | zero => intro _ _ _ _ _ hf; cases hf
  | succ n ih => intro x0 x1 x2 x3 h hf; exact m_g_D_nextOnWay_2 ih hf
theorem m_f_D_nextOnWay {F : Nat} {r : Int32} {h h' : hm_T} {x0 : Nat} {x1 : Int32} {x2 : Int32} (hf : f_D_nextOnWay F x0 x1 x2 h = some (r, h')) : hm_le h h' := by
  unfold f_D_nextOnWay at hf
  exact (m_D_nextOnWay_2L _ _ _ _ _ _ hf)
set_option maxRecDepth 20000 in
set_option maxHeartbeats 1000000 in
theorem w_f_D_nextOnWay_58 {p : Program} {l : Launch} {e : Env} {R : Room} {s : State} {m : MethodId} {args : Array Value} {below : List Frame} {meth : Method} {c : Code} {E : hm_E} {n0 s0 F : Nat} {r : Int32} {h h' : hm_T} {x0 : Nat} {x1 : Int32} {x2 : Int32} {x3 : Int32} {k2 : Nat → Int32 → Int32 → Int32 → hm_T → Option (Int32 × hm_T)} (C : hm_C E prog_1_method_29_code 5 "DistanceLabels" 1 21 n0 s0 (hm_n h') (hm_s h') p R s m args c) (hr : meth.sig.returnType = (some .int)) (hlk : meth.locks = false) (hk2 : ∀ (y0 : Nat) (y1 : Int32) (y2 : Int32) (y3 : Int32) (g : hm_T), k2 y0 y1 y2 y3 g = some (r, h') → hm_G E 5 n0 s0 (hm_n h') (hm_s h') p l e R s m args below meth c (MQ below (hm_Qc E (some (.int r)) h') args s (hm_n h' - n0) (hm_s h' - s0) (fun q => E.2.2 ≤ q)) 2 [(0, .ref y0), (1, .int y1), (2, .int y2), (3, .int y3)] [] g) (hf : f_D_nextOnWay_58 F k2 x0 x1 x2 x3 h = some (r, h')) : hm_G E 5 n0 s0 (hm_n h') (hm_s h') p l e R s m args below meth c (MQ below (hm_Qc E (some (.int r)) h') args s (hm_n h' - n0) (hm_s h' - s0) (fun q => E.2.2 ≤ q)) 58 [(0, .ref x0), (1, .int x1), (2, .int x2), (3, .int x3)] [] h := by
  unfold f_D_nextOnWay_58 at hf
  refine hm_iinc (v := (x3 + (1 : Int32))) (lv' := [(3, .int (x3 + (1 : Int32))), (0, .ref x0), (1, .int x1), (2, .int x2)]) C d_D_nextOnWay_58 3 rfl rfl (by decide) rfl ?_
  refine hm_goto (tgt := 2) C d_D_nextOnWay_61 (by decide) ?_
  refine hm_sub (lv' := [(0, .ref x0), (1, .int x1), (2, .int x2), (3, .int (x3 + (1 : Int32)))]) [1, 2, 3, 0] rfl ?_
  exact hk2 _ _ _ _ _ hf
set_option maxRecDepth 20000 in
set_option maxHeartbeats 1000000 in
theorem w_g_D_nextOnWay_2 {p : Program} {l : Launch} {e : Env} {R : Room} {s : State} {m : MethodId} {args : Array Value} {below : List Frame} {meth : Method} {c : Code} {E : hm_E} {n0 s0 F : Nat} {r : Int32} {h h' : hm_T} {x0 : Nat} {x1 : Int32} {x2 : Int32} {x3 : Int32} {k2 : Nat → Int32 → Int32 → Int32 → hm_T → Option (Int32 × hm_T)} (C : hm_C E prog_1_method_29_code 5 "DistanceLabels" 1 21 n0 s0 (hm_n h') (hm_s h') p R s m args c) (hr : meth.sig.returnType = (some .int)) (hlk : meth.locks = false) (hk2 : ∀ (y0 : Nat) (y1 : Int32) (y2 : Int32) (y3 : Int32) (g : hm_T), k2 y0 y1 y2 y3 g = some (r, h') → hm_G E 5 n0 s0 (hm_n h') (hm_s h') p l e R s m args below meth c (MQ below (hm_Qc E (some (.int r)) h') args s (hm_n h' - n0) (hm_s h' - s0) (fun q => E.2.2 ≤ q)) 2 [(0, .ref y0), (1, .int y1), (2, .int y2), (3, .int y3)] [] g) (hf : g_D_nextOnWay_2 F k2 x0 x1 x2 x3 h = some (r, h')) : hm_G E 5 n0 s0 (hm_n h') (hm_s h') p l e R s m args below meth c (MQ below (hm_Qc E (some (.int r)) h') args s (hm_n h' - n0) (hm_s h' - s0) (fun q => E.2.2 ≤ q)) 2 [(0, .ref x0), (1, .int x1), (2, .int x2), (3, .int x3)] [] h := by
  unfold g_D_nextOnWay_2 at hf
  refine hm_iload_n C d_D_nextOnWay_2 rfl 3 rfl ?_
  refine hm_aload_n C d_D_nextOnWay_3 rfl 0 rfl ?_
  obtain ⟨a1, ea1, hf⟩ := hm_bind hf
  refine hm_getR C F_3 0 (by decide) rfl k_26 d_D_nextOnWay_4 ea1 ?_
  obtain ⟨v2, ev2, hf⟩ := hm_bind hf
  refine hm_getIN C F_2 0 (by decide) rfl kF_0 d_D_nextOnWay_7 ev2 ?_
  refine hm_icmp_ge (tgt := 64) C d_D_nextOnWay_10 (by decide) (fun z3 => ?_) (fun z3 => ?_)
  · have hf := hm_ifp hf z3
    refine hm_iload_n C d_D_nextOnWay_64 rfl 2 rfl ?_
    exact hm_iret C hr hlk d_D_nextOnWay_65 hf
  · have hf := hm_ifn hf z3
    refine hm_aload_n C d_D_nextOnWay_13 rfl 0 rfl ?_
    obtain ⟨a4, ea4, hf⟩ := hm_bind hf
    refine hm_getR C F_3 0 (by decide) rfl k_26 d_D_nextOnWay_14 ea4 ?_
    obtain ⟨a5, ea5, hf⟩ := hm_bind hf
    refine hm_getRN C F_2 2 (by decide) rfl kF_2 d_D_nextOnWay_17 ea5 ?_
    refine hm_iload_n C d_D_nextOnWay_20 rfl 1 rfl ?_
    obtain ⟨a6, ea6, hf⟩ := hm_bind hf
    refine hm_aaload C d_D_nextOnWay_21 ea6 ?_
    refine hm_iload_n C d_D_nextOnWay_22 rfl 3 rfl ?_
    obtain ⟨v7, ev7, hf⟩ := hm_bind hf
    refine hm_iaload C d_D_nextOnWay_23 ev7 ?_
    refine hm_istore (lv' := [(4, .int v7), (0, .ref x0), (1, .int x1), (2, .int x2), (3, .int x3)]) C d_D_nextOnWay_24 (by decide) rfl ?_
    refine hm_iload C d_D_nextOnWay_26 0 rfl ?_
    refine hm_iconst (v := (-1 : Int32)) C d_D_nextOnWay_28 (by decide) ?_
    refine hm_icmp_eq (tgt := 58) C d_D_nextOnWay_29 (by decide) (fun z8 => ?_) (fun z8 => ?_)
    · have hf := hm_ifp hf z8
      refine hm_sub (lv' := [(0, .ref x0), (1, .int x1), (2, .int x2), (3, .int x3)]) [1, 2, 3, 4] rfl ?_
      exact w_f_D_nextOnWay_58 C hr hlk hk2 hf
    · have hf := hm_ifn hf z8
      refine hm_iload C d_D_nextOnWay_32 0 rfl ?_
      refine hm_aload_n C d_D_nextOnWay_34 rfl 1 rfl ?_
      obtain ⟨a9, ea9, hf⟩ := hm_bind hf
      refine hm_getR C F_3 1 (by decide) rfl k_28 d_D_nextOnWay_35 ea9 ?_
      refine hm_iload_n C d_D_nextOnWay_38 rfl 4 rfl ?_
      obtain ⟨a10, ea10, hf⟩ := hm_bind hf
      refine hm_aaload C d_D_nextOnWay_39 ea10 ?_
      refine hm_iload_n C d_D_nextOnWay_40 rfl 3 rfl ?_
      obtain ⟨v11, ev11, hf⟩ := hm_bind hf
      refine hm_iaload C d_D_nextOnWay_41 ev11 ?_
      obtain ⟨v12, h12, eh12, hf⟩ := hm_and_of hf
      refine hm_callS (vs := [.int v7, .int v11]) (st := []) (sb := [.int v12]) C (c_D_sum eh12) Y_D_sum k_69 k_68 (by decide) (by decide) rfl (Nat.le_of_ble_eq_true rfl) d_D_nextOnWay_42 rfl rfl ?_
      refine hm_aload_n C d_D_nextOnWay_45 rfl 1 rfl ?_
      obtain ⟨a13, ea13, hf⟩ := hm_bind hf
      refine hm_getR C F_3 1 (by decide) rfl k_28 d_D_nextOnWay_46 ea13 ?_
      refine hm_iload_n C d_D_nextOnWay_49 rfl 2 rfl ?_
      obtain ⟨a14, ea14, hf⟩ := hm_bind hf
      refine hm_aaload C d_D_nextOnWay_50 ea14 ?_
      refine hm_iload_n C d_D_nextOnWay_51 rfl 3 rfl ?_
      obtain ⟨v15, ev15, hf⟩ := hm_bind hf
      refine hm_iaload C d_D_nextOnWay_52 ev15 ?_
      refine hm_icmp_ne (tgt := 58) C d_D_nextOnWay_53 (by decide) (fun z16 => ?_) (fun z16 => ?_)
      · have hf := hm_ifn hf z16
        refine hm_sub (lv' := [(0, .ref x0), (1, .int x1), (2, .int x2), (3, .int x3)]) [1, 2, 3, 4] rfl ?_
        exact w_f_D_nextOnWay_58 C hr hlk hk2 hf
      · have hf := hm_ifp hf z16
        refine hm_iload_n C d_D_nextOnWay_56 rfl 4 rfl ?_
        exact hm_iret C hr hlk d_D_nextOnWay_57 hf
theorem w_D_nextOnWay_2L {p : Program} {l : Launch} {e : Env} {R : Room} {s : State} {m : MethodId} {args : Array Value} {below : List Frame} {meth : Method} {c : Code} {E : hm_E} {n0 s0 F : Nat} {r : Int32} {h' : hm_T} (C : hm_C E prog_1_method_29_code 5 "DistanceLabels" 1 21 n0 s0 (hm_n h') (hm_s h') p R s m args c) (hr : meth.sig.returnType = (some .int)) (hlk : meth.locks = false) : ∀ (N : Nat) (x0 : Nat) (x1 : Int32) (x2 : Int32) (x3 : Int32) (h : hm_T), f_D_nextOnWay_2 F N x0 x1 x2 x3 h = some (r, h') → hm_G E 5 n0 s0 (hm_n h') (hm_s h') p l e R s m args below meth c (MQ below (hm_Qc E (some (.int r)) h') args s (hm_n h' - n0) (hm_s h' - s0) (fun q => E.2.2 ≤ q)) 2 [(0, .ref x0), (1, .int x1), (2, .int x2), (3, .int x3)] [] h := by
  intro N
  induction N with
  | zero => intro _ _ _ _ _ hf; cases hf
  | succ n ih => intro x0 x1 x2 x3 h hf; exact w_g_D_nextOnWay_2 C hr hlk ih hf
set_option maxRecDepth 20000 in
set_option maxHeartbeats 1000000 in
theorem w_f_D_nextOnWay {p : Program} {l : Launch} {e : Env} {R : Room} {s : State} {m : MethodId} {args : Array Value} {below : List Frame} {meth : Method} {c : Code} {E : hm_E} {n0 s0 F : Nat} {r : Int32} {h h' : hm_T} {x0 : Nat} {x1 : Int32} {x2 : Int32} (C : hm_C E prog_1_method_29_code 5 "DistanceLabels" 1 21 n0 s0 (hm_n h') (hm_s h') p R s m args c) (hr : meth.sig.returnType = (some .int)) (hlk : meth.locks = false) (hf : f_D_nextOnWay F x0 x1 x2 h = some (r, h')) : hm_G E 5 n0 s0 (hm_n h') (hm_s h') p l e R s m args below meth c (MQ below (hm_Qc E (some (.int r)) h') args s (hm_n h' - n0) (hm_s h' - s0) (fun q => E.2.2 ≤ q)) 0 [(0, .ref x0), (1, .int x1), (2, .int x2)] [] h := by
  unfold f_D_nextOnWay at hf
  refine hm_iconst (v := (0 : Int32)) C d_D_nextOnWay_0 (by decide) ?_
  refine hm_istore_n (lv' := [(3, .int (0 : Int32)), (0, .ref x0), (1, .int x1), (2, .int x2)]) C d_D_nextOnWay_1 rfl (by decide) rfl ?_
  refine hm_sub (lv' := [(0, .ref x0), (1, .int x1), (2, .int x2), (3, .int (0 : Int32))]) [1, 2, 3, 0] rfl ?_
  exact w_D_nextOnWay_2L C hr hlk _ _ _ _ _ _ hf
set_option maxRecDepth 20000 in
theorem c_D_nextOnWay {E : hm_E} {l : Launch} {F : Nat} {r : Int32} {h h' : hm_T} {x0 : Nat} {x1 : Int32} {x2 : Int32} (hf : f_D_nextOnWay F x0 x1 x2 h = some (r, h')) : hm_M E l y_D_nextOnWay prog_1_method_29_code 5 (some .int) 1 21 [.ref x0, .int x1, .int x2] h (some (.int r)) h' :=
  hm_enter (by decide +kernel) (Nat.le_of_ble_eq_true rfl) (m_f_D_nextOnWay hf) (fun p e R s m below meth c C hr hlk hin => w_f_D_nextOnWay C hr hlk hf)
def f_D_way_66 (F : Nat) (x3 : Int32) (x6 : Int32) (h : hm_T) : Option (Int32 × hm_T) :=
  (if x3 = (-1 : Int32) then some ((x6 + (1 : Int32)), h) else some ((-2 : Int32), h))
def g_D_way_44 (F : Nat) (k44 : Nat → Int32 → Int32 → Int32 → Int32 → hm_T → Option (Int32 × hm_T)) (x0 : Nat) (x2 : Int32) (x3 : Int32) (x5 : Int32) (x6 : Int32) (h : hm_T) : Option (Int32 × hm_T) :=
  (if (16 : Int32) ≤ x6 then some ((-2 : Int32), h) else (if x6 = x3 then some (x5, h) else (if x5 = x2 then f_D_way_66 F x3 x6 h else (hm_is 3 9 h x0).bind (fun u4 => hm_and (f_D_nextOnWay F x0 x5 x2 h) (fun v5 h5 => k44 x0 x2 x3 v5 (x6 + (1 : Int32)) h5)))))
def f_D_way_44 (F : Nat) : Nat → Nat → Int32 → Int32 → Int32 → Int32 → hm_T → Option (Int32 × hm_T)
  | 0 => fun _ _ _ _ _ _ => none
  | n + 1 => g_D_way_44 F (f_D_way_44 F n)
def f_D_way (F : Nat) (x0 : Nat) (x1 : Int32) (x2 : Int32) (x3 : Int32) (h : hm_T) : Option (Int32 × hm_T) :=
  (hm_is 3 9 h x0).bind (fun u1 => hm_and (f_D_refusalOf F x0 x1 x2 h) (fun v2 h2 => (if v2 = 0 then (hm_gr 3 9 1 h2 x0).bind (fun a4 => (hm_ald h2 a4 x1).bind (fun a5 => (hm_ild h2 a5 x2).bind (fun v6 => (if v6 = (-1 : Int32) then some ((-1 : Int32), h2) else (if (-1 : Int32) ≤ x3 then f_D_way_44 F F x0 x2 x3 x1 (0 : Int32) h2 else some ((-2 : Int32), h2)))))) else some (v2, h2))))
theorem m_f_D_way_66 {F : Nat} {r : Int32} {h h' : hm_T} {x3 : Int32} {x6 : Int32} (hf : f_D_way_66 F x3 x6 h = some (r, h')) : hm_le h h' := by
  unfold f_D_way_66 at hf
  by_cases z1 : x3 = (-1 : Int32)
  · have hf := hm_ifp hf z1
    exact (hm_le.ret hf)
  · have hf := hm_ifn hf z1
    exact (hm_le.ret hf)
theorem m_g_D_way_44 {F : Nat} {r : Int32} {h h' : hm_T} {x0 : Nat} {x2 : Int32} {x3 : Int32} {x5 : Int32} {x6 : Int32} {k44 : Nat → Int32 → Int32 → Int32 → Int32 → hm_T → Option (Int32 × hm_T)} (hk44 : ∀ (y0 : Nat) (y2 : Int32) (y3 : Int32) (y5 : Int32) (y6 : Int32) (g : hm_T), k44 y0 y2 y3 y5 y6 g = some (r, h') → hm_le g h') (hf : g_D_way_44 F k44 x0 x2 x3 x5 x6 h = some (r, h')) : hm_le h h' := by
  unfold g_D_way_44 at hf
  by_cases z1 : (16 : Int32) ≤ x6
  · have hf := hm_ifp hf z1
    exact (hm_le.ret hf)
  · have hf := hm_ifn hf z1
    by_cases z2 : x6 = x3
    · have hf := hm_ifp hf z2
      exact (hm_le.ret hf)
    · have hf := hm_ifn hf z2
      by_cases z3 : x5 = x2
      · have hf := hm_ifp hf z3
        exact (m_f_D_way_66 hf)
      · have hf := hm_ifn hf z3
        obtain ⟨u4, eu4, hf⟩ := hm_bind hf
        obtain ⟨v5, h5, eh5, hf⟩ := hm_and_of hf
        have mh5 := m_f_D_nextOnWay eh5
        exact mh5.tr ((hk44 _ _ _ _ _ _ hf))
theorem m_D_way_44L {F : Nat} {r : Int32} {h' : hm_T} : ∀ (N : Nat) (x0 : Nat) (x2 : Int32) (x3 : Int32) (x5 : Int32) (x6 : Int32) (h : hm_T), f_D_way_44 F N x0 x2 x3 x5 x6 h = some (r, h') → hm_le h h' := by
  intro N
  induction N with
  | zero => intro _ _ _ _ _ _ hf; cases hf
  | succ n ih => intro x0 x2 x3 x5 x6 h hf; exact m_g_D_way_44 ih hf
theorem m_f_D_way {F : Nat} {r : Int32} {h h' : hm_T} {x0 : Nat} {x1 : Int32} {x2 : Int32} {x3 : Int32} (hf : f_D_way F x0 x1 x2 x3 h = some (r, h')) : hm_le h h' := by
  unfold f_D_way at hf
  obtain ⟨u1, eu1, hf⟩ := hm_bind hf
  obtain ⟨v2, h2, eh2, hf⟩ := hm_and_of hf
  have mh2 := m_f_D_refusalOf eh2
  by_cases z3 : v2 = 0
  · have hf := hm_ifp hf z3
    obtain ⟨a4, ea4, hf⟩ := hm_bind hf
    obtain ⟨a5, ea5, hf⟩ := hm_bind hf
    obtain ⟨v6, ev6, hf⟩ := hm_bind hf
    by_cases z7 : v6 = (-1 : Int32)
    · have hf := hm_ifp hf z7
      exact mh2.tr ((hm_le.ret hf))
    · have hf := hm_ifn hf z7
      by_cases z8 : (-1 : Int32) ≤ x3
      · have hf := hm_ifp hf z8
        exact mh2.tr ((m_D_way_44L _ _ _ _ _ _ _ hf))
      · have hf := hm_ifn hf z8
        exact mh2.tr ((hm_le.ret hf))
  · have hf := hm_ifn hf z3
    exact mh2.tr ((hm_le.ret hf))
set_option maxRecDepth 20000 in
set_option maxHeartbeats 1000000 in
theorem w_f_D_way_66 {p : Program} {l : Launch} {e : Env} {R : Room} {s : State} {m : MethodId} {args : Array Value} {below : List Frame} {meth : Method} {c : Code} {E : hm_E} {n0 s0 F : Nat} {r : Int32} {h h' : hm_T} {x3 : Int32} {x6 : Int32} (C : hm_C E prog_1_method_17_code 7 "DistanceLabels" 2 45 n0 s0 (hm_n h') (hm_s h') p R s m args c) (hr : meth.sig.returnType = (some .int)) (hlk : meth.locks = false) (hf : f_D_way_66 F x3 x6 h = some (r, h')) : hm_G E 7 n0 s0 (hm_n h') (hm_s h') p l e R s m args below meth c (MQ below (hm_Qc E (some (.int r)) h') args s (hm_n h' - n0) (hm_s h' - s0) (fun q => E.2.2 ≤ q)) 66 [(3, .int x3), (6, .int x6)] [] h := by
  unfold f_D_way_66 at hf
  refine hm_iload_n C d_D_way_66 rfl 0 rfl ?_
  refine hm_iconst (v := (-1 : Int32)) C d_D_way_67 (by decide) ?_
  refine hm_icmp_ne (tgt := 78) C d_D_way_68 (by decide) (fun z1 => ?_) (fun z1 => ?_)
  · have hf := hm_ifn hf z1
    refine hm_bipush (v := (-2 : Int32)) C d_D_way_78 (by decide) ?_
    exact hm_iret C hr hlk d_D_way_80 hf
  · have hf := hm_ifp hf z1
    refine hm_iload C d_D_way_71 1 rfl ?_
    refine hm_iconst (v := (1 : Int32)) C d_D_way_73 (by decide) ?_
    refine hm_iadd C d_D_way_74 ?_
    refine hm_goto (tgt := 80) C d_D_way_75 (by decide) ?_
    exact hm_iret C hr hlk d_D_way_80 hf
set_option maxRecDepth 20000 in
set_option maxHeartbeats 1000000 in
theorem w_g_D_way_44 {p : Program} {l : Launch} {e : Env} {R : Room} {s : State} {m : MethodId} {args : Array Value} {below : List Frame} {meth : Method} {c : Code} {E : hm_E} {n0 s0 F : Nat} {r : Int32} {h h' : hm_T} {x0 : Nat} {x2 : Int32} {x3 : Int32} {x5 : Int32} {x6 : Int32} {k44 : Nat → Int32 → Int32 → Int32 → Int32 → hm_T → Option (Int32 × hm_T)} (C : hm_C E prog_1_method_17_code 7 "DistanceLabels" 2 45 n0 s0 (hm_n h') (hm_s h') p R s m args c) (hr : meth.sig.returnType = (some .int)) (hlk : meth.locks = false) (hk44 : ∀ (y0 : Nat) (y2 : Int32) (y3 : Int32) (y5 : Int32) (y6 : Int32) (g : hm_T), k44 y0 y2 y3 y5 y6 g = some (r, h') → hm_G E 7 n0 s0 (hm_n h') (hm_s h') p l e R s m args below meth c (MQ below (hm_Qc E (some (.int r)) h') args s (hm_n h' - n0) (hm_s h' - s0) (fun q => E.2.2 ≤ q)) 44 [(0, .ref y0), (2, .int y2), (3, .int y3), (5, .int y5), (6, .int y6)] [] g) (hf : g_D_way_44 F k44 x0 x2 x3 x5 x6 h = some (r, h')) : hm_G E 7 n0 s0 (hm_n h') (hm_s h') p l e R s m args below meth c (MQ below (hm_Qc E (some (.int r)) h') args s (hm_n h' - n0) (hm_s h' - s0) (fun q => E.2.2 ≤ q)) 44 [(0, .ref x0), (2, .int x2), (3, .int x3), (5, .int x5), (6, .int x6)] [] h := by
  unfold g_D_way_44 at hf
  refine hm_iload C d_D_way_44 4 rfl ?_
  refine hm_bipush (v := (16 : Int32)) C d_D_way_46 (by decide) ?_
  refine hm_icmp_ge (tgt := 96) C d_D_way_48 (by decide) (fun z1 => ?_) (fun z1 => ?_)
  · have hf := hm_ifp hf z1
    refine hm_bipush (v := (-2 : Int32)) C d_D_way_96 (by decide) ?_
    exact hm_iret C hr hlk d_D_way_98 hf
  · have hf := hm_ifn hf z1
    refine hm_iload C d_D_way_51 4 rfl ?_
    refine hm_iload_n C d_D_way_53 rfl 2 rfl ?_
    refine hm_icmp_ne (tgt := 60) C d_D_way_54 (by decide) (fun z2 => ?_) (fun z2 => ?_)
    · have hf := hm_ifn hf z2
      refine hm_iload C d_D_way_60 3 rfl ?_
      refine hm_iload_n C d_D_way_62 rfl 1 rfl ?_
      refine hm_icmp_ne (tgt := 81) C d_D_way_63 (by decide) (fun z3 => ?_) (fun z3 => ?_)
      · have hf := hm_ifn hf z3
        refine hm_aload_n C d_D_way_81 rfl 0 rfl ?_
        refine hm_iload C d_D_way_82 3 rfl ?_
        refine hm_iload_n C d_D_way_84 rfl 1 rfl ?_
        obtain ⟨u4, eu4, hf⟩ := hm_bind hf
        obtain ⟨v5, h5, eh5, hf⟩ := hm_and_of hf
        refine hm_callV (vs := [.int x5, .int x2]) (st := []) (sb := [.int v5]) C (c_D_nextOnWay eh5) Y_D_nextOnWay F_3 eu4 k_126 k_127 k_125 (by decide) (by decide) rfl (Nat.le_of_ble_eq_true rfl) d_D_way_85 rfl rfl ?_
        refine hm_istore (lv' := [(5, .int v5), (0, .ref x0), (2, .int x2), (3, .int x3), (6, .int x6)]) C d_D_way_88 (by decide) rfl ?_
        refine hm_iinc (v := (x6 + (1 : Int32))) (lv' := [(6, .int (x6 + (1 : Int32))), (5, .int v5), (0, .ref x0), (2, .int x2), (3, .int x3)]) C d_D_way_90 4 rfl rfl (by decide) rfl ?_
        refine hm_goto (tgt := 44) C d_D_way_93 (by decide) ?_
        refine hm_sub (lv' := [(0, .ref x0), (2, .int x2), (3, .int x3), (5, .int v5), (6, .int (x6 + (1 : Int32)))]) [2, 3, 4, 1, 0] rfl ?_
        exact hk44 _ _ _ _ _ _ hf
      · have hf := hm_ifp hf z3
        refine hm_sub (lv' := [(3, .int x3), (6, .int x6)]) [2, 4] rfl ?_
        exact w_f_D_way_66 C hr hlk hf
    · have hf := hm_ifp hf z2
      refine hm_iload C d_D_way_57 3 rfl ?_
      exact hm_iret C hr hlk d_D_way_59 hf
theorem w_D_way_44L {p : Program} {l : Launch} {e : Env} {R : Room} {s : State} {m : MethodId} {args : Array Value} {below : List Frame} {meth : Method} {c : Code} {E : hm_E} {n0 s0 F : Nat} {r : Int32} {h' : hm_T} (C : hm_C E prog_1_method_17_code 7 "DistanceLabels" 2 45 n0 s0 (hm_n h') (hm_s h') p R s m args c) (hr : meth.sig.returnType = (some .int)) (hlk : meth.locks = false) : ∀ (N : Nat) (x0 : Nat) (x2 : Int32) (x3 : Int32) (x5 : Int32) (x6 : Int32) (h : hm_T), f_D_way_44 F N x0 x2 x3 x5 x6 h = some (r, h') → hm_G E 7 n0 s0 (hm_n h') (hm_s h') p l e R s m args below meth c (MQ below (hm_Qc E (some (.int r)) h') args s (hm_n h' - n0) (hm_s h' - s0) (fun q => E.2.2 ≤ q)) 44 [(0, .ref x0), (2, .int x2), (3, .int x3), (5, .int x5), (6, .int x6)] [] h := by
  intro N
  induction N with
  | zero => intro _ _ _ _ _ _ hf; cases hf
  | succ n ih => intro x0 x2 x3 x5 x6 h hf; exact w_g_D_way_44 C hr hlk ih hf
set_option maxRecDepth 20000 in
set_option maxHeartbeats 1000000 in
theorem w_f_D_way {p : Program} {l : Launch} {e : Env} {R : Room} {s : State} {m : MethodId} {args : Array Value} {below : List Frame} {meth : Method} {c : Code} {E : hm_E} {n0 s0 F : Nat} {r : Int32} {h h' : hm_T} {x0 : Nat} {x1 : Int32} {x2 : Int32} {x3 : Int32} (C : hm_C E prog_1_method_17_code 7 "DistanceLabels" 2 45 n0 s0 (hm_n h') (hm_s h') p R s m args c) (hr : meth.sig.returnType = (some .int)) (hlk : meth.locks = false) (hf : f_D_way F x0 x1 x2 x3 h = some (r, h')) : hm_G E 7 n0 s0 (hm_n h') (hm_s h') p l e R s m args below meth c (MQ below (hm_Qc E (some (.int r)) h') args s (hm_n h' - n0) (hm_s h' - s0) (fun q => E.2.2 ≤ q)) 0 [(0, .ref x0), (1, .int x1), (2, .int x2), (3, .int x3)] [] h := by
  unfold f_D_way at hf
  refine hm_aload_n C d_D_way_0 rfl 0 rfl ?_
  refine hm_iload_n C d_D_way_1 rfl 1 rfl ?_
  refine hm_iload_n C d_D_way_2 rfl 2 rfl ?_
  obtain ⟨u1, eu1, hf⟩ := hm_bind hf
  obtain ⟨v2, h2, eh2, hf⟩ := hm_and_of hf
  refine hm_callV (vs := [.int x1, .int x2]) (st := []) (sb := [.int v2]) C (c_D_refusalOf eh2) Y_D_refusalOf F_3 eu1 k_102 k_103 k_101 (by decide) (by decide) rfl (Nat.le_of_ble_eq_true rfl) d_D_way_3 rfl rfl ?_
  refine hm_istore (lv' := [(4, .int v2), (0, .ref x0), (1, .int x1), (2, .int x2), (3, .int x3)]) C d_D_way_6 (by decide) rfl ?_
  refine hm_iload C d_D_way_8 0 rfl ?_
  refine hm_if_eq (tgt := 16) C d_D_way_10 (by decide) (fun z3 => ?_) (fun z3 => ?_)
  · have hf := hm_ifp hf z3
    refine hm_aload_n C d_D_way_16 rfl 1 rfl ?_
    obtain ⟨a4, ea4, hf⟩ := hm_bind hf
    refine hm_getR C F_3 1 (by decide) rfl k_28 d_D_way_17 ea4 ?_
    refine hm_iload_n C d_D_way_20 rfl 2 rfl ?_
    obtain ⟨a5, ea5, hf⟩ := hm_bind hf
    refine hm_aaload C d_D_way_21 ea5 ?_
    refine hm_iload_n C d_D_way_22 rfl 3 rfl ?_
    obtain ⟨v6, ev6, hf⟩ := hm_bind hf
    refine hm_iaload C d_D_way_23 ev6 ?_
    refine hm_iconst (v := (-1 : Int32)) C d_D_way_24 (by decide) ?_
    refine hm_icmp_ne (tgt := 30) C d_D_way_25 (by decide) (fun z7 => ?_) (fun z7 => ?_)
    · have hf := hm_ifn hf z7
      refine hm_iload_n C d_D_way_30 rfl 4 rfl ?_
      refine hm_iconst (v := (-1 : Int32)) C d_D_way_31 (by decide) ?_
      refine hm_icmp_ge (tgt := 38) C d_D_way_32 (by decide) (fun z8 => ?_) (fun z8 => ?_)
      · have hf := hm_ifp hf z8
        refine hm_iload_n C d_D_way_38 rfl 2 rfl ?_
        refine hm_istore (lv' := [(5, .int x1), (4, .int v2), (0, .ref x0), (1, .int x1), (2, .int x2), (3, .int x3)]) C d_D_way_39 (by decide) rfl ?_
        refine hm_iconst (v := (0 : Int32)) C d_D_way_41 (by decide) ?_
        refine hm_istore (lv' := [(6, .int (0 : Int32)), (5, .int x1), (4, .int v2), (0, .ref x0), (1, .int x1), (2, .int x2), (3, .int x3)]) C d_D_way_42 (by decide) rfl ?_
        refine hm_sub (lv' := [(0, .ref x0), (2, .int x2), (3, .int x3), (5, .int x1), (6, .int (0 : Int32))]) [3, 5, 6, 1, 0] rfl ?_
        exact w_D_way_44L C hr hlk _ _ _ _ _ _ _ hf
      · have hf := hm_ifn hf z8
        refine hm_bipush (v := (-2 : Int32)) C d_D_way_35 (by decide) ?_
        exact hm_iret C hr hlk d_D_way_37 hf
    · have hf := hm_ifp hf z7
      refine hm_iconst (v := (-1 : Int32)) C d_D_way_28 (by decide) ?_
      exact hm_iret C hr hlk d_D_way_29 hf
  · have hf := hm_ifn hf z3
    refine hm_iload C d_D_way_13 0 rfl ?_
    exact hm_iret C hr hlk d_D_way_15 hf
set_option maxRecDepth 20000 in
theorem c_D_way {E : hm_E} {l : Launch} {F : Nat} {r : Int32} {h h' : hm_T} {x0 : Nat} {x1 : Int32} {x2 : Int32} {x3 : Int32} (hf : f_D_way F x0 x1 x2 x3 h = some (r, h')) : hm_M E l y_D_way prog_1_method_17_code 7 (some .int) 2 45 [.ref x0, .int x1, .int x2, .int x3] h (some (.int r)) h' :=
  hm_enter (by decide +kernel) (Nat.le_of_ble_eq_true rfl) (m_f_D_way hf) (fun p e R s m below meth c C hr hlk hin => w_f_D_way C hr hlk hf)
def f_D_isSureBy_48 (F : Nat) (h : hm_T) : Option (Int32 × hm_T) :=
  (hm_zr (1 : Int32)).bind (fun v1 => some (v1, h))
def f_D_isSureBy_24 (F : Nat) (x0 : Nat) (x1 : Int32) (x2 : Int32) (x3 : Int32) (h : hm_T) : Option (Int32 × hm_T) :=
  (hm_gr 3 9 1 h x0).bind (fun a1 => (hm_ald h a1 x3).bind (fun a2 => (hm_ild h a2 x1).bind (fun v3 => (if v3 = (-1 : Int32) then (hm_zr (0 : Int32)).bind (fun v5 => some (v5, h)) else (hm_gr 3 9 1 h x0).bind (fun a6 => (hm_ald h a6 x2).bind (fun a7 => (hm_ild h a7 x1).bind (fun v8 => (if v8 = (-1 : Int32) then f_D_isSureBy_48 F h else (hm_zr (0 : Int32)).bind (fun v10 => some (v10, h))))))))))
def f_D_isSureBy (F : Nat) (x0 : Nat) (x1 : Int32) (x2 : Int32) (x3 : Int32) (h : hm_T) : Option (Int32 × hm_T) :=
  (hm_gr 3 9 1 h x0).bind (fun a1 => (hm_ald h a1 x1).bind (fun a2 => (hm_ild h a2 x2).bind (fun v3 => (if v3 = (-1 : Int32) then f_D_isSureBy_24 F x0 x1 x2 x3 h else (hm_gr 3 9 1 h x0).bind (fun a5 => (hm_ald h a5 x1).bind (fun a6 => (hm_ild h a6 x3).bind (fun v7 => (if v7 = (-1 : Int32) then f_D_isSureBy_48 F h else f_D_isSureBy_24 F x0 x1 x2 x3 h))))))))
theorem m_f_D_isSureBy_48 {F : Nat} {r : Int32} {h h' : hm_T} (hf : f_D_isSureBy_48 F h = some (r, h')) : hm_le h h' := by
  unfold f_D_isSureBy_48 at hf
  obtain ⟨v1, ev1, hf⟩ := hm_bind hf
  exact (hm_le.ret hf)
theorem m_f_D_isSureBy_24 {F : Nat} {r : Int32} {h h' : hm_T} {x0 : Nat} {x1 : Int32} {x2 : Int32} {x3 : Int32} (hf : f_D_isSureBy_24 F x0 x1 x2 x3 h = some (r, h')) : hm_le h h' := by
  unfold f_D_isSureBy_24 at hf
  obtain ⟨a1, ea1, hf⟩ := hm_bind hf
  obtain ⟨a2, ea2, hf⟩ := hm_bind hf
  obtain ⟨v3, ev3, hf⟩ := hm_bind hf
  by_cases z4 : v3 = (-1 : Int32)
  · have hf := hm_ifp hf z4
    obtain ⟨v5, ev5, hf⟩ := hm_bind hf
    exact (hm_le.ret hf)
  · have hf := hm_ifn hf z4
    obtain ⟨a6, ea6, hf⟩ := hm_bind hf
    obtain ⟨a7, ea7, hf⟩ := hm_bind hf
    obtain ⟨v8, ev8, hf⟩ := hm_bind hf
    by_cases z9 : v8 = (-1 : Int32)
    · have hf := hm_ifp hf z9
      exact (m_f_D_isSureBy_48 hf)
    · have hf := hm_ifn hf z9
      obtain ⟨v10, ev10, hf⟩ := hm_bind hf
      exact (hm_le.ret hf)
theorem m_f_D_isSureBy {F : Nat} {r : Int32} {h h' : hm_T} {x0 : Nat} {x1 : Int32} {x2 : Int32} {x3 : Int32} (hf : f_D_isSureBy F x0 x1 x2 x3 h = some (r, h')) : hm_le h h' := by
  unfold f_D_isSureBy at hf
  obtain ⟨a1, ea1, hf⟩ := hm_bind hf
  obtain ⟨a2, ea2, hf⟩ := hm_bind hf
  obtain ⟨v3, ev3, hf⟩ := hm_bind hf
  by_cases z4 : v3 = (-1 : Int32)
  · have hf := hm_ifp hf z4
    exact (m_f_D_isSureBy_24 hf)
  · have hf := hm_ifn hf z4
    obtain ⟨a5, ea5, hf⟩ := hm_bind hf
    obtain ⟨a6, ea6, hf⟩ := hm_bind hf
    obtain ⟨v7, ev7, hf⟩ := hm_bind hf
    by_cases z8 : v7 = (-1 : Int32)
    · have hf := hm_ifp hf z8
      exact (m_f_D_isSureBy_48 hf)
    · have hf := hm_ifn hf z8
      exact (m_f_D_isSureBy_24 hf)
set_option maxRecDepth 20000 in
set_option maxHeartbeats 1000000 in
theorem w_f_D_isSureBy_48 {p : Program} {l : Launch} {e : Env} {R : Room} {s : State} {m : MethodId} {args : Array Value} {below : List Frame} {meth : Method} {c : Code} {E : hm_E} {n0 s0 F : Nat} {r : Int32} {h h' : hm_T} (C : hm_C E prog_1_method_30_code 4 "DistanceLabels" 0 0 n0 s0 (hm_n h') (hm_s h') p R s m args c) (hr : meth.sig.returnType = (some .boolean)) (hlk : meth.locks = false) (hf : f_D_isSureBy_48 F h = some (r, h')) : hm_G E 4 n0 s0 (hm_n h') (hm_s h') p l e R s m args below meth c (MQ below (hm_Qc E (some (.int r)) h') args s (hm_n h' - n0) (hm_s h' - s0) (fun q => E.2.2 ≤ q)) 48 [] [] h := by
  unfold f_D_isSureBy_48 at hf
  refine hm_iconst (v := (1 : Int32)) C d_D_isSureBy_48 (by decide) ?_
  refine hm_goto (tgt := 53) C d_D_isSureBy_49 (by decide) ?_
  obtain ⟨v1, ev1, hf⟩ := hm_bind hf
  exact hm_zret C hr hlk d_D_isSureBy_53 ev1 hf
set_option maxRecDepth 20000 in
set_option maxHeartbeats 1000000 in
theorem w_f_D_isSureBy_24 {p : Program} {l : Launch} {e : Env} {R : Room} {s : State} {m : MethodId} {args : Array Value} {below : List Frame} {meth : Method} {c : Code} {E : hm_E} {n0 s0 F : Nat} {r : Int32} {h h' : hm_T} {x0 : Nat} {x1 : Int32} {x2 : Int32} {x3 : Int32} (C : hm_C E prog_1_method_30_code 4 "DistanceLabels" 0 0 n0 s0 (hm_n h') (hm_s h') p R s m args c) (hr : meth.sig.returnType = (some .boolean)) (hlk : meth.locks = false) (hf : f_D_isSureBy_24 F x0 x1 x2 x3 h = some (r, h')) : hm_G E 4 n0 s0 (hm_n h') (hm_s h') p l e R s m args below meth c (MQ below (hm_Qc E (some (.int r)) h') args s (hm_n h' - n0) (hm_s h' - s0) (fun q => E.2.2 ≤ q)) 24 [(0, .ref x0), (1, .int x1), (2, .int x2), (3, .int x3)] [] h := by
  unfold f_D_isSureBy_24 at hf
  refine hm_aload_n C d_D_isSureBy_24 rfl 0 rfl ?_
  obtain ⟨a1, ea1, hf⟩ := hm_bind hf
  refine hm_getR C F_3 1 (by decide) rfl k_28 d_D_isSureBy_25 ea1 ?_
  refine hm_iload_n C d_D_isSureBy_28 rfl 3 rfl ?_
  obtain ⟨a2, ea2, hf⟩ := hm_bind hf
  refine hm_aaload C d_D_isSureBy_29 ea2 ?_
  refine hm_iload_n C d_D_isSureBy_30 rfl 1 rfl ?_
  obtain ⟨v3, ev3, hf⟩ := hm_bind hf
  refine hm_iaload C d_D_isSureBy_31 ev3 ?_
  refine hm_iconst (v := (-1 : Int32)) C d_D_isSureBy_32 (by decide) ?_
  refine hm_icmp_eq (tgt := 52) C d_D_isSureBy_33 (by decide) (fun z4 => ?_) (fun z4 => ?_)
  · have hf := hm_ifp hf z4
    refine hm_iconst (v := (0 : Int32)) C d_D_isSureBy_52 (by decide) ?_
    obtain ⟨v5, ev5, hf⟩ := hm_bind hf
    exact hm_zret C hr hlk d_D_isSureBy_53 ev5 hf
  · have hf := hm_ifn hf z4
    refine hm_aload_n C d_D_isSureBy_36 rfl 0 rfl ?_
    obtain ⟨a6, ea6, hf⟩ := hm_bind hf
    refine hm_getR C F_3 1 (by decide) rfl k_28 d_D_isSureBy_37 ea6 ?_
    refine hm_iload_n C d_D_isSureBy_40 rfl 2 rfl ?_
    obtain ⟨a7, ea7, hf⟩ := hm_bind hf
    refine hm_aaload C d_D_isSureBy_41 ea7 ?_
    refine hm_iload_n C d_D_isSureBy_42 rfl 1 rfl ?_
    obtain ⟨v8, ev8, hf⟩ := hm_bind hf
    refine hm_iaload C d_D_isSureBy_43 ev8 ?_
    refine hm_iconst (v := (-1 : Int32)) C d_D_isSureBy_44 (by decide) ?_
    refine hm_icmp_ne (tgt := 52) C d_D_isSureBy_45 (by decide) (fun z9 => ?_) (fun z9 => ?_)
    · have hf := hm_ifn hf z9
      refine hm_iconst (v := (0 : Int32)) C d_D_isSureBy_52 (by decide) ?_
      obtain ⟨v10, ev10, hf⟩ := hm_bind hf
      exact hm_zret C hr hlk d_D_isSureBy_53 ev10 hf
    · have hf := hm_ifp hf z9
      refine hm_sub (lv' := []) [] rfl ?_
      exact w_f_D_isSureBy_48 C hr hlk hf
set_option maxRecDepth 20000 in
set_option maxHeartbeats 1000000 in
theorem w_f_D_isSureBy {p : Program} {l : Launch} {e : Env} {R : Room} {s : State} {m : MethodId} {args : Array Value} {below : List Frame} {meth : Method} {c : Code} {E : hm_E} {n0 s0 F : Nat} {r : Int32} {h h' : hm_T} {x0 : Nat} {x1 : Int32} {x2 : Int32} {x3 : Int32} (C : hm_C E prog_1_method_30_code 4 "DistanceLabels" 0 0 n0 s0 (hm_n h') (hm_s h') p R s m args c) (hr : meth.sig.returnType = (some .boolean)) (hlk : meth.locks = false) (hf : f_D_isSureBy F x0 x1 x2 x3 h = some (r, h')) : hm_G E 4 n0 s0 (hm_n h') (hm_s h') p l e R s m args below meth c (MQ below (hm_Qc E (some (.int r)) h') args s (hm_n h' - n0) (hm_s h' - s0) (fun q => E.2.2 ≤ q)) 0 [(0, .ref x0), (1, .int x1), (2, .int x2), (3, .int x3)] [] h := by
  unfold f_D_isSureBy at hf
  refine hm_aload_n C d_D_isSureBy_0 rfl 0 rfl ?_
  obtain ⟨a1, ea1, hf⟩ := hm_bind hf
  refine hm_getR C F_3 1 (by decide) rfl k_28 d_D_isSureBy_1 ea1 ?_
  refine hm_iload_n C d_D_isSureBy_4 rfl 1 rfl ?_
  obtain ⟨a2, ea2, hf⟩ := hm_bind hf
  refine hm_aaload C d_D_isSureBy_5 ea2 ?_
  refine hm_iload_n C d_D_isSureBy_6 rfl 2 rfl ?_
  obtain ⟨v3, ev3, hf⟩ := hm_bind hf
  refine hm_iaload C d_D_isSureBy_7 ev3 ?_
  refine hm_iconst (v := (-1 : Int32)) C d_D_isSureBy_8 (by decide) ?_
  refine hm_icmp_eq (tgt := 24) C d_D_isSureBy_9 (by decide) (fun z4 => ?_) (fun z4 => ?_)
  · have hf := hm_ifp hf z4
    exact w_f_D_isSureBy_24 C hr hlk hf
  · have hf := hm_ifn hf z4
    refine hm_aload_n C d_D_isSureBy_12 rfl 0 rfl ?_
    obtain ⟨a5, ea5, hf⟩ := hm_bind hf
    refine hm_getR C F_3 1 (by decide) rfl k_28 d_D_isSureBy_13 ea5 ?_
    refine hm_iload_n C d_D_isSureBy_16 rfl 1 rfl ?_
    obtain ⟨a6, ea6, hf⟩ := hm_bind hf
    refine hm_aaload C d_D_isSureBy_17 ea6 ?_
    refine hm_iload_n C d_D_isSureBy_18 rfl 3 rfl ?_
    obtain ⟨v7, ev7, hf⟩ := hm_bind hf
    refine hm_iaload C d_D_isSureBy_19 ev7 ?_
    refine hm_iconst (v := (-1 : Int32)) C d_D_isSureBy_20 (by decide) ?_
    refine hm_icmp_eq (tgt := 48) C d_D_isSureBy_21 (by decide) (fun z8 => ?_) (fun z8 => ?_)
    · have hf := hm_ifp hf z8
      refine hm_sub (lv' := []) [] rfl ?_
      exact w_f_D_isSureBy_48 C hr hlk hf
    · have hf := hm_ifn hf z8
      exact w_f_D_isSureBy_24 C hr hlk hf
set_option maxRecDepth 20000 in
theorem c_D_isSureBy {E : hm_E} {l : Launch} {F : Nat} {r : Int32} {h h' : hm_T} {x0 : Nat} {x1 : Int32} {x2 : Int32} {x3 : Int32} (hf : f_D_isSureBy F x0 x1 x2 x3 h = some (r, h')) : hm_M E l y_D_isSureBy prog_1_method_30_code 4 (some .boolean) 0 0 [.ref x0, .int x1, .int x2, .int x3] h (some (.int r)) h' :=
  hm_enter (by decide +kernel) (Nat.le_of_ble_eq_true rfl) (m_f_D_isSureBy hf) (fun p e R s m below meth c C hr hlk hin => w_f_D_isSureBy C hr hlk hf)
def f_D_lead_10 (F : Nat) (h : hm_T) : Option (Int32 × hm_T) :=
  some ((0 : Int32), h)
def f_D_lead (F : Nat) (x0 : Int32) (x1 : Int32) (h : hm_T) : Option (Int32 × hm_T) :=
  (if x0 = (-1 : Int32) then f_D_lead_10 F h else (if x1 = (-1 : Int32) then f_D_lead_10 F h else some ((x0 - x1), h)))
theorem m_f_D_lead_10 {F : Nat} {r : Int32} {h h' : hm_T} (hf : f_D_lead_10 F h = some (r, h')) : hm_le h h' := by
  unfold f_D_lead_10 at hf
  exact (hm_le.ret hf)
theorem m_f_D_lead {F : Nat} {r : Int32} {h h' : hm_T} {x0 : Int32} {x1 : Int32} (hf : f_D_lead F x0 x1 h = some (r, h')) : hm_le h h' := by
  unfold f_D_lead at hf
  by_cases z1 : x0 = (-1 : Int32)
  · have hf := hm_ifp hf z1
    exact (m_f_D_lead_10 hf)
  · have hf := hm_ifn hf z1
    by_cases z2 : x1 = (-1 : Int32)
    · have hf := hm_ifp hf z2
      exact (m_f_D_lead_10 hf)
    · have hf := hm_ifn hf z2
      exact (hm_le.ret hf)
set_option maxRecDepth 20000 in
set_option maxHeartbeats 1000000 in
theorem w_f_D_lead_10 {p : Program} {l : Launch} {e : Env} {R : Room} {s : State} {m : MethodId} {args : Array Value} {below : List Frame} {meth : Method} {c : Code} {E : hm_E} {n0 s0 F : Nat} {r : Int32} {h h' : hm_T} (C : hm_C E prog_1_method_34_code 2 "DistanceLabels" 0 0 n0 s0 (hm_n h') (hm_s h') p R s m args c) (hr : meth.sig.returnType = (some .int)) (hlk : meth.locks = false) (hf : f_D_lead_10 F h = some (r, h')) : hm_G E 2 n0 s0 (hm_n h') (hm_s h') p l e R s m args below meth c (MQ below (hm_Qc E (some (.int r)) h') args s (hm_n h' - n0) (hm_s h' - s0) (fun q => E.2.2 ≤ q)) 10 [] [] h := by
  unfold f_D_lead_10 at hf
  refine hm_iconst (v := (0 : Int32)) C d_D_lead_10 (by decide) ?_
  refine hm_goto (tgt := 17) C d_D_lead_11 (by decide) ?_
  exact hm_iret C hr hlk d_D_lead_17 hf
set_option maxRecDepth 20000 in
set_option maxHeartbeats 1000000 in
theorem w_f_D_lead {p : Program} {l : Launch} {e : Env} {R : Room} {s : State} {m : MethodId} {args : Array Value} {below : List Frame} {meth : Method} {c : Code} {E : hm_E} {n0 s0 F : Nat} {r : Int32} {h h' : hm_T} {x0 : Int32} {x1 : Int32} (C : hm_C E prog_1_method_34_code 2 "DistanceLabels" 0 0 n0 s0 (hm_n h') (hm_s h') p R s m args c) (hr : meth.sig.returnType = (some .int)) (hlk : meth.locks = false) (hf : f_D_lead F x0 x1 h = some (r, h')) : hm_G E 2 n0 s0 (hm_n h') (hm_s h') p l e R s m args below meth c (MQ below (hm_Qc E (some (.int r)) h') args s (hm_n h' - n0) (hm_s h' - s0) (fun q => E.2.2 ≤ q)) 0 [(0, .int x0), (1, .int x1)] [] h := by
  unfold f_D_lead at hf
  refine hm_iload_n C d_D_lead_0 rfl 0 rfl ?_
  refine hm_iconst (v := (-1 : Int32)) C d_D_lead_1 (by decide) ?_
  refine hm_icmp_eq (tgt := 10) C d_D_lead_2 (by decide) (fun z1 => ?_) (fun z1 => ?_)
  · have hf := hm_ifp hf z1
    refine hm_sub (lv' := []) [] rfl ?_
    exact w_f_D_lead_10 C hr hlk hf
  · have hf := hm_ifn hf z1
    refine hm_iload_n C d_D_lead_5 rfl 1 rfl ?_
    refine hm_iconst (v := (-1 : Int32)) C d_D_lead_6 (by decide) ?_
    refine hm_icmp_ne (tgt := 14) C d_D_lead_7 (by decide) (fun z2 => ?_) (fun z2 => ?_)
    · have hf := hm_ifn hf z2
      refine hm_iload_n C d_D_lead_14 rfl 0 rfl ?_
      refine hm_iload_n C d_D_lead_15 rfl 1 rfl ?_
      refine hm_isub C d_D_lead_16 ?_
      exact hm_iret C hr hlk d_D_lead_17 hf
    · have hf := hm_ifp hf z2
      refine hm_sub (lv' := []) [] rfl ?_
      exact w_f_D_lead_10 C hr hlk hf
set_option maxRecDepth 20000 in
theorem c_D_lead {E : hm_E} {l : Launch} {F : Nat} {r : Int32} {h h' : hm_T} {x0 : Int32} {x1 : Int32} (hf : f_D_lead F x0 x1 h = some (r, h')) : hm_M E l y_D_lead prog_1_method_34_code 2 (some .int) 0 0 [.int x0, .int x1] h (some (.int r)) h' :=
  hm_enter (by decide +kernel) (Nat.le_of_ble_eq_true rfl) (m_f_D_lead hf) (fun p e R s m below meth c C hr hlk hin => w_f_D_lead C hr hlk hf)
def f_D_least_110 (F : Nat) (k19 : Nat → Int32 → Int32 → Int32 → Int32 → hm_T → Option (Int32 × hm_T)) (x0 : Nat) (x1 : Int32) (x2 : Int32) (x4 : Int32) (x5 : Int32) (h : hm_T) : Option (Int32 × hm_T) :=
  k19 x0 x1 x2 x4 (x5 + (1 : Int32)) h
def g_D_least_19 (F : Nat) (k19 : Nat → Int32 → Int32 → Int32 → Int32 → hm_T → Option (Int32 × hm_T)) (x0 : Nat) (x1 : Int32) (x2 : Int32) (x4 : Int32) (x5 : Int32) (h : hm_T) : Option (Int32 × hm_T) :=
  (hm_gr 3 9 0 h x0).bind (fun a1 => (hm_gi 2 5 0 h a1).bind (fun v2 => (if v2 ≤ x5 then some (x4, h) else (hm_gr 3 9 5 h x0).bind (fun a4 => (hm_zld h a4 x5).bind (fun v5 => (if v5 = 0 then f_D_least_110 F k19 x0 x1 x2 x4 x5 h else (hm_is 3 9 h x0).bind (fun u7 => hm_and (f_D_isSureBy F x0 x5 x1 x2 h) (fun v8 h8 => (if v8 = 0 then (hm_gr 3 9 1 h8 x0).bind (fun a10 => (hm_ald h8 a10 x5).bind (fun a11 => (hm_ild h8 a11 x2).bind (fun v12 => (hm_gr 3 9 1 h8 x0).bind (fun a13 => (hm_ald h8 a13 x5).bind (fun a14 => (hm_ild h8 a14 x1).bind (fun v15 => hm_and (f_D_lead F v12 v15 h8) (fun v16 h16 => (hm_gr 3 9 1 h16 x0).bind (fun a17 => (hm_ald h16 a17 x1).bind (fun a18 => (hm_ild h16 a18 x5).bind (fun v19 => (hm_gr 3 9 1 h16 x0).bind (fun a20 => (hm_ald h16 a20 x2).bind (fun a21 => (hm_ild h16 a21 x5).bind (fun v22 => hm_and (f_D_lead F v19 v22 h16) (fun v23 h23 => f_D_least_110 F k19 x0 x1 x2 (if (if x4 < v16 then v16 else x4) < v23 then v23 else (if x4 < v16 then v16 else x4)) x5 h23)))))))))))))) else some ((-1 : Int32), h8))))))))))
def f_D_least_19 (F : Nat) : Nat → Nat → Int32 → Int32 → Int32 → Int32 → hm_T → Option (Int32 × hm_T)
  | 0 => fun _ _ _ _ _ _ => none
  | n + 1 => g_D_least_19 F (f_D_least_19 F n)
def f_D_least (F : Nat) (x0 : Nat) (x1 : Int32) (x2 : Int32) (h : hm_T) : Option (Int32 × hm_T) :=
  (hm_is 3 9 h x0).bind (fun u1 => hm_and (f_D_refusalOf F x0 x1 x2 h) (fun v2 h2 => (if v2 = 0 then f_D_least_19 F F x0 x1 x2 (0 : Int32) (0 : Int32) h2 else some (v2, h2))))
theorem m_f_D_least_110 {F : Nat} {r : Int32} {h h' : hm_T} {x0 : Nat} {x1 : Int32} {x2 : Int32} {x4 : Int32} {x5 : Int32} {k19 : Nat → Int32 → Int32 → Int32 → Int32 → hm_T → Option (Int32 × hm_T)} (hk19 : ∀ (y0 : Nat) (y1 : Int32) (y2 : Int32) (y4 : Int32) (y5 : Int32) (g : hm_T), k19 y0 y1 y2 y4 y5 g = some (r, h') → hm_le g h') (hf : f_D_least_110 F k19 x0 x1 x2 x4 x5 h = some (r, h')) : hm_le h h' := by
  unfold f_D_least_110 at hf
  exact (hk19 _ _ _ _ _ _ hf)
theorem m_g_D_least_19 {F : Nat} {r : Int32} {h h' : hm_T} {x0 : Nat} {x1 : Int32} {x2 : Int32} {x4 : Int32} {x5 : Int32} {k19 : Nat → Int32 → Int32 → Int32 → Int32 → hm_T → Option (Int32 × hm_T)} (hk19 : ∀ (y0 : Nat) (y1 : Int32) (y2 : Int32) (y4 : Int32) (y5 : Int32) (g : hm_T), k19 y0 y1 y2 y4 y5 g = some (r, h') → hm_le g h') (hf : g_D_least_19 F k19 x0 x1 x2 x4 x5 h = some (r, h')) : hm_le h h' := by
  unfold g_D_least_19 at hf
  obtain ⟨a1, ea1, hf⟩ := hm_bind hf
  obtain ⟨v2, ev2, hf⟩ := hm_bind hf
  by_cases z3 : v2 ≤ x5
  · have hf := hm_ifp hf z3
    exact (hm_le.ret hf)
  · have hf := hm_ifn hf z3
    obtain ⟨a4, ea4, hf⟩ := hm_bind hf
    obtain ⟨v5, ev5, hf⟩ := hm_bind hf
    by_cases z6 : v5 = 0
    · have hf := hm_ifp hf z6
      exact (m_f_D_least_110 hk19 hf)
    · have hf := hm_ifn hf z6
      obtain ⟨u7, eu7, hf⟩ := hm_bind hf
      obtain ⟨v8, h8, eh8, hf⟩ := hm_and_of hf
      have mh8 := m_f_D_isSureBy eh8
      by_cases z9 : v8 = 0
      · have hf := hm_ifp hf z9
        obtain ⟨a10, ea10, hf⟩ := hm_bind hf
        obtain ⟨a11, ea11, hf⟩ := hm_bind hf
        obtain ⟨v12, ev12, hf⟩ := hm_bind hf
        obtain ⟨a13, ea13, hf⟩ := hm_bind hf
        obtain ⟨a14, ea14, hf⟩ := hm_bind hf
        obtain ⟨v15, ev15, hf⟩ := hm_bind hf
        obtain ⟨v16, h16, eh16, hf⟩ := hm_and_of hf
        have mh16 := m_f_D_lead eh16
        obtain ⟨a17, ea17, hf⟩ := hm_bind hf
        obtain ⟨a18, ea18, hf⟩ := hm_bind hf
        obtain ⟨v19, ev19, hf⟩ := hm_bind hf
        obtain ⟨a20, ea20, hf⟩ := hm_bind hf
        obtain ⟨a21, ea21, hf⟩ := hm_bind hf
        obtain ⟨v22, ev22, hf⟩ := hm_bind hf
        obtain ⟨v23, h23, eh23, hf⟩ := hm_and_of hf
        have mh23 := m_f_D_lead eh23
        exact mh8.tr (mh16.tr (mh23.tr ((m_f_D_least_110 hk19 hf))))
      · have hf := hm_ifn hf z9
        exact mh8.tr ((hm_le.ret hf))
theorem m_D_least_19L {F : Nat} {r : Int32} {h' : hm_T} : ∀ (N : Nat) (x0 : Nat) (x1 : Int32) (x2 : Int32) (x4 : Int32) (x5 : Int32) (h : hm_T), f_D_least_19 F N x0 x1 x2 x4 x5 h = some (r, h') → hm_le h h' := by
  intro N
  induction N with
  | zero => intro _ _ _ _ _ _ hf; cases hf
  | succ n ih => intro x0 x1 x2 x4 x5 h hf; exact m_g_D_least_19 ih hf
theorem m_f_D_least {F : Nat} {r : Int32} {h h' : hm_T} {x0 : Nat} {x1 : Int32} {x2 : Int32} (hf : f_D_least F x0 x1 x2 h = some (r, h')) : hm_le h h' := by
  unfold f_D_least at hf
  obtain ⟨u1, eu1, hf⟩ := hm_bind hf
  obtain ⟨v2, h2, eh2, hf⟩ := hm_and_of hf
  have mh2 := m_f_D_refusalOf eh2
  by_cases z3 : v2 = 0
  · have hf := hm_ifp hf z3
    exact mh2.tr ((m_D_least_19L _ _ _ _ _ _ _ hf))
  · have hf := hm_ifn hf z3
    exact mh2.tr ((hm_le.ret hf))
set_option maxRecDepth 20000 in
set_option maxHeartbeats 1000000 in
theorem w_f_D_least_110 {p : Program} {l : Launch} {e : Env} {R : Room} {s : State} {m : MethodId} {args : Array Value} {below : List Frame} {meth : Method} {c : Code} {E : hm_E} {n0 s0 F : Nat} {r : Int32} {h h' : hm_T} {x0 : Nat} {x1 : Int32} {x2 : Int32} {x4 : Int32} {x5 : Int32} {k19 : Nat → Int32 → Int32 → Int32 → Int32 → hm_T → Option (Int32 × hm_T)} (C : hm_C E prog_1_method_18_code 6 "DistanceLabels" 2 43 n0 s0 (hm_n h') (hm_s h') p R s m args c) (hr : meth.sig.returnType = (some .int)) (hlk : meth.locks = false) (hk19 : ∀ (y0 : Nat) (y1 : Int32) (y2 : Int32) (y4 : Int32) (y5 : Int32) (g : hm_T), k19 y0 y1 y2 y4 y5 g = some (r, h') → hm_G E 6 n0 s0 (hm_n h') (hm_s h') p l e R s m args below meth c (MQ below (hm_Qc E (some (.int r)) h') args s (hm_n h' - n0) (hm_s h' - s0) (fun q => E.2.2 ≤ q)) 19 [(0, .ref y0), (1, .int y1), (2, .int y2), (4, .int y4), (5, .int y5)] [] g) (hf : f_D_least_110 F k19 x0 x1 x2 x4 x5 h = some (r, h')) : hm_G E 6 n0 s0 (hm_n h') (hm_s h') p l e R s m args below meth c (MQ below (hm_Qc E (some (.int r)) h') args s (hm_n h' - n0) (hm_s h' - s0) (fun q => E.2.2 ≤ q)) 110 [(0, .ref x0), (1, .int x1), (2, .int x2), (4, .int x4), (5, .int x5)] [] h := by
  unfold f_D_least_110 at hf
  refine hm_iinc (v := (x5 + (1 : Int32))) (lv' := [(5, .int (x5 + (1 : Int32))), (0, .ref x0), (1, .int x1), (2, .int x2), (4, .int x4)]) C d_D_least_110 4 rfl rfl (by decide) rfl ?_
  refine hm_goto (tgt := 19) C d_D_least_113 (by decide) ?_
  refine hm_sub (lv' := [(0, .ref x0), (1, .int x1), (2, .int x2), (4, .int x4), (5, .int (x5 + (1 : Int32)))]) [1, 2, 3, 4, 0] rfl ?_
  exact hk19 _ _ _ _ _ _ hf
set_option maxRecDepth 20000 in
set_option maxHeartbeats 1000000 in
theorem w_g_D_least_19 {p : Program} {l : Launch} {e : Env} {R : Room} {s : State} {m : MethodId} {args : Array Value} {below : List Frame} {meth : Method} {c : Code} {E : hm_E} {n0 s0 F : Nat} {r : Int32} {h h' : hm_T} {x0 : Nat} {x1 : Int32} {x2 : Int32} {x4 : Int32} {x5 : Int32} {k19 : Nat → Int32 → Int32 → Int32 → Int32 → hm_T → Option (Int32 × hm_T)} (C : hm_C E prog_1_method_18_code 6 "DistanceLabels" 2 43 n0 s0 (hm_n h') (hm_s h') p R s m args c) (hr : meth.sig.returnType = (some .int)) (hlk : meth.locks = false) (hk19 : ∀ (y0 : Nat) (y1 : Int32) (y2 : Int32) (y4 : Int32) (y5 : Int32) (g : hm_T), k19 y0 y1 y2 y4 y5 g = some (r, h') → hm_G E 6 n0 s0 (hm_n h') (hm_s h') p l e R s m args below meth c (MQ below (hm_Qc E (some (.int r)) h') args s (hm_n h' - n0) (hm_s h' - s0) (fun q => E.2.2 ≤ q)) 19 [(0, .ref y0), (1, .int y1), (2, .int y2), (4, .int y4), (5, .int y5)] [] g) (hf : g_D_least_19 F k19 x0 x1 x2 x4 x5 h = some (r, h')) : hm_G E 6 n0 s0 (hm_n h') (hm_s h') p l e R s m args below meth c (MQ below (hm_Qc E (some (.int r)) h') args s (hm_n h' - n0) (hm_s h' - s0) (fun q => E.2.2 ≤ q)) 19 [(0, .ref x0), (1, .int x1), (2, .int x2), (4, .int x4), (5, .int x5)] [] h := by
  unfold g_D_least_19 at hf
  refine hm_iload C d_D_least_19 4 rfl ?_
  refine hm_aload_n C d_D_least_21 rfl 0 rfl ?_
  obtain ⟨a1, ea1, hf⟩ := hm_bind hf
  refine hm_getR C F_3 0 (by decide) rfl k_26 d_D_least_22 ea1 ?_
  obtain ⟨v2, ev2, hf⟩ := hm_bind hf
  refine hm_getIN C F_2 0 (by decide) rfl kF_0 d_D_least_25 ev2 ?_
  refine hm_icmp_ge (tgt := 116) C d_D_least_28 (by decide) (fun z3 => ?_) (fun z3 => ?_)
  · have hf := hm_ifp hf z3
    refine hm_iload C d_D_least_116 3 rfl ?_
    exact hm_iret C hr hlk d_D_least_118 hf
  · have hf := hm_ifn hf z3
    refine hm_aload_n C d_D_least_31 rfl 0 rfl ?_
    obtain ⟨a4, ea4, hf⟩ := hm_bind hf
    refine hm_getR C F_3 5 (by decide) rfl k_40 d_D_least_32 ea4 ?_
    refine hm_iload C d_D_least_35 4 rfl ?_
    obtain ⟨v5, ev5, hf⟩ := hm_bind hf
    refine hm_baload C d_D_least_37 ev5 ?_
    refine hm_if_eq (tgt := 110) C d_D_least_38 (by decide) (fun z6 => ?_) (fun z6 => ?_)
    · have hf := hm_ifp hf z6
      exact w_f_D_least_110 C hr hlk hk19 hf
    · have hf := hm_ifn hf z6
      refine hm_aload_n C d_D_least_41 rfl 0 rfl ?_
      refine hm_iload C d_D_least_42 4 rfl ?_
      refine hm_iload_n C d_D_least_44 rfl 1 rfl ?_
      refine hm_iload_n C d_D_least_45 rfl 2 rfl ?_
      obtain ⟨u7, eu7, hf⟩ := hm_bind hf
      obtain ⟨v8, h8, eh8, hf⟩ := hm_and_of hf
      refine hm_callV (vs := [.int x5, .int x1, .int x2]) (st := []) (sb := [.int v8]) C (c_D_isSureBy eh8) Y_D_isSureBy F_3 eu7 k_129 k_130 k_128 (by decide) (by decide) rfl (Nat.le_of_ble_eq_true rfl) d_D_least_46 rfl rfl ?_
      refine hm_if_eq (tgt := 54) C d_D_least_49 (by decide) (fun z9 => ?_) (fun z9 => ?_)
      · have hf := hm_ifp hf z9
        refine hm_iload C d_D_least_54 3 rfl ?_
        refine hm_aload_n C d_D_least_56 rfl 0 rfl ?_
        obtain ⟨a10, ea10, hf⟩ := hm_bind hf
        refine hm_getR C F_3 1 (by decide) rfl k_28 d_D_least_57 ea10 ?_
        refine hm_iload C d_D_least_60 4 rfl ?_
        obtain ⟨a11, ea11, hf⟩ := hm_bind hf
        refine hm_aaload C d_D_least_62 ea11 ?_
        refine hm_iload_n C d_D_least_63 rfl 2 rfl ?_
        obtain ⟨v12, ev12, hf⟩ := hm_bind hf
        refine hm_iaload C d_D_least_64 ev12 ?_
        refine hm_aload_n C d_D_least_65 rfl 0 rfl ?_
        obtain ⟨a13, ea13, hf⟩ := hm_bind hf
        refine hm_getR C F_3 1 (by decide) rfl k_28 d_D_least_66 ea13 ?_
        refine hm_iload C d_D_least_69 4 rfl ?_
        obtain ⟨a14, ea14, hf⟩ := hm_bind hf
        refine hm_aaload C d_D_least_71 ea14 ?_
        refine hm_iload_n C d_D_least_72 rfl 1 rfl ?_
        obtain ⟨v15, ev15, hf⟩ := hm_bind hf
        refine hm_iaload C d_D_least_73 ev15 ?_
        obtain ⟨v16, h16, eh16, hf⟩ := hm_and_of hf
        refine hm_callS (vs := [.int v12, .int v15]) (st := [.int x4]) (sb := [.int v16, .int x4]) C (c_D_lead eh16) Y_D_lead k_132 k_131 (by decide) (by decide) rfl (Nat.le_of_ble_eq_true rfl) d_D_least_74 rfl rfl ?_
        refine hm_mmax C k_133 k_134 k_135 k_136 (by decide) (Nat.le_of_ble_eq_true rfl) d_D_least_77 ?_
        refine hm_istore (lv' := [(4, .int (if x4 < v16 then v16 else x4)), (0, .ref x0), (1, .int x1), (2, .int x2), (5, .int x5)]) C d_D_least_80 (by decide) rfl ?_
        refine hm_iload C d_D_least_82 0 rfl ?_
        refine hm_aload_n C d_D_least_84 rfl 1 rfl ?_
        obtain ⟨a17, ea17, hf⟩ := hm_bind hf
        refine hm_getR C F_3 1 (by decide) rfl k_28 d_D_least_85 ea17 ?_
        refine hm_iload_n C d_D_least_88 rfl 2 rfl ?_
        obtain ⟨a18, ea18, hf⟩ := hm_bind hf
        refine hm_aaload C d_D_least_89 ea18 ?_
        refine hm_iload C d_D_least_90 4 rfl ?_
        obtain ⟨v19, ev19, hf⟩ := hm_bind hf
        refine hm_iaload C d_D_least_92 ev19 ?_
        refine hm_aload_n C d_D_least_93 rfl 1 rfl ?_
        obtain ⟨a20, ea20, hf⟩ := hm_bind hf
        refine hm_getR C F_3 1 (by decide) rfl k_28 d_D_least_94 ea20 ?_
        refine hm_iload_n C d_D_least_97 rfl 3 rfl ?_
        obtain ⟨a21, ea21, hf⟩ := hm_bind hf
        refine hm_aaload C d_D_least_98 ea21 ?_
        refine hm_iload C d_D_least_99 4 rfl ?_
        obtain ⟨v22, ev22, hf⟩ := hm_bind hf
        refine hm_iaload C d_D_least_101 ev22 ?_
        obtain ⟨v23, h23, eh23, hf⟩ := hm_and_of hf
        refine hm_callS (vs := [.int v19, .int v22]) (st := [.int (if x4 < v16 then v16 else x4)]) (sb := [.int v23, .int (if x4 < v16 then v16 else x4)]) C (c_D_lead eh23) Y_D_lead k_132 k_131 (by decide) (by decide) rfl (Nat.le_of_ble_eq_true rfl) d_D_least_102 rfl rfl ?_
        refine hm_mmax C k_133 k_134 k_135 k_136 (by decide) (Nat.le_of_ble_eq_true rfl) d_D_least_105 ?_
        refine hm_istore (lv' := [(4, .int (if (if x4 < v16 then v16 else x4) < v23 then v23 else (if x4 < v16 then v16 else x4))), (0, .ref x0), (1, .int x1), (2, .int x2), (5, .int x5)]) C d_D_least_108 (by decide) rfl ?_
        refine hm_sub (lv' := [(0, .ref x0), (1, .int x1), (2, .int x2), (4, .int (if (if x4 < v16 then v16 else x4) < v23 then v23 else (if x4 < v16 then v16 else x4))), (5, .int x5)]) [1, 2, 3, 0, 4] rfl ?_
        exact w_f_D_least_110 C hr hlk hk19 hf
      · have hf := hm_ifn hf z9
        refine hm_iconst (v := (-1 : Int32)) C d_D_least_52 (by decide) ?_
        exact hm_iret C hr hlk d_D_least_53 hf
theorem w_D_least_19L {p : Program} {l : Launch} {e : Env} {R : Room} {s : State} {m : MethodId} {args : Array Value} {below : List Frame} {meth : Method} {c : Code} {E : hm_E} {n0 s0 F : Nat} {r : Int32} {h' : hm_T} (C : hm_C E prog_1_method_18_code 6 "DistanceLabels" 2 43 n0 s0 (hm_n h') (hm_s h') p R s m args c) (hr : meth.sig.returnType = (some .int)) (hlk : meth.locks = false) : ∀ (N : Nat) (x0 : Nat) (x1 : Int32) (x2 : Int32) (x4 : Int32) (x5 : Int32) (h : hm_T), f_D_least_19 F N x0 x1 x2 x4 x5 h = some (r, h') → hm_G E 6 n0 s0 (hm_n h') (hm_s h') p l e R s m args below meth c (MQ below (hm_Qc E (some (.int r)) h') args s (hm_n h' - n0) (hm_s h' - s0) (fun q => E.2.2 ≤ q)) 19 [(0, .ref x0), (1, .int x1), (2, .int x2), (4, .int x4), (5, .int x5)] [] h := by
  intro N
  induction N with
  | zero => intro _ _ _ _ _ _ hf; cases hf
  | succ n ih => intro x0 x1 x2 x4 x5 h hf; exact w_g_D_least_19 C hr hlk ih hf
set_option maxRecDepth 20000 in
set_option maxHeartbeats 1000000 in
theorem w_f_D_least {p : Program} {l : Launch} {e : Env} {R : Room} {s : State} {m : MethodId} {args : Array Value} {below : List Frame} {meth : Method} {c : Code} {E : hm_E} {n0 s0 F : Nat} {r : Int32} {h h' : hm_T} {x0 : Nat} {x1 : Int32} {x2 : Int32} (C : hm_C E prog_1_method_18_code 6 "DistanceLabels" 2 43 n0 s0 (hm_n h') (hm_s h') p R s m args c) (hr : meth.sig.returnType = (some .int)) (hlk : meth.locks = false) (hf : f_D_least F x0 x1 x2 h = some (r, h')) : hm_G E 6 n0 s0 (hm_n h') (hm_s h') p l e R s m args below meth c (MQ below (hm_Qc E (some (.int r)) h') args s (hm_n h' - n0) (hm_s h' - s0) (fun q => E.2.2 ≤ q)) 0 [(0, .ref x0), (1, .int x1), (2, .int x2)] [] h := by
  unfold f_D_least at hf
  refine hm_aload_n C d_D_least_0 rfl 0 rfl ?_
  refine hm_iload_n C d_D_least_1 rfl 1 rfl ?_
  refine hm_iload_n C d_D_least_2 rfl 2 rfl ?_
  obtain ⟨u1, eu1, hf⟩ := hm_bind hf
  obtain ⟨v2, h2, eh2, hf⟩ := hm_and_of hf
  refine hm_callV (vs := [.int x1, .int x2]) (st := []) (sb := [.int v2]) C (c_D_refusalOf eh2) Y_D_refusalOf F_3 eu1 k_102 k_103 k_101 (by decide) (by decide) rfl (Nat.le_of_ble_eq_true rfl) d_D_least_3 rfl rfl ?_
  refine hm_istore_n (lv' := [(3, .int v2), (0, .ref x0), (1, .int x1), (2, .int x2)]) C d_D_least_6 rfl (by decide) rfl ?_
  refine hm_iload_n C d_D_least_7 rfl 0 rfl ?_
  refine hm_if_eq (tgt := 13) C d_D_least_8 (by decide) (fun z3 => ?_) (fun z3 => ?_)
  · have hf := hm_ifp hf z3
    refine hm_iconst (v := (0 : Int32)) C d_D_least_13 (by decide) ?_
    refine hm_istore (lv' := [(4, .int (0 : Int32)), (3, .int v2), (0, .ref x0), (1, .int x1), (2, .int x2)]) C d_D_least_14 (by decide) rfl ?_
    refine hm_iconst (v := (0 : Int32)) C d_D_least_16 (by decide) ?_
    refine hm_istore (lv' := [(5, .int (0 : Int32)), (4, .int (0 : Int32)), (3, .int v2), (0, .ref x0), (1, .int x1), (2, .int x2)]) C d_D_least_17 (by decide) rfl ?_
    refine hm_sub (lv' := [(0, .ref x0), (1, .int x1), (2, .int x2), (4, .int (0 : Int32)), (5, .int (0 : Int32))]) [3, 4, 5, 1, 0] rfl ?_
    exact w_D_least_19L C hr hlk _ _ _ _ _ _ _ hf
  · have hf := hm_ifn hf z3
    refine hm_iload_n C d_D_least_11 rfl 0 rfl ?_
    exact hm_iret C hr hlk d_D_least_12 hf
set_option maxRecDepth 20000 in
theorem c_D_least {E : hm_E} {l : Launch} {F : Nat} {r : Int32} {h h' : hm_T} {x0 : Nat} {x1 : Int32} {x2 : Int32} (hf : f_D_least F x0 x1 x2 h = some (r, h')) : hm_M E l y_D_least prog_1_method_18_code 6 (some .int) 2 43 [.ref x0, .int x1, .int x2] h (some (.int r)) h' :=
  hm_enter (by decide +kernel) (Nat.le_of_ble_eq_true rfl) (m_f_D_least hf) (fun p e R s m below meth c C hr hlk hin => w_f_D_least C hr hlk hf)
