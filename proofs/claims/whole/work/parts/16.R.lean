def f_R_contract_415 (F : Nat) (x0 : Nat) (h : hm_T) : Option hm_T :=
  (hm_is 4 25 h x0).bind (fun u1 => (f_R_climbAll F x0 h).bind (fun h2 => some h2))
def f_R_contract_402 (F : Nat) (k47 : Nat → Int32 → hm_T → Option hm_T) (x0 : Nat) (x1 : Int32) (x2 : Int32) (h : hm_T) : Option hm_T :=
  (hm_gr 4 25 11 h x0).bind (fun a1 => (hm_zst h a1 x2 (1 : Int32)).bind (fun h2 => k47 x0 (x1 + (-1 : Int32)) h2))
def g_R_contract_357 (F : Nat) (k47 : Nat → Int32 → hm_T → Option hm_T) (k357 : Nat → Int32 → Int32 → Int32 → hm_T → Option hm_T) (x0 : Nat) (x1 : Int32) (x2 : Int32) (x4 : Int32) (h : hm_T) : Option hm_T :=
  (hm_gi 4 25 16 h x0).bind (fun v1 => (if v1 ≤ x4 then f_R_contract_402 F k47 x0 x1 x2 h else (hm_gr 4 25 12 h x0).bind (fun a3 => (hm_gr 4 25 17 h x0).bind (fun a4 => (hm_ild h a4 x4).bind (fun v5 => (hm_gr 4 25 18 h x0).bind (fun a6 => (hm_ild h a6 x4).bind (fun v7 => (hm_gr 4 25 19 h x0).bind (fun a8 => (hm_ild h a8 x4).bind (fun v9 => (hm_ist h a3 (((16 : Int32) * v5) + v7) v9).bind (fun h10 => k357 x0 x1 x2 (x4 + (1 : Int32)) h10))))))))))
def f_R_contract_357 (F : Nat) (k47 : Nat → Int32 → hm_T → Option hm_T) : Nat → Nat → Int32 → Int32 → Int32 → hm_T → Option hm_T
  | 0 => fun _ _ _ _ _ => none
  | n + 1 => g_R_contract_357 F k47 (f_R_contract_357 F k47 n)
def f_R_contract_354 (F : Nat) (k47 : Nat → Int32 → hm_T → Option hm_T) (x0 : Nat) (x1 : Int32) (x2 : Int32) (x3 : Int32) (h : hm_T) : Option hm_T :=
  f_R_contract_357 F k47 F x0 x1 x2 x3 h
def f_R_contract_348 (F : Nat) (k275 : Nat → Int32 → Int32 → Int32 → Int32 → hm_T → Option hm_T) (x0 : Nat) (x1 : Int32) (x2 : Int32) (x3 : Int32) (x4 : Int32) (h : hm_T) : Option hm_T :=
  k275 x0 x1 x2 x3 (x4 + (1 : Int32)) h
def g_R_contract_275 (F : Nat) (k47 : Nat → Int32 → hm_T → Option hm_T) (k275 : Nat → Int32 → Int32 → Int32 → Int32 → hm_T → Option hm_T) (x0 : Nat) (x1 : Int32) (x2 : Int32) (x3 : Int32) (x4 : Int32) (h : hm_T) : Option hm_T :=
  (hm_gi 4 25 1 h x0).bind (fun v1 => (if v1 ≤ x4 then f_R_contract_354 F k47 x0 x1 x2 x3 h else (hm_gr 4 25 11 h x0).bind (fun a3 => (hm_zld h a3 x4).bind (fun v4 => (if v4 = 0 then (if x4 = x2 then f_R_contract_348 F k275 x0 x1 x2 x3 x4 h else (hm_gr 4 25 14 h x0).bind (fun a7 => (hm_gr 4 25 12 h x0).bind (fun a8 => (hm_ild h a8 (((16 : Int32) * x4) + x2)).bind (fun v9 => (hm_ist h a7 (((16 : Int32) * x4) + x2) v9).bind (fun h10 => (hm_gr 4 25 14 h10 x0).bind (fun a11 => (hm_gr 4 25 12 h10 x0).bind (fun a12 => (hm_ild h10 a12 (((16 : Int32) * x2) + x4)).bind (fun v13 => (hm_ist h10 a11 (((16 : Int32) * x2) + x4) v13).bind (fun h14 => f_R_contract_348 F k275 x0 x1 x2 x3 x4 h14))))))))) else f_R_contract_348 F k275 x0 x1 x2 x3 x4 h)))))
def f_R_contract_275 (F : Nat) (k47 : Nat → Int32 → hm_T → Option hm_T) : Nat → Nat → Int32 → Int32 → Int32 → Int32 → hm_T → Option hm_T
  | 0 => fun _ _ _ _ _ _ => none
  | n + 1 => g_R_contract_275 F k47 (f_R_contract_275 F k47 n)
def f_R_contract_272 (F : Nat) (k47 : Nat → Int32 → hm_T → Option hm_T) (x0 : Nat) (x1 : Int32) (x2 : Int32) (x3 : Int32) (h : hm_T) : Option hm_T :=
  f_R_contract_275 F k47 F x0 x1 x2 x3 (0 : Int32) h
def f_R_contract_266 (F : Nat) (k83 : Nat → Int32 → Int32 → Int32 → Int32 → hm_T → Option hm_T) (x0 : Nat) (x1 : Int32) (x2 : Int32) (x3 : Int32) (x4 : Int32) (h : hm_T) : Option hm_T :=
  k83 x0 x1 x2 x3 (x4 + (1 : Int32)) h
def f_R_contract_260 (F : Nat) (k95 : Nat → Int32 → Int32 → Int32 → Int32 → Int32 → hm_T → Option hm_T) (x0 : Nat) (x1 : Int32) (x2 : Int32) (x3 : Int32) (x4 : Int32) (x5 : Int32) (h : hm_T) : Option hm_T :=
  k95 x0 x1 x2 x3 x4 (x5 + (1 : Int32)) h
def f_R_contract_148 (F : Nat) (k95 : Nat → Int32 → Int32 → Int32 → Int32 → Int32 → hm_T → Option hm_T) (x0 : Nat) (x1 : Int32) (x2 : Int32) (x3 : Int32) (x4 : Int32) (x5 : Int32) (t0 : Int32) (h : hm_T) : Option hm_T :=
  (hm_gr 4 25 12 h x0).bind (fun a1 => (hm_ild h a1 (((16 : Int32) * x4) + x2)).bind (fun v2 => (hm_gr 4 25 12 h x0).bind (fun a3 => (hm_ild h a3 (((16 : Int32) * x2) + x5)).bind (fun v4 => (if t0 = 0 then f_R_contract_260 F k95 x0 x1 x2 x3 x4 x5 h else (if (1000000 : Int32) ≤ (v2 + v4) then f_R_contract_260 F k95 x0 x1 x2 x3 x4 x5 h else (hm_gr 4 25 13 h x0).bind (fun a7 => (hm_ild h a7 (((16 : Int32) * x4) + x5)).bind (fun v8 => (if v8 ≤ (v2 + v4) then f_R_contract_260 F k95 x0 x1 x2 x3 x4 x5 h else (hm_gr 4 25 17 h x0).bind (fun a10 => (hm_gi 4 25 16 h x0).bind (fun v11 => (hm_ist h a10 v11 x4).bind (fun h12 => (hm_gr 4 25 18 h12 x0).bind (fun a13 => (hm_gi 4 25 16 h12 x0).bind (fun v14 => (hm_ist h12 a13 v14 x5).bind (fun h15 => (hm_gr 4 25 19 h15 x0).bind (fun a16 => (hm_gi 4 25 16 h15 x0).bind (fun v17 => (hm_ist h15 a16 v17 (v2 + v4)).bind (fun h18 => (hm_gr 4 25 20 h18 x0).bind (fun a19 => (hm_gi 4 25 16 h18 x0).bind (fun v20 => (hm_ist h18 a19 v20 x2).bind (fun h21 => (hm_gi 4 25 16 h21 x0).bind (fun v22 => (hm_pi 4 25 16 h21 x0 (v22 + (1 : Int32))).bind (fun h23 => f_R_contract_260 F k95 x0 x1 x2 x3 x4 x5 h23)))))))))))))))))))))))
def f_R_contract_147 (F : Nat) (k95 : Nat → Int32 → Int32 → Int32 → Int32 → Int32 → hm_T → Option hm_T) (x0 : Nat) (x1 : Int32) (x2 : Int32) (x3 : Int32) (x4 : Int32) (x5 : Int32) (h : hm_T) : Option hm_T :=
  f_R_contract_148 F k95 x0 x1 x2 x3 x4 x5 (0 : Int32) h
def g_R_contract_95 (F : Nat) (k83 : Nat → Int32 → Int32 → Int32 → Int32 → hm_T → Option hm_T) (k95 : Nat → Int32 → Int32 → Int32 → Int32 → Int32 → hm_T → Option hm_T) (x0 : Nat) (x1 : Int32) (x2 : Int32) (x3 : Int32) (x4 : Int32) (x5 : Int32) (h : hm_T) : Option hm_T :=
  (hm_gi 4 25 1 h x0).bind (fun v1 => (if v1 ≤ x5 then f_R_contract_266 F k83 x0 x1 x2 x3 x4 h else (if x4 = x2 then f_R_contract_147 F k95 x0 x1 x2 x3 x4 x5 h else (if x5 = x2 then f_R_contract_147 F k95 x0 x1 x2 x3 x4 x5 h else (if x4 = x5 then f_R_contract_147 F k95 x0 x1 x2 x3 x4 x5 h else (hm_gr 4 25 11 h x0).bind (fun a6 => (hm_zld h a6 x4).bind (fun v7 => (if v7 = 0 then (hm_gr 4 25 11 h x0).bind (fun a9 => (hm_zld h a9 x5).bind (fun v10 => (if v10 = 0 then f_R_contract_148 F k95 x0 x1 x2 x3 x4 x5 (1 : Int32) h else f_R_contract_147 F k95 x0 x1 x2 x3 x4 x5 h))) else f_R_contract_147 F k95 x0 x1 x2 x3 x4 x5 h))))))))
def f_R_contract_95 (F : Nat) (k83 : Nat → Int32 → Int32 → Int32 → Int32 → hm_T → Option hm_T) : Nat → Nat → Int32 → Int32 → Int32 → Int32 → Int32 → hm_T → Option hm_T
  | 0 => fun _ _ _ _ _ _ _ => none
  | n + 1 => g_R_contract_95 F k83 (f_R_contract_95 F k83 n)
def g_R_contract_83 (F : Nat) (k47 : Nat → Int32 → hm_T → Option hm_T) (k83 : Nat → Int32 → Int32 → Int32 → Int32 → hm_T → Option hm_T) (x0 : Nat) (x1 : Int32) (x2 : Int32) (x3 : Int32) (x4 : Int32) (h : hm_T) : Option hm_T :=
  (hm_gi 4 25 1 h x0).bind (fun v1 => (if v1 ≤ x4 then f_R_contract_272 F k47 x0 x1 x2 x3 h else f_R_contract_95 F k83 F x0 x1 x2 x3 x4 (0 : Int32) h))
def f_R_contract_83 (F : Nat) (k47 : Nat → Int32 → hm_T → Option hm_T) : Nat → Nat → Int32 → Int32 → Int32 → Int32 → hm_T → Option hm_T
  | 0 => fun _ _ _ _ _ _ => none
  | n + 1 => g_R_contract_83 F k47 (f_R_contract_83 F k47 n)
def g_R_contract_47 (F : Nat) (k47 : Nat → Int32 → hm_T → Option hm_T) (x0 : Nat) (x1 : Int32) (h : hm_T) : Option hm_T :=
  (if x1 < 0 then f_R_contract_415 F x0 h else (hm_gr 4 25 3 h x0).bind (fun a2 => (hm_ild h a2 x1).bind (fun v3 => (hm_gr 4 25 12 h x0).bind (fun a4 => (hm_gr 4 25 13 h x0).bind (fun a5 => (hm_gr 4 25 11 h x0).bind (fun a6 => (hm_is 4 25 h x0).bind (fun u7 => (f_R_fill F x0 a4 a5 v3 a6 h).bind (fun h8 => (hm_gi 4 25 16 h8 x0).bind (fun v9 => f_R_contract_83 F k47 F x0 x1 v3 v9 (0 : Int32) h8)))))))))
def f_R_contract_47 (F : Nat) : Nat → Nat → Int32 → hm_T → Option hm_T
  | 0 => fun _ _ _ => none
  | n + 1 => g_R_contract_47 F (f_R_contract_47 F n)
def f_R_contract_40 (F : Nat) (x0 : Nat) (h : hm_T) : Option hm_T :=
  (hm_gi 4 25 1 h x0).bind (fun v1 => f_R_contract_47 F F x0 (v1 - (1 : Int32)) h)
def g_R_contract_7 (F : Nat) (k7 : Nat → Int32 → hm_T → Option hm_T) (x0 : Nat) (x1 : Int32) (h : hm_T) : Option hm_T :=
  (if (256 : Int32) ≤ x1 then f_R_contract_40 F x0 h else (hm_gr 4 25 12 h x0).bind (fun a2 => (hm_gr 4 25 2 h x0).bind (fun a3 => (hm_ild h a3 x1).bind (fun v4 => (hm_ist h a2 x1 v4).bind (fun h5 => (hm_gr 4 25 14 h5 x0).bind (fun a6 => (hm_ist h5 a6 x1 (1000000 : Int32)).bind (fun h7 => k7 x0 (x1 + (1 : Int32)) h7)))))))
def f_R_contract_7 (F : Nat) : Nat → Nat → Int32 → hm_T → Option hm_T
  | 0 => fun _ _ _ => none
  | n + 1 => g_R_contract_7 F (f_R_contract_7 F n)
def f_R_contract (F : Nat) (x0 : Nat) (h : hm_T) : Option hm_T :=
  (hm_pi 4 25 16 h x0 (0 : Int32)).bind (fun h1 => f_R_contract_7 F F x0 (0 : Int32) h1)
theorem m_f_R_contract_415 {F : Nat} {h h' : hm_T} {x0 : Nat} (hf : f_R_contract_415 F x0 h = some h') : hm_le h h' := by
  unfold f_R_contract_415 at hf
  obtain ⟨u1, eu1, hf⟩ := hm_bind hf
  obtain ⟨h2, eh2, hf⟩ := hm_bind hf
  have mh2 := m_f_R_climbAll eh2
  exact mh2.tr ((hm_le.retv hf))
theorem m_f_R_contract_402 {F : Nat} {h h' : hm_T} {x0 : Nat} {x1 : Int32} {x2 : Int32} {k47 : Nat → Int32 → hm_T → Option hm_T} (hk47 : ∀ (y0 : Nat) (y1 : Int32) (g : hm_T), k47 y0 y1 g = some h' → hm_le g h') (hf : f_R_contract_402 F k47 x0 x1 x2 h = some h') : hm_le h h' := by
  unfold f_R_contract_402 at hf
  obtain ⟨a1, ea1, hf⟩ := hm_bind hf
  obtain ⟨h2, eh2, hf⟩ := hm_bind hf
  have mh2 := hm_le.zst eh2
  exact mh2.tr ((hk47 _ _ _ hf))
theorem m_g_R_contract_357 {F : Nat} {h h' : hm_T} {x0 : Nat} {x1 : Int32} {x2 : Int32} {x4 : Int32} {k47 : Nat → Int32 → hm_T → Option hm_T} {k357 : Nat → Int32 → Int32 → Int32 → hm_T → Option hm_T} (hk47 : ∀ (y0 : Nat) (y1 : Int32) (g : hm_T), k47 y0 y1 g = some h' → hm_le g h') (hk357 : ∀ (y0 : Nat) (y1 : Int32) (y2 : Int32) (y4 : Int32) (g : hm_T), k357 y0 y1 y2 y4 g = some h' → hm_le g h') (hf : g_R_contract_357 F k47 k357 x0 x1 x2 x4 h = some h') : hm_le h h' := by
  unfold g_R_contract_357 at hf
  obtain ⟨v1, ev1, hf⟩ := hm_bind hf
  by_cases z2 : v1 ≤ x4
  · have hf := hm_ifp hf z2
    exact (m_f_R_contract_402 hk47 hf)
  · have hf := hm_ifn hf z2
    obtain ⟨a3, ea3, hf⟩ := hm_bind hf
    obtain ⟨a4, ea4, hf⟩ := hm_bind hf
    obtain ⟨v5, ev5, hf⟩ := hm_bind hf
    obtain ⟨a6, ea6, hf⟩ := hm_bind hf
    obtain ⟨v7, ev7, hf⟩ := hm_bind hf
    obtain ⟨a8, ea8, hf⟩ := hm_bind hf
    obtain ⟨v9, ev9, hf⟩ := hm_bind hf
    obtain ⟨h10, eh10, hf⟩ := hm_bind hf
    have mh10 := hm_le.ist eh10
    exact mh10.tr ((hk357 _ _ _ _ _ hf))
theorem m_R_contract_357L {F : Nat} {h' : hm_T} {k47 : Nat → Int32 → hm_T → Option hm_T} (hk47 : ∀ (y0 : Nat) (y1 : Int32) (g : hm_T), k47 y0 y1 g = some h' → hm_le g h') : ∀ (N : Nat) (x0 : Nat) (x1 : Int32) (x2 : Int32) (x4 : Int32) (h : hm_T), f_R_contract_357 F k47 N x0 x1 x2 x4 h = some h' → hm_le h h' := by
  intro N
  induction N with
  | zero => intro _ _ _ _ _ hf; cases hf
  | succ n ih => intro x0 x1 x2 x4 h hf; exact m_g_R_contract_357 hk47 ih hf
theorem m_f_R_contract_354 {F : Nat} {h h' : hm_T} {x0 : Nat} {x1 : Int32} {x2 : Int32} {x3 : Int32} {k47 : Nat → Int32 → hm_T → Option hm_T} (hk47 : ∀ (y0 : Nat) (y1 : Int32) (g : hm_T), k47 y0 y1 g = some h' → hm_le g h') (hf : f_R_contract_354 F k47 x0 x1 x2 x3 h = some h') : hm_le h h' := by
  unfold f_R_contract_354 at hf
  exact (m_R_contract_357L hk47 _ _ _ _ _ _ hf)
theorem m_f_R_contract_348 {F : Nat} {h h' : hm_T} {x0 : Nat} {x1 : Int32} {x2 : Int32} {x3 : Int32} {x4 : Int32} {k275 : Nat → Int32 → Int32 → Int32 → Int32 → hm_T → Option hm_T} (hk275 : ∀ (y0 : Nat) (y1 : Int32) (y2 : Int32) (y3 : Int32) (y4 : Int32) (g : hm_T), k275 y0 y1 y2 y3 y4 g = some h' → hm_le g h') (hf : f_R_contract_348 F k275 x0 x1 x2 x3 x4 h = some h') : hm_le h h' := by
  unfold f_R_contract_348 at hf
  exact (hk275 _ _ _ _ _ _ hf)
theorem m_g_R_contract_275 {F : Nat} {h h' : hm_T} {x0 : Nat} {x1 : Int32} {x2 : Int32} {x3 : Int32} {x4 : Int32} {k47 : Nat → Int32 → hm_T → Option hm_T} {k275 : Nat → Int32 → Int32 → Int32 → Int32 → hm_T → Option hm_T} (hk47 : ∀ (y0 : Nat) (y1 : Int32) (g : hm_T), k47 y0 y1 g = some h' → hm_le g h') (hk275 : ∀ (y0 : Nat) (y1 : Int32) (y2 : Int32) (y3 : Int32) (y4 : Int32) (g : hm_T), k275 y0 y1 y2 y3 y4 g = some h' → hm_le g h') (hf : g_R_contract_275 F k47 k275 x0 x1 x2 x3 x4 h = some h') : hm_le h h' := by
  unfold g_R_contract_275 at hf
  obtain ⟨v1, ev1, hf⟩ := hm_bind hf
  by_cases z2 : v1 ≤ x4
  · have hf := hm_ifp hf z2
    exact (m_f_R_contract_354 hk47 hf)
  · have hf := hm_ifn hf z2
    obtain ⟨a3, ea3, hf⟩ := hm_bind hf
    obtain ⟨v4, ev4, hf⟩ := hm_bind hf
    by_cases z5 : v4 = 0
    · have hf := hm_ifp hf z5
      by_cases z6 : x4 = x2
      · have hf := hm_ifp hf z6
        exact (m_f_R_contract_348 hk275 hf)
      · have hf := hm_ifn hf z6
        obtain ⟨a7, ea7, hf⟩ := hm_bind hf
        obtain ⟨a8, ea8, hf⟩ := hm_bind hf
        obtain ⟨v9, ev9, hf⟩ := hm_bind hf
        obtain ⟨h10, eh10, hf⟩ := hm_bind hf
        have mh10 := hm_le.ist eh10
        obtain ⟨a11, ea11, hf⟩ := hm_bind hf
        obtain ⟨a12, ea12, hf⟩ := hm_bind hf
        obtain ⟨v13, ev13, hf⟩ := hm_bind hf
        obtain ⟨h14, eh14, hf⟩ := hm_bind hf
        have mh14 := hm_le.ist eh14
        exact mh10.tr (mh14.tr ((m_f_R_contract_348 hk275 hf)))
    · have hf := hm_ifn hf z5
      exact (m_f_R_contract_348 hk275 hf)
theorem m_R_contract_275L {F : Nat} {h' : hm_T} {k47 : Nat → Int32 → hm_T → Option hm_T} (hk47 : ∀ (y0 : Nat) (y1 : Int32) (g : hm_T), k47 y0 y1 g = some h' → hm_le g h') : ∀ (N : Nat) (x0 : Nat) (x1 : Int32) (x2 : Int32) (x3 : Int32) (x4 : Int32) (h : hm_T), f_R_contract_275 F k47 N x0 x1 x2 x3 x4 h = some h' → hm_le h h' := by
  intro N
  induction N with
  | zero => intro _ _ _ _ _ _ hf; cases hf
  | succ n ih => intro x0 x1 x2 x3 x4 h hf; exact m_g_R_contract_275 hk47 ih hf
theorem m_f_R_contract_272 {F : Nat} {h h' : hm_T} {x0 : Nat} {x1 : Int32} {x2 : Int32} {x3 : Int32} {k47 : Nat → Int32 → hm_T → Option hm_T} (hk47 : ∀ (y0 : Nat) (y1 : Int32) (g : hm_T), k47 y0 y1 g = some h' → hm_le g h') (hf : f_R_contract_272 F k47 x0 x1 x2 x3 h = some h') : hm_le h h' := by
  unfold f_R_contract_272 at hf
  exact (m_R_contract_275L hk47 _ _ _ _ _ _ _ hf)
theorem m_f_R_contract_266 {F : Nat} {h h' : hm_T} {x0 : Nat} {x1 : Int32} {x2 : Int32} {x3 : Int32} {x4 : Int32} {k83 : Nat → Int32 → Int32 → Int32 → Int32 → hm_T → Option hm_T} (hk83 : ∀ (y0 : Nat) (y1 : Int32) (y2 : Int32) (y3 : Int32) (y4 : Int32) (g : hm_T), k83 y0 y1 y2 y3 y4 g = some h' → hm_le g h') (hf : f_R_contract_266 F k83 x0 x1 x2 x3 x4 h = some h') : hm_le h h' := by
  unfold f_R_contract_266 at hf
  exact (hk83 _ _ _ _ _ _ hf)
theorem m_f_R_contract_260 {F : Nat} {h h' : hm_T} {x0 : Nat} {x1 : Int32} {x2 : Int32} {x3 : Int32} {x4 : Int32} {x5 : Int32} {k95 : Nat → Int32 → Int32 → Int32 → Int32 → Int32 → hm_T → Option hm_T} (hk95 : ∀ (y0 : Nat) (y1 : Int32) (y2 : Int32) (y3 : Int32) (y4 : Int32) (y5 : Int32) (g : hm_T), k95 y0 y1 y2 y3 y4 y5 g = some h' → hm_le g h') (hf : f_R_contract_260 F k95 x0 x1 x2 x3 x4 x5 h = some h') : hm_le h h' := by
  unfold f_R_contract_260 at hf
  exact (hk95 _ _ _ _ _ _ _ hf)
theorem m_f_R_contract_148 {F : Nat} {h h' : hm_T} {x0 : Nat} {x1 : Int32} {x2 : Int32} {x3 : Int32} {x4 : Int32} {x5 : Int32} {t0 : Int32} {k95 : Nat → Int32 → Int32 → Int32 → Int32 → Int32 → hm_T → Option hm_T} (hk95 : ∀ (y0 : Nat) (y1 : Int32) (y2 : Int32) (y3 : Int32) (y4 : Int32) (y5 : Int32) (g : hm_T), k95 y0 y1 y2 y3 y4 y5 g = some h' → hm_le g h') (hf : f_R_contract_148 F k95 x0 x1 x2 x3 x4 x5 t0 h = some h') : hm_le h h' := by
  unfold f_R_contract_148 at hf
  obtain ⟨a1, ea1, hf⟩ := hm_bind hf
  obtain ⟨v2, ev2, hf⟩ := hm_bind hf
  obtain ⟨a3, ea3, hf⟩ := hm_bind hf
  obtain ⟨v4, ev4, hf⟩ := hm_bind hf
  by_cases z5 : t0 = 0
  · have hf := hm_ifp hf z5
    exact (m_f_R_contract_260 hk95 hf)
  · have hf := hm_ifn hf z5
    by_cases z6 : (1000000 : Int32) ≤ (v2 + v4)
    · have hf := hm_ifp hf z6
      exact (m_f_R_contract_260 hk95 hf)
    · have hf := hm_ifn hf z6
      obtain ⟨a7, ea7, hf⟩ := hm_bind hf
      obtain ⟨v8, ev8, hf⟩ := hm_bind hf
      by_cases z9 : v8 ≤ (v2 + v4)
      · have hf := hm_ifp hf z9
        exact (m_f_R_contract_260 hk95 hf)
      · have hf := hm_ifn hf z9
        obtain ⟨a10, ea10, hf⟩ := hm_bind hf
        obtain ⟨v11, ev11, hf⟩ := hm_bind hf
        obtain ⟨h12, eh12, hf⟩ := hm_bind hf
        have mh12 := hm_le.ist eh12
        obtain ⟨a13, ea13, hf⟩ := hm_bind hf
        obtain ⟨v14, ev14, hf⟩ := hm_bind hf
        obtain ⟨h15, eh15, hf⟩ := hm_bind hf
        have mh15 := hm_le.ist eh15
        obtain ⟨a16, ea16, hf⟩ := hm_bind hf
        obtain ⟨v17, ev17, hf⟩ := hm_bind hf
        obtain ⟨h18, eh18, hf⟩ := hm_bind hf
        have mh18 := hm_le.ist eh18
        obtain ⟨a19, ea19, hf⟩ := hm_bind hf
        obtain ⟨v20, ev20, hf⟩ := hm_bind hf
        obtain ⟨h21, eh21, hf⟩ := hm_bind hf
        have mh21 := hm_le.ist eh21
        obtain ⟨v22, ev22, hf⟩ := hm_bind hf
        obtain ⟨h23, eh23, hf⟩ := hm_bind hf
        have mh23 := hm_le.pi eh23
        exact mh12.tr (mh15.tr (mh18.tr (mh21.tr (mh23.tr ((m_f_R_contract_260 hk95 hf))))))
theorem m_f_R_contract_147 {F : Nat} {h h' : hm_T} {x0 : Nat} {x1 : Int32} {x2 : Int32} {x3 : Int32} {x4 : Int32} {x5 : Int32} {k95 : Nat → Int32 → Int32 → Int32 → Int32 → Int32 → hm_T → Option hm_T} (hk95 : ∀ (y0 : Nat) (y1 : Int32) (y2 : Int32) (y3 : Int32) (y4 : Int32) (y5 : Int32) (g : hm_T), k95 y0 y1 y2 y3 y4 y5 g = some h' → hm_le g h') (hf : f_R_contract_147 F k95 x0 x1 x2 x3 x4 x5 h = some h') : hm_le h h' := by
  unfold f_R_contract_147 at hf
  exact (m_f_R_contract_148 hk95 hf)
theorem m_g_R_contract_95 {F : Nat} {h h' : hm_T} {x0 : Nat} {x1 : Int32} {x2 : Int32} {x3 : Int32} {x4 : Int32} {x5 : Int32} {k83 : Nat → Int32 → Int32 → Int32 → Int32 → hm_T → Option hm_T} {k95 : Nat → Int32 → Int32 → Int32 → Int32 → Int32 → hm_T → Option hm_T} (hk83 : ∀ (y0 : Nat) (y1 : Int32) (y2 : Int32) (y3 : Int32) (y4 : Int32) (g : hm_T), k83 y0 y1 y2 y3 y4 g = some h' → hm_le g h') (hk95 : ∀ (y0 : Nat) (y1 : Int32) (y2 : Int32) (y3 : Int32) (y4 : Int32) (y5 : Int32) (g : hm_T), k95 y0 y1 y2 y3 y4 y5 g = some h' → hm_le g h') (hf : g_R_contract_95 F k83 k95 x0 x1 x2 x3 x4 x5 h = some h') : hm_le h h' := by
  unfold g_R_contract_95 at hf
  obtain ⟨v1, ev1, hf⟩ := hm_bind hf
  by_cases z2 : v1 ≤ x5
  · have hf := hm_ifp hf z2
    exact (m_f_R_contract_266 hk83 hf)
  · have hf := hm_ifn hf z2
    by_cases z3 : x4 = x2
    · have hf := hm_ifp hf z3
      exact (m_f_R_contract_147 hk95 hf)
    · have hf := hm_ifn hf z3
      by_cases z4 : x5 = x2
      · have hf := hm_ifp hf z4
        exact (m_f_R_contract_147 hk95 hf)
      · have hf := hm_ifn hf z4
        by_cases z5 : x4 = x5
        · have hf := hm_ifp hf z5
          exact (m_f_R_contract_147 hk95 hf)
        · have hf := hm_ifn hf z5
          obtain ⟨a6, ea6, hf⟩ := hm_bind hf
          obtain ⟨v7, ev7, hf⟩ := hm_bind hf
          by_cases z8 : v7 = 0
          · have hf := hm_ifp hf z8
            obtain ⟨a9, ea9, hf⟩ := hm_bind hf
            obtain ⟨v10, ev10, hf⟩ := hm_bind hf
            by_cases z11 : v10 = 0
            · have hf := hm_ifp hf z11
              exact (m_f_R_contract_148 hk95 hf)
            · have hf := hm_ifn hf z11
              exact (m_f_R_contract_147 hk95 hf)
          · have hf := hm_ifn hf z8
            exact (m_f_R_contract_147 hk95 hf)
theorem m_R_contract_95L {F : Nat} {h' : hm_T} {k83 : Nat → Int32 → Int32 → Int32 → Int32 → hm_T → Option hm_T} (hk83 : ∀ (y0 : Nat) (y1 : Int32) (y2 : Int32) (y3 : Int32) (y4 : Int32) (g : hm_T), k83 y0 y1 y2 y3 y4 g = some h' → hm_le g h') : ∀ (N : Nat) (x0 : Nat) (x1 : Int32) (x2 : Int32) (x3 : Int32) (x4 : Int32) (x5 : Int32) (h : hm_T), f_R_contract_95 F k83 N x0 x1 x2 x3 x4 x5 h = some h' → hm_le h h' := by
  intro N
  induction N with
  | zero => intro _ _ _ _ _ _ _ hf; cases hf
  | succ n ih => intro x0 x1 x2 x3 x4 x5 h hf; exact m_g_R_contract_95 hk83 ih hf
theorem m_g_R_contract_83 {F : Nat} {h h' : hm_T} {x0 : Nat} {x1 : Int32} {x2 : Int32} {x3 : Int32} {x4 : Int32} {k47 : Nat → Int32 → hm_T → Option hm_T} {k83 : Nat → Int32 → Int32 → Int32 → Int32 → hm_T → Option hm_T} (hk47 : ∀ (y0 : Nat) (y1 : Int32) (g : hm_T), k47 y0 y1 g = some h' → hm_le g h') (hk83 : ∀ (y0 : Nat) (y1 : Int32) (y2 : Int32) (y3 : Int32) (y4 : Int32) (g : hm_T), k83 y0 y1 y2 y3 y4 g = some h' → hm_le g h') (hf : g_R_contract_83 F k47 k83 x0 x1 x2 x3 x4 h = some h') : hm_le h h' := by
  unfold g_R_contract_83 at hf
  obtain ⟨v1, ev1, hf⟩ := hm_bind hf
  by_cases z2 : v1 ≤ x4
  · have hf := hm_ifp hf z2
    exact (m_f_R_contract_272 hk47 hf)
  · have hf := hm_ifn hf z2
    exact (m_R_contract_95L hk83 _ _ _ _ _ _ _ _ hf)
theorem m_R_contract_83L {F : Nat} {h' : hm_T} {k47 : Nat → Int32 → hm_T → Option hm_T} (hk47 : ∀ (y0 : Nat) (y1 : Int32) (g : hm_T), k47 y0 y1 g = some h' → hm_le g h') : ∀ (N : Nat) (x0 : Nat) (x1 : Int32) (x2 : Int32) (x3 : Int32) (x4 : Int32) (h : hm_T), f_R_contract_83 F k47 N x0 x1 x2 x3 x4 h = some h' → hm_le h h' := by
  intro N
  induction N with
  | zero => intro _ _ _ _ _ _ hf; cases hf
  | succ n ih => intro x0 x1 x2 x3 x4 h hf; exact m_g_R_contract_83 hk47 ih hf
theorem m_g_R_contract_47 {F : Nat} {h h' : hm_T} {x0 : Nat} {x1 : Int32} {k47 : Nat → Int32 → hm_T → Option hm_T} (hk47 : ∀ (y0 : Nat) (y1 : Int32) (g : hm_T), k47 y0 y1 g = some h' → hm_le g h') (hf : g_R_contract_47 F k47 x0 x1 h = some h') : hm_le h h' := by
  unfold g_R_contract_47 at hf
  by_cases z1 : x1 < 0
  · have hf := hm_ifp hf z1
    exact (m_f_R_contract_415 hf)
  · have hf := hm_ifn hf z1
    obtain ⟨a2, ea2, hf⟩ := hm_bind hf
    obtain ⟨v3, ev3, hf⟩ := hm_bind hf
    obtain ⟨a4, ea4, hf⟩ := hm_bind hf
    obtain ⟨a5, ea5, hf⟩ := hm_bind hf
    obtain ⟨a6, ea6, hf⟩ := hm_bind hf
    obtain ⟨u7, eu7, hf⟩ := hm_bind hf
    obtain ⟨h8, eh8, hf⟩ := hm_bind hf
    have mh8 := m_f_R_fill eh8
    obtain ⟨v9, ev9, hf⟩ := hm_bind hf
    exact mh8.tr ((m_R_contract_83L hk47 _ _ _ _ _ _ _ hf))
theorem m_R_contract_47L {F : Nat} {h' : hm_T} : ∀ (N : Nat) (x0 : Nat) (x1 : Int32) (h : hm_T), f_R_contract_47 F N x0 x1 h = some h' → hm_le h h' := by
  intro N
  induction N with
  | zero => intro _ _ _ hf; cases hf
  | succ n ih => intro x0 x1 h hf; exact m_g_R_contract_47 ih hf
theorem m_f_R_contract_40 {F : Nat} {h h' : hm_T} {x0 : Nat} (hf : f_R_contract_40 F x0 h = some h') : hm_le h h' := by
  unfold f_R_contract_40 at hf
  obtain ⟨v1, ev1, hf⟩ := hm_bind hf
  exact (m_R_contract_47L _ _ _ _ hf)
theorem m_g_R_contract_7 {F : Nat} {h h' : hm_T} {x0 : Nat} {x1 : Int32} {k7 : Nat → Int32 → hm_T → Option hm_T} (hk7 : ∀ (y0 : Nat) (y1 : Int32) (g : hm_T), k7 y0 y1 g = some h' → hm_le g h') (hf : g_R_contract_7 F k7 x0 x1 h = some h') : hm_le h h' := by
  unfold g_R_contract_7 at hf
  by_cases z1 : (256 : Int32) ≤ x1
  · have hf := hm_ifp hf z1
    exact (m_f_R_contract_40 hf)
  · have hf := hm_ifn hf z1
    obtain ⟨a2, ea2, hf⟩ := hm_bind hf
    obtain ⟨a3, ea3, hf⟩ := hm_bind hf
    obtain ⟨v4, ev4, hf⟩ := hm_bind hf
    obtain ⟨h5, eh5, hf⟩ := hm_bind hf
    have mh5 := hm_le.ist eh5
    obtain ⟨a6, ea6, hf⟩ := hm_bind hf
    obtain ⟨h7, eh7, hf⟩ := hm_bind hf
    have mh7 := hm_le.ist eh7
    exact mh5.tr (mh7.tr ((hk7 _ _ _ hf)))
theorem m_R_contract_7L {F : Nat} {h' : hm_T} : ∀ (N : Nat) (x0 : Nat) (x1 : Int32) (h : hm_T), f_R_contract_7 F N x0 x1 h = some h' → hm_le h h' := by
  intro N
  induction N with
  | zero => intro _ _ _ hf; cases hf
  | succ n ih => intro x0 x1 h hf; exact m_g_R_contract_7 ih hf
theorem m_f_R_contract {F : Nat} {h h' : hm_T} {x0 : Nat} (hf : f_R_contract F x0 h = some h') : hm_le h h' := by
  unfold f_R_contract at hf
  obtain ⟨h1, eh1, hf⟩ := hm_bind hf
  have mh1 := hm_le.pi eh1
  exact mh1.tr ((m_R_contract_7L _ _ _ _ hf))
set_option maxRecDepth 20000 in
set_option maxHeartbeats 1000000 in
theorem w_f_R_contract_415 {p : Program} {l : Launch} {e : Env} {R : Room} {s : State} {m : MethodId} {args : Array Value} {below : List Frame} {meth : Method} {c : Code} {E : hm_E} {n0 s0 F : Nat} {h h' : hm_T} {x0 : Nat} (C : hm_C E prog_6_method_17_code 8 "DistanceLabelsModel" 1 28 n0 s0 (hm_n h') (hm_s h') p R s m args c) (hr : meth.sig.returnType = none) (hlk : meth.locks = false) (hf : f_R_contract_415 F x0 h = some h') : hm_G E 8 n0 s0 (hm_n h') (hm_s h') p l e R s m args below meth c (MQ below (hm_Qc E none h') args s (hm_n h' - n0) (hm_s h' - s0) (fun q => E.2.2 ≤ q)) 415 [(0, .ref x0)] [] h := by
  unfold f_R_contract_415 at hf
  refine hm_aload_n C d_R_contract_415 rfl 0 rfl ?_
  obtain ⟨u1, eu1, hf⟩ := hm_bind hf
  obtain ⟨h2, eh2, hf⟩ := hm_bind hf
  refine hm_callV (vs := []) (st := []) (sb := []) C (c_R_climbAll eh2) Y_R_climbAll F_4 eu1 k_176 k_177 k_175 (by decide) (by decide) rfl (Nat.le_of_ble_eq_true rfl) d_R_contract_416 rfl rfl ?_
  exact hm_vret C hr hlk d_R_contract_419 hf
set_option maxRecDepth 20000 in
set_option maxHeartbeats 1000000 in
theorem w_f_R_contract_402 {p : Program} {l : Launch} {e : Env} {R : Room} {s : State} {m : MethodId} {args : Array Value} {below : List Frame} {meth : Method} {c : Code} {E : hm_E} {n0 s0 F : Nat} {h h' : hm_T} {x0 : Nat} {x1 : Int32} {x2 : Int32} {k47 : Nat → Int32 → hm_T → Option hm_T} (C : hm_C E prog_6_method_17_code 8 "DistanceLabelsModel" 1 28 n0 s0 (hm_n h') (hm_s h') p R s m args c) (hr : meth.sig.returnType = none) (hlk : meth.locks = false) (hk47 : ∀ (y0 : Nat) (y1 : Int32) (g : hm_T), k47 y0 y1 g = some h' → hm_G E 8 n0 s0 (hm_n h') (hm_s h') p l e R s m args below meth c (MQ below (hm_Qc E none h') args s (hm_n h' - n0) (hm_s h' - s0) (fun q => E.2.2 ≤ q)) 47 [(0, .ref y0), (1, .int y1)] [] g) (hf : f_R_contract_402 F k47 x0 x1 x2 h = some h') : hm_G E 8 n0 s0 (hm_n h') (hm_s h') p l e R s m args below meth c (MQ below (hm_Qc E none h') args s (hm_n h' - n0) (hm_s h' - s0) (fun q => E.2.2 ≤ q)) 402 [(0, .ref x0), (1, .int x1), (2, .int x2)] [] h := by
  unfold f_R_contract_402 at hf
  refine hm_aload_n C d_R_contract_402 rfl 0 rfl ?_
  obtain ⟨a1, ea1, hf⟩ := hm_bind hf
  refine hm_getR C F_4 11 (by decide) rfl k_147 d_R_contract_403 ea1 ?_
  refine hm_iload_n C d_R_contract_406 rfl 2 rfl ?_
  refine hm_iconst (v := (1 : Int32)) C d_R_contract_407 (by decide) ?_
  obtain ⟨h2, eh2, hf⟩ := hm_bind hf
  refine hm_bastore C d_R_contract_408 eh2 ?_
  refine hm_iinc (v := (x1 + (-1 : Int32))) (lv' := [(1, .int (x1 + (-1 : Int32))), (0, .ref x0), (2, .int x2)]) C d_R_contract_409 1 rfl rfl (by decide) rfl ?_
  refine hm_goto (tgt := 47) C d_R_contract_412 (by decide) ?_
  refine hm_sub (lv' := [(0, .ref x0), (1, .int (x1 + (-1 : Int32)))]) [1, 0] rfl ?_
  exact hk47 _ _ _ hf
set_option maxRecDepth 20000 in
set_option maxHeartbeats 1000000 in
theorem w_g_R_contract_357 {p : Program} {l : Launch} {e : Env} {R : Room} {s : State} {m : MethodId} {args : Array Value} {below : List Frame} {meth : Method} {c : Code} {E : hm_E} {n0 s0 F : Nat} {h h' : hm_T} {x0 : Nat} {x1 : Int32} {x2 : Int32} {x4 : Int32} {k47 : Nat → Int32 → hm_T → Option hm_T} {k357 : Nat → Int32 → Int32 → Int32 → hm_T → Option hm_T} (C : hm_C E prog_6_method_17_code 8 "DistanceLabelsModel" 1 28 n0 s0 (hm_n h') (hm_s h') p R s m args c) (hr : meth.sig.returnType = none) (hlk : meth.locks = false) (hk47 : ∀ (y0 : Nat) (y1 : Int32) (g : hm_T), k47 y0 y1 g = some h' → hm_G E 8 n0 s0 (hm_n h') (hm_s h') p l e R s m args below meth c (MQ below (hm_Qc E none h') args s (hm_n h' - n0) (hm_s h' - s0) (fun q => E.2.2 ≤ q)) 47 [(0, .ref y0), (1, .int y1)] [] g) (hk357 : ∀ (y0 : Nat) (y1 : Int32) (y2 : Int32) (y4 : Int32) (g : hm_T), k357 y0 y1 y2 y4 g = some h' → hm_G E 8 n0 s0 (hm_n h') (hm_s h') p l e R s m args below meth c (MQ below (hm_Qc E none h') args s (hm_n h' - n0) (hm_s h' - s0) (fun q => E.2.2 ≤ q)) 357 [(0, .ref y0), (1, .int y1), (2, .int y2), (4, .int y4)] [] g) (hf : g_R_contract_357 F k47 k357 x0 x1 x2 x4 h = some h') : hm_G E 8 n0 s0 (hm_n h') (hm_s h') p l e R s m args below meth c (MQ below (hm_Qc E none h') args s (hm_n h' - n0) (hm_s h' - s0) (fun q => E.2.2 ≤ q)) 357 [(0, .ref x0), (1, .int x1), (2, .int x2), (4, .int x4)] [] h := by
  unfold g_R_contract_357 at hf
  refine hm_iload C d_R_contract_357 3 rfl ?_
  refine hm_aload_n C d_R_contract_359 rfl 0 rfl ?_
  obtain ⟨v1, ev1, hf⟩ := hm_bind hf
  refine hm_getI C F_4 16 (by decide) rfl k_178 d_R_contract_360 ev1 ?_
  refine hm_icmp_ge (tgt := 402) C d_R_contract_363 (by decide) (fun z2 => ?_) (fun z2 => ?_)
  · have hf := hm_ifp hf z2
    refine hm_sub (lv' := [(0, .ref x0), (1, .int x1), (2, .int x2)]) [0, 1, 2] rfl ?_
    exact w_f_R_contract_402 C hr hlk hk47 hf
  · have hf := hm_ifn hf z2
    refine hm_aload_n C d_R_contract_366 rfl 0 rfl ?_
    obtain ⟨a3, ea3, hf⟩ := hm_bind hf
    refine hm_getR C F_4 12 (by decide) rfl k_148 d_R_contract_367 ea3 ?_
    refine hm_bipush (v := (16 : Int32)) C d_R_contract_370 (by decide) ?_
    refine hm_aload_n C d_R_contract_372 rfl 0 rfl ?_
    obtain ⟨a4, ea4, hf⟩ := hm_bind hf
    refine hm_getR C F_4 17 (by decide) rfl k_152 d_R_contract_373 ea4 ?_
    refine hm_iload C d_R_contract_376 3 rfl ?_
    obtain ⟨v5, ev5, hf⟩ := hm_bind hf
    refine hm_iaload C d_R_contract_378 ev5 ?_
    refine hm_imul C d_R_contract_379 ?_
    refine hm_aload_n C d_R_contract_380 rfl 0 rfl ?_
    obtain ⟨a6, ea6, hf⟩ := hm_bind hf
    refine hm_getR C F_4 18 (by decide) rfl k_153 d_R_contract_381 ea6 ?_
    refine hm_iload C d_R_contract_384 3 rfl ?_
    obtain ⟨v7, ev7, hf⟩ := hm_bind hf
    refine hm_iaload C d_R_contract_386 ev7 ?_
    refine hm_iadd C d_R_contract_387 ?_
    refine hm_aload_n C d_R_contract_388 rfl 0 rfl ?_
    obtain ⟨a8, ea8, hf⟩ := hm_bind hf
    refine hm_getR C F_4 19 (by decide) rfl k_154 d_R_contract_389 ea8 ?_
    refine hm_iload C d_R_contract_392 3 rfl ?_
    obtain ⟨v9, ev9, hf⟩ := hm_bind hf
    refine hm_iaload C d_R_contract_394 ev9 ?_
    obtain ⟨h10, eh10, hf⟩ := hm_bind hf
    refine hm_iastore C d_R_contract_395 eh10 ?_
    refine hm_iinc (v := (x4 + (1 : Int32))) (lv' := [(4, .int (x4 + (1 : Int32))), (0, .ref x0), (1, .int x1), (2, .int x2)]) C d_R_contract_396 3 rfl rfl (by decide) rfl ?_
    refine hm_goto (tgt := 357) C d_R_contract_399 (by decide) ?_
    refine hm_sub (lv' := [(0, .ref x0), (1, .int x1), (2, .int x2), (4, .int (x4 + (1 : Int32)))]) [1, 2, 3, 0] rfl ?_
    exact hk357 _ _ _ _ _ hf
theorem w_R_contract_357L {p : Program} {l : Launch} {e : Env} {R : Room} {s : State} {m : MethodId} {args : Array Value} {below : List Frame} {meth : Method} {c : Code} {E : hm_E} {n0 s0 F : Nat} {h' : hm_T} {k47 : Nat → Int32 → hm_T → Option hm_T} (C : hm_C E prog_6_method_17_code 8 "DistanceLabelsModel" 1 28 n0 s0 (hm_n h') (hm_s h') p R s m args c) (hr : meth.sig.returnType = none) (hlk : meth.locks = false) (hk47 : ∀ (y0 : Nat) (y1 : Int32) (g : hm_T), k47 y0 y1 g = some h' → hm_G E 8 n0 s0 (hm_n h') (hm_s h') p l e R s m args below meth c (MQ below (hm_Qc E none h') args s (hm_n h' - n0) (hm_s h' - s0) (fun q => E.2.2 ≤ q)) 47 [(0, .ref y0), (1, .int y1)] [] g) : ∀ (N : Nat) (x0 : Nat) (x1 : Int32) (x2 : Int32) (x4 : Int32) (h : hm_T), f_R_contract_357 F k47 N x0 x1 x2 x4 h = some h' → hm_G E 8 n0 s0 (hm_n h') (hm_s h') p l e R s m args below meth c (MQ below (hm_Qc E none h') args s (hm_n h' - n0) (hm_s h' - s0) (fun q => E.2.2 ≤ q)) 357 [(0, .ref x0), (1, .int x1), (2, .int x2), (4, .int x4)] [] h := by
  intro N
  induction N with
  | zero => intro _ _ _ _ _ hf; cases hf
  | succ n ih => intro x0 x1 x2 x4 h hf; exact w_g_R_contract_357 C hr hlk hk47 ih hf
set_option maxRecDepth 20000 in
set_option maxHeartbeats 1000000 in
theorem w_f_R_contract_354 {p : Program} {l : Launch} {e : Env} {R : Room} {s : State} {m : MethodId} {args : Array Value} {below : List Frame} {meth : Method} {c : Code} {E : hm_E} {n0 s0 F : Nat} {h h' : hm_T} {x0 : Nat} {x1 : Int32} {x2 : Int32} {x3 : Int32} {k47 : Nat → Int32 → hm_T → Option hm_T} (C : hm_C E prog_6_method_17_code 8 "DistanceLabelsModel" 1 28 n0 s0 (hm_n h') (hm_s h') p R s m args c) (hr : meth.sig.returnType = none) (hlk : meth.locks = false) (hk47 : ∀ (y0 : Nat) (y1 : Int32) (g : hm_T), k47 y0 y1 g = some h' → hm_G E 8 n0 s0 (hm_n h') (hm_s h') p l e R s m args below meth c (MQ below (hm_Qc E none h') args s (hm_n h' - n0) (hm_s h' - s0) (fun q => E.2.2 ≤ q)) 47 [(0, .ref y0), (1, .int y1)] [] g) (hf : f_R_contract_354 F k47 x0 x1 x2 x3 h = some h') : hm_G E 8 n0 s0 (hm_n h') (hm_s h') p l e R s m args below meth c (MQ below (hm_Qc E none h') args s (hm_n h' - n0) (hm_s h' - s0) (fun q => E.2.2 ≤ q)) 354 [(0, .ref x0), (1, .int x1), (2, .int x2), (3, .int x3)] [] h := by
  unfold f_R_contract_354 at hf
  refine hm_iload_n C d_R_contract_354 rfl 3 rfl ?_
  refine hm_istore (lv' := [(4, .int x3), (0, .ref x0), (1, .int x1), (2, .int x2), (3, .int x3)]) C d_R_contract_355 (by decide) rfl ?_
  refine hm_sub (lv' := [(0, .ref x0), (1, .int x1), (2, .int x2), (4, .int x3)]) [1, 2, 3, 0] rfl ?_
  exact w_R_contract_357L C hr hlk hk47 _ _ _ _ _ _ hf
set_option maxRecDepth 20000 in
set_option maxHeartbeats 1000000 in
theorem w_f_R_contract_348 {p : Program} {l : Launch} {e : Env} {R : Room} {s : State} {m : MethodId} {args : Array Value} {below : List Frame} {meth : Method} {c : Code} {E : hm_E} {n0 s0 F : Nat} {h h' : hm_T} {x0 : Nat} {x1 : Int32} {x2 : Int32} {x3 : Int32} {x4 : Int32} {k275 : Nat → Int32 → Int32 → Int32 → Int32 → hm_T → Option hm_T} (C : hm_C E prog_6_method_17_code 8 "DistanceLabelsModel" 1 28 n0 s0 (hm_n h') (hm_s h') p R s m args c) (hr : meth.sig.returnType = none) (hlk : meth.locks = false) (hk275 : ∀ (y0 : Nat) (y1 : Int32) (y2 : Int32) (y3 : Int32) (y4 : Int32) (g : hm_T), k275 y0 y1 y2 y3 y4 g = some h' → hm_G E 8 n0 s0 (hm_n h') (hm_s h') p l e R s m args below meth c (MQ below (hm_Qc E none h') args s (hm_n h' - n0) (hm_s h' - s0) (fun q => E.2.2 ≤ q)) 275 [(0, .ref y0), (1, .int y1), (2, .int y2), (3, .int y3), (4, .int y4)] [] g) (hf : f_R_contract_348 F k275 x0 x1 x2 x3 x4 h = some h') : hm_G E 8 n0 s0 (hm_n h') (hm_s h') p l e R s m args below meth c (MQ below (hm_Qc E none h') args s (hm_n h' - n0) (hm_s h' - s0) (fun q => E.2.2 ≤ q)) 348 [(0, .ref x0), (1, .int x1), (2, .int x2), (3, .int x3), (4, .int x4)] [] h := by
  unfold f_R_contract_348 at hf
  refine hm_iinc (v := (x4 + (1 : Int32))) (lv' := [(4, .int (x4 + (1 : Int32))), (0, .ref x0), (1, .int x1), (2, .int x2), (3, .int x3)]) C d_R_contract_348 4 rfl rfl (by decide) rfl ?_
  refine hm_goto (tgt := 275) C d_R_contract_351 (by decide) ?_
  refine hm_sub (lv' := [(0, .ref x0), (1, .int x1), (2, .int x2), (3, .int x3), (4, .int (x4 + (1 : Int32)))]) [1, 2, 3, 4, 0] rfl ?_
  exact hk275 _ _ _ _ _ _ hf
set_option maxRecDepth 20000 in
set_option maxHeartbeats 1000000 in
theorem w_g_R_contract_275 {p : Program} {l : Launch} {e : Env} {R : Room} {s : State} {m : MethodId} {args : Array Value} {below : List Frame} {meth : Method} {c : Code} {E : hm_E} {n0 s0 F : Nat} {h h' : hm_T} {x0 : Nat} {x1 : Int32} {x2 : Int32} {x3 : Int32} {x4 : Int32} {k47 : Nat → Int32 → hm_T → Option hm_T} {k275 : Nat → Int32 → Int32 → Int32 → Int32 → hm_T → Option hm_T} (C : hm_C E prog_6_method_17_code 8 "DistanceLabelsModel" 1 28 n0 s0 (hm_n h') (hm_s h') p R s m args c) (hr : meth.sig.returnType = none) (hlk : meth.locks = false) (hk47 : ∀ (y0 : Nat) (y1 : Int32) (g : hm_T), k47 y0 y1 g = some h' → hm_G E 8 n0 s0 (hm_n h') (hm_s h') p l e R s m args below meth c (MQ below (hm_Qc E none h') args s (hm_n h' - n0) (hm_s h' - s0) (fun q => E.2.2 ≤ q)) 47 [(0, .ref y0), (1, .int y1)] [] g) (hk275 : ∀ (y0 : Nat) (y1 : Int32) (y2 : Int32) (y3 : Int32) (y4 : Int32) (g : hm_T), k275 y0 y1 y2 y3 y4 g = some h' → hm_G E 8 n0 s0 (hm_n h') (hm_s h') p l e R s m args below meth c (MQ below (hm_Qc E none h') args s (hm_n h' - n0) (hm_s h' - s0) (fun q => E.2.2 ≤ q)) 275 [(0, .ref y0), (1, .int y1), (2, .int y2), (3, .int y3), (4, .int y4)] [] g) (hf : g_R_contract_275 F k47 k275 x0 x1 x2 x3 x4 h = some h') : hm_G E 8 n0 s0 (hm_n h') (hm_s h') p l e R s m args below meth c (MQ below (hm_Qc E none h') args s (hm_n h' - n0) (hm_s h' - s0) (fun q => E.2.2 ≤ q)) 275 [(0, .ref x0), (1, .int x1), (2, .int x2), (3, .int x3), (4, .int x4)] [] h := by
  unfold g_R_contract_275 at hf
  refine hm_iload C d_R_contract_275 4 rfl ?_
  refine hm_aload_n C d_R_contract_277 rfl 0 rfl ?_
  obtain ⟨v1, ev1, hf⟩ := hm_bind hf
  refine hm_getI C F_4 1 (by decide) rfl k_159 d_R_contract_278 ev1 ?_
  refine hm_icmp_ge (tgt := 354) C d_R_contract_281 (by decide) (fun z2 => ?_) (fun z2 => ?_)
  · have hf := hm_ifp hf z2
    refine hm_sub (lv' := [(0, .ref x0), (1, .int x1), (2, .int x2), (3, .int x3)]) [0, 1, 2, 3] rfl ?_
    exact w_f_R_contract_354 C hr hlk hk47 hf
  · have hf := hm_ifn hf z2
    refine hm_aload_n C d_R_contract_284 rfl 0 rfl ?_
    obtain ⟨a3, ea3, hf⟩ := hm_bind hf
    refine hm_getR C F_4 11 (by decide) rfl k_147 d_R_contract_285 ea3 ?_
    refine hm_iload C d_R_contract_288 4 rfl ?_
    obtain ⟨v4, ev4, hf⟩ := hm_bind hf
    refine hm_baload C d_R_contract_290 ev4 ?_
    refine hm_if_ne (tgt := 348) C d_R_contract_291 (by decide) (fun z5 => ?_) (fun z5 => ?_)
    · have hf := hm_ifn hf z5
      exact w_f_R_contract_348 C hr hlk hk275 hf
    · have hf := hm_ifp hf z5
      refine hm_iload C d_R_contract_294 4 rfl ?_
      refine hm_iload_n C d_R_contract_296 rfl 2 rfl ?_
      refine hm_icmp_eq (tgt := 348) C d_R_contract_297 (by decide) (fun z6 => ?_) (fun z6 => ?_)
      · have hf := hm_ifp hf z6
        exact w_f_R_contract_348 C hr hlk hk275 hf
      · have hf := hm_ifn hf z6
        refine hm_aload_n C d_R_contract_300 rfl 0 rfl ?_
        obtain ⟨a7, ea7, hf⟩ := hm_bind hf
        refine hm_getR C F_4 14 (by decide) rfl k_150 d_R_contract_301 ea7 ?_
        refine hm_bipush (v := (16 : Int32)) C d_R_contract_304 (by decide) ?_
        refine hm_iload C d_R_contract_306 4 rfl ?_
        refine hm_imul C d_R_contract_308 ?_
        refine hm_iload_n C d_R_contract_309 rfl 2 rfl ?_
        refine hm_iadd C d_R_contract_310 ?_
        refine hm_aload_n C d_R_contract_311 rfl 0 rfl ?_
        obtain ⟨a8, ea8, hf⟩ := hm_bind hf
        refine hm_getR C F_4 12 (by decide) rfl k_148 d_R_contract_312 ea8 ?_
        refine hm_bipush (v := (16 : Int32)) C d_R_contract_315 (by decide) ?_
        refine hm_iload C d_R_contract_317 4 rfl ?_
        refine hm_imul C d_R_contract_319 ?_
        refine hm_iload_n C d_R_contract_320 rfl 2 rfl ?_
        refine hm_iadd C d_R_contract_321 ?_
        obtain ⟨v9, ev9, hf⟩ := hm_bind hf
        refine hm_iaload C d_R_contract_322 ev9 ?_
        obtain ⟨h10, eh10, hf⟩ := hm_bind hf
        refine hm_iastore C d_R_contract_323 eh10 ?_
        refine hm_aload_n C d_R_contract_324 rfl 0 rfl ?_
        obtain ⟨a11, ea11, hf⟩ := hm_bind hf
        refine hm_getR C F_4 14 (by decide) rfl k_150 d_R_contract_325 ea11 ?_
        refine hm_bipush (v := (16 : Int32)) C d_R_contract_328 (by decide) ?_
        refine hm_iload_n C d_R_contract_330 rfl 2 rfl ?_
        refine hm_imul C d_R_contract_331 ?_
        refine hm_iload C d_R_contract_332 4 rfl ?_
        refine hm_iadd C d_R_contract_334 ?_
        refine hm_aload_n C d_R_contract_335 rfl 0 rfl ?_
        obtain ⟨a12, ea12, hf⟩ := hm_bind hf
        refine hm_getR C F_4 12 (by decide) rfl k_148 d_R_contract_336 ea12 ?_
        refine hm_bipush (v := (16 : Int32)) C d_R_contract_339 (by decide) ?_
        refine hm_iload_n C d_R_contract_341 rfl 2 rfl ?_
        refine hm_imul C d_R_contract_342 ?_
        refine hm_iload C d_R_contract_343 4 rfl ?_
        refine hm_iadd C d_R_contract_345 ?_
        obtain ⟨v13, ev13, hf⟩ := hm_bind hf
        refine hm_iaload C d_R_contract_346 ev13 ?_
        obtain ⟨h14, eh14, hf⟩ := hm_bind hf
        refine hm_iastore C d_R_contract_347 eh14 ?_
        exact w_f_R_contract_348 C hr hlk hk275 hf
theorem w_R_contract_275L {p : Program} {l : Launch} {e : Env} {R : Room} {s : State} {m : MethodId} {args : Array Value} {below : List Frame} {meth : Method} {c : Code} {E : hm_E} {n0 s0 F : Nat} {h' : hm_T} {k47 : Nat → Int32 → hm_T → Option hm_T} (C : hm_C E prog_6_method_17_code 8 "DistanceLabelsModel" 1 28 n0 s0 (hm_n h') (hm_s h') p R s m args c) (hr : meth.sig.returnType = none) (hlk : meth.locks = false) (hk47 : ∀ (y0 : Nat) (y1 : Int32) (g : hm_T), k47 y0 y1 g = some h' → hm_G E 8 n0 s0 (hm_n h') (hm_s h') p l e R s m args below meth c (MQ below (hm_Qc E none h') args s (hm_n h' - n0) (hm_s h' - s0) (fun q => E.2.2 ≤ q)) 47 [(0, .ref y0), (1, .int y1)] [] g) : ∀ (N : Nat) (x0 : Nat) (x1 : Int32) (x2 : Int32) (x3 : Int32) (x4 : Int32) (h : hm_T), f_R_contract_275 F k47 N x0 x1 x2 x3 x4 h = some h' → hm_G E 8 n0 s0 (hm_n h') (hm_s h') p l e R s m args below meth c (MQ below (hm_Qc E none h') args s (hm_n h' - n0) (hm_s h' - s0) (fun q => E.2.2 ≤ q)) 275 [(0, .ref x0), (1, .int x1), (2, .int x2), (3, .int x3), (4, .int x4)] [] h := by
  intro N
  induction N with
  | zero => intro _ _ _ _ _ _ hf; cases hf
  | succ n ih => intro x0 x1 x2 x3 x4 h hf; exact w_g_R_contract_275 C hr hlk hk47 ih hf
set_option maxRecDepth 20000 in
set_option maxHeartbeats 1000000 in
theorem w_f_R_contract_272 {p : Program} {l : Launch} {e : Env} {R : Room} {s : State} {m : MethodId} {args : Array Value} {below : List Frame} {meth : Method} {c : Code} {E : hm_E} {n0 s0 F : Nat} {h h' : hm_T} {x0 : Nat} {x1 : Int32} {x2 : Int32} {x3 : Int32} {k47 : Nat → Int32 → hm_T → Option hm_T} (C : hm_C E prog_6_method_17_code 8 "DistanceLabelsModel" 1 28 n0 s0 (hm_n h') (hm_s h') p R s m args c) (hr : meth.sig.returnType = none) (hlk : meth.locks = false) (hk47 : ∀ (y0 : Nat) (y1 : Int32) (g : hm_T), k47 y0 y1 g = some h' → hm_G E 8 n0 s0 (hm_n h') (hm_s h') p l e R s m args below meth c (MQ below (hm_Qc E none h') args s (hm_n h' - n0) (hm_s h' - s0) (fun q => E.2.2 ≤ q)) 47 [(0, .ref y0), (1, .int y1)] [] g) (hf : f_R_contract_272 F k47 x0 x1 x2 x3 h = some h') : hm_G E 8 n0 s0 (hm_n h') (hm_s h') p l e R s m args below meth c (MQ below (hm_Qc E none h') args s (hm_n h' - n0) (hm_s h' - s0) (fun q => E.2.2 ≤ q)) 272 [(0, .ref x0), (1, .int x1), (2, .int x2), (3, .int x3)] [] h := by
  unfold f_R_contract_272 at hf
  refine hm_iconst (v := (0 : Int32)) C d_R_contract_272 (by decide) ?_
  refine hm_istore (lv' := [(4, .int (0 : Int32)), (0, .ref x0), (1, .int x1), (2, .int x2), (3, .int x3)]) C d_R_contract_273 (by decide) rfl ?_
  refine hm_sub (lv' := [(0, .ref x0), (1, .int x1), (2, .int x2), (3, .int x3), (4, .int (0 : Int32))]) [1, 2, 3, 4, 0] rfl ?_
  exact w_R_contract_275L C hr hlk hk47 _ _ _ _ _ _ _ hf
set_option maxRecDepth 20000 in
set_option maxHeartbeats 1000000 in
theorem w_f_R_contract_266 {p : Program} {l : Launch} {e : Env} {R : Room} {s : State} {m : MethodId} {args : Array Value} {below : List Frame} {meth : Method} {c : Code} {E : hm_E} {n0 s0 F : Nat} {h h' : hm_T} {x0 : Nat} {x1 : Int32} {x2 : Int32} {x3 : Int32} {x4 : Int32} {k83 : Nat → Int32 → Int32 → Int32 → Int32 → hm_T → Option hm_T} (C : hm_C E prog_6_method_17_code 8 "DistanceLabelsModel" 1 28 n0 s0 (hm_n h') (hm_s h') p R s m args c) (hr : meth.sig.returnType = none) (hlk : meth.locks = false) (hk83 : ∀ (y0 : Nat) (y1 : Int32) (y2 : Int32) (y3 : Int32) (y4 : Int32) (g : hm_T), k83 y0 y1 y2 y3 y4 g = some h' → hm_G E 8 n0 s0 (hm_n h') (hm_s h') p l e R s m args below meth c (MQ below (hm_Qc E none h') args s (hm_n h' - n0) (hm_s h' - s0) (fun q => E.2.2 ≤ q)) 83 [(0, .ref y0), (1, .int y1), (2, .int y2), (3, .int y3), (4, .int y4)] [] g) (hf : f_R_contract_266 F k83 x0 x1 x2 x3 x4 h = some h') : hm_G E 8 n0 s0 (hm_n h') (hm_s h') p l e R s m args below meth c (MQ below (hm_Qc E none h') args s (hm_n h' - n0) (hm_s h' - s0) (fun q => E.2.2 ≤ q)) 266 [(0, .ref x0), (1, .int x1), (2, .int x2), (3, .int x3), (4, .int x4)] [] h := by
  unfold f_R_contract_266 at hf
  refine hm_iinc (v := (x4 + (1 : Int32))) (lv' := [(4, .int (x4 + (1 : Int32))), (0, .ref x0), (1, .int x1), (2, .int x2), (3, .int x3)]) C d_R_contract_266 4 rfl rfl (by decide) rfl ?_
  refine hm_goto (tgt := 83) C d_R_contract_269 (by decide) ?_
  refine hm_sub (lv' := [(0, .ref x0), (1, .int x1), (2, .int x2), (3, .int x3), (4, .int (x4 + (1 : Int32)))]) [1, 2, 3, 4, 0] rfl ?_
  exact hk83 _ _ _ _ _ _ hf
set_option maxRecDepth 20000 in
set_option maxHeartbeats 1000000 in
theorem w_f_R_contract_260 {p : Program} {l : Launch} {e : Env} {R : Room} {s : State} {m : MethodId} {args : Array Value} {below : List Frame} {meth : Method} {c : Code} {E : hm_E} {n0 s0 F : Nat} {h h' : hm_T} {x0 : Nat} {x1 : Int32} {x2 : Int32} {x3 : Int32} {x4 : Int32} {x5 : Int32} {k95 : Nat → Int32 → Int32 → Int32 → Int32 → Int32 → hm_T → Option hm_T} (C : hm_C E prog_6_method_17_code 8 "DistanceLabelsModel" 1 28 n0 s0 (hm_n h') (hm_s h') p R s m args c) (hr : meth.sig.returnType = none) (hlk : meth.locks = false) (hk95 : ∀ (y0 : Nat) (y1 : Int32) (y2 : Int32) (y3 : Int32) (y4 : Int32) (y5 : Int32) (g : hm_T), k95 y0 y1 y2 y3 y4 y5 g = some h' → hm_G E 8 n0 s0 (hm_n h') (hm_s h') p l e R s m args below meth c (MQ below (hm_Qc E none h') args s (hm_n h' - n0) (hm_s h' - s0) (fun q => E.2.2 ≤ q)) 95 [(0, .ref y0), (1, .int y1), (2, .int y2), (3, .int y3), (4, .int y4), (5, .int y5)] [] g) (hf : f_R_contract_260 F k95 x0 x1 x2 x3 x4 x5 h = some h') : hm_G E 8 n0 s0 (hm_n h') (hm_s h') p l e R s m args below meth c (MQ below (hm_Qc E none h') args s (hm_n h' - n0) (hm_s h' - s0) (fun q => E.2.2 ≤ q)) 260 [(0, .ref x0), (1, .int x1), (2, .int x2), (3, .int x3), (4, .int x4), (5, .int x5)] [] h := by
  unfold f_R_contract_260 at hf
  refine hm_iinc (v := (x5 + (1 : Int32))) (lv' := [(5, .int (x5 + (1 : Int32))), (0, .ref x0), (1, .int x1), (2, .int x2), (3, .int x3), (4, .int x4)]) C d_R_contract_260 5 rfl rfl (by decide) rfl ?_
  refine hm_goto (tgt := 95) C d_R_contract_263 (by decide) ?_
  refine hm_sub (lv' := [(0, .ref x0), (1, .int x1), (2, .int x2), (3, .int x3), (4, .int x4), (5, .int (x5 + (1 : Int32)))]) [1, 2, 3, 4, 5, 0] rfl ?_
  exact hk95 _ _ _ _ _ _ _ hf
set_option maxRecDepth 20000 in
set_option maxHeartbeats 1000000 in
theorem w_f_R_contract_148 {p : Program} {l : Launch} {e : Env} {R : Room} {s : State} {m : MethodId} {args : Array Value} {below : List Frame} {meth : Method} {c : Code} {E : hm_E} {n0 s0 F : Nat} {h h' : hm_T} {x0 : Nat} {x1 : Int32} {x2 : Int32} {x3 : Int32} {x4 : Int32} {x5 : Int32} {t0 : Int32} {k95 : Nat → Int32 → Int32 → Int32 → Int32 → Int32 → hm_T → Option hm_T} (C : hm_C E prog_6_method_17_code 8 "DistanceLabelsModel" 1 28 n0 s0 (hm_n h') (hm_s h') p R s m args c) (hr : meth.sig.returnType = none) (hlk : meth.locks = false) (hk95 : ∀ (y0 : Nat) (y1 : Int32) (y2 : Int32) (y3 : Int32) (y4 : Int32) (y5 : Int32) (g : hm_T), k95 y0 y1 y2 y3 y4 y5 g = some h' → hm_G E 8 n0 s0 (hm_n h') (hm_s h') p l e R s m args below meth c (MQ below (hm_Qc E none h') args s (hm_n h' - n0) (hm_s h' - s0) (fun q => E.2.2 ≤ q)) 95 [(0, .ref y0), (1, .int y1), (2, .int y2), (3, .int y3), (4, .int y4), (5, .int y5)] [] g) (hf : f_R_contract_148 F k95 x0 x1 x2 x3 x4 x5 t0 h = some h') : hm_G E 8 n0 s0 (hm_n h') (hm_s h') p l e R s m args below meth c (MQ below (hm_Qc E none h') args s (hm_n h' - n0) (hm_s h' - s0) (fun q => E.2.2 ≤ q)) 148 [(0, .ref x0), (1, .int x1), (2, .int x2), (3, .int x3), (4, .int x4), (5, .int x5)] [.int t0] h := by
  unfold f_R_contract_148 at hf
  refine hm_istore (lv' := [(6, .int t0), (0, .ref x0), (1, .int x1), (2, .int x2), (3, .int x3), (4, .int x4), (5, .int x5)]) C d_R_contract_148 (by decide) rfl ?_
  refine hm_aload_n C d_R_contract_150 rfl 1 rfl ?_
  obtain ⟨a1, ea1, hf⟩ := hm_bind hf
  refine hm_getR C F_4 12 (by decide) rfl k_148 d_R_contract_151 ea1 ?_
  refine hm_bipush (v := (16 : Int32)) C d_R_contract_154 (by decide) ?_
  refine hm_iload C d_R_contract_156 5 rfl ?_
  refine hm_imul C d_R_contract_158 ?_
  refine hm_iload_n C d_R_contract_159 rfl 3 rfl ?_
  refine hm_iadd C d_R_contract_160 ?_
  obtain ⟨v2, ev2, hf⟩ := hm_bind hf
  refine hm_iaload C d_R_contract_161 ev2 ?_
  refine hm_aload_n C d_R_contract_162 rfl 1 rfl ?_
  obtain ⟨a3, ea3, hf⟩ := hm_bind hf
  refine hm_getR C F_4 12 (by decide) rfl k_148 d_R_contract_163 ea3 ?_
  refine hm_bipush (v := (16 : Int32)) C d_R_contract_166 (by decide) ?_
  refine hm_iload_n C d_R_contract_168 rfl 3 rfl ?_
  refine hm_imul C d_R_contract_169 ?_
  refine hm_iload C d_R_contract_170 6 rfl ?_
  refine hm_iadd C d_R_contract_172 ?_
  obtain ⟨v4, ev4, hf⟩ := hm_bind hf
  refine hm_iaload C d_R_contract_173 ev4 ?_
  refine hm_iadd C d_R_contract_174 ?_
  refine hm_istore (lv' := [(7, .int (v2 + v4)), (6, .int t0), (0, .ref x0), (1, .int x1), (2, .int x2), (3, .int x3), (4, .int x4), (5, .int x5)]) C d_R_contract_175 (by decide) rfl ?_
  refine hm_iload C d_R_contract_177 1 rfl ?_
  refine hm_if_eq (tgt := 260) C d_R_contract_179 (by decide) (fun z5 => ?_) (fun z5 => ?_)
  · have hf := hm_ifp hf z5
    refine hm_sub (lv' := [(0, .ref x0), (1, .int x1), (2, .int x2), (3, .int x3), (4, .int x4), (5, .int x5)]) [2, 3, 4, 5, 6, 7] rfl ?_
    exact w_f_R_contract_260 C hr hlk hk95 hf
  · have hf := hm_ifn hf z5
    refine hm_iload C d_R_contract_182 0 rfl ?_
    refine hm_ldc (v := (1000000 : Int32)) C k_139 d_R_contract_184 ?_
    refine hm_icmp_ge (tgt := 260) C d_R_contract_186 (by decide) (fun z6 => ?_) (fun z6 => ?_)
    · have hf := hm_ifp hf z6
      refine hm_sub (lv' := [(0, .ref x0), (1, .int x1), (2, .int x2), (3, .int x3), (4, .int x4), (5, .int x5)]) [2, 3, 4, 5, 6, 7] rfl ?_
      exact w_f_R_contract_260 C hr hlk hk95 hf
    · have hf := hm_ifn hf z6
      refine hm_aload_n C d_R_contract_189 rfl 2 rfl ?_
      obtain ⟨a7, ea7, hf⟩ := hm_bind hf
      refine hm_getR C F_4 13 (by decide) rfl k_149 d_R_contract_190 ea7 ?_
      refine hm_bipush (v := (16 : Int32)) C d_R_contract_193 (by decide) ?_
      refine hm_iload C d_R_contract_195 6 rfl ?_
      refine hm_imul C d_R_contract_197 ?_
      refine hm_iload C d_R_contract_198 7 rfl ?_
      refine hm_iadd C d_R_contract_200 ?_
      obtain ⟨v8, ev8, hf⟩ := hm_bind hf
      refine hm_iaload C d_R_contract_201 ev8 ?_
      refine hm_iload C d_R_contract_202 0 rfl ?_
      refine hm_icmp_le (tgt := 260) C d_R_contract_204 (by decide) (fun z9 => ?_) (fun z9 => ?_)
      · have hf := hm_ifp hf z9
        refine hm_sub (lv' := [(0, .ref x0), (1, .int x1), (2, .int x2), (3, .int x3), (4, .int x4), (5, .int x5)]) [2, 3, 4, 5, 6, 7] rfl ?_
        exact w_f_R_contract_260 C hr hlk hk95 hf
      · have hf := hm_ifn hf z9
        refine hm_aload_n C d_R_contract_207 rfl 2 rfl ?_
        obtain ⟨a10, ea10, hf⟩ := hm_bind hf
        refine hm_getR C F_4 17 (by decide) rfl k_152 d_R_contract_208 ea10 ?_
        refine hm_aload_n C d_R_contract_211 rfl 2 rfl ?_
        obtain ⟨v11, ev11, hf⟩ := hm_bind hf
        refine hm_getI C F_4 16 (by decide) rfl k_178 d_R_contract_212 ev11 ?_
        refine hm_iload C d_R_contract_215 6 rfl ?_
        obtain ⟨h12, eh12, hf⟩ := hm_bind hf
        refine hm_iastore C d_R_contract_217 eh12 ?_
        refine hm_aload_n C d_R_contract_218 rfl 2 rfl ?_
        obtain ⟨a13, ea13, hf⟩ := hm_bind hf
        refine hm_getR C F_4 18 (by decide) rfl k_153 d_R_contract_219 ea13 ?_
        refine hm_aload_n C d_R_contract_222 rfl 2 rfl ?_
        obtain ⟨v14, ev14, hf⟩ := hm_bind hf
        refine hm_getI C F_4 16 (by decide) rfl k_178 d_R_contract_223 ev14 ?_
        refine hm_iload C d_R_contract_226 7 rfl ?_
        obtain ⟨h15, eh15, hf⟩ := hm_bind hf
        refine hm_iastore C d_R_contract_228 eh15 ?_
        refine hm_aload_n C d_R_contract_229 rfl 2 rfl ?_
        obtain ⟨a16, ea16, hf⟩ := hm_bind hf
        refine hm_getR C F_4 19 (by decide) rfl k_154 d_R_contract_230 ea16 ?_
        refine hm_aload_n C d_R_contract_233 rfl 2 rfl ?_
        obtain ⟨v17, ev17, hf⟩ := hm_bind hf
        refine hm_getI C F_4 16 (by decide) rfl k_178 d_R_contract_234 ev17 ?_
        refine hm_iload C d_R_contract_237 0 rfl ?_
        obtain ⟨h18, eh18, hf⟩ := hm_bind hf
        refine hm_iastore C d_R_contract_239 eh18 ?_
        refine hm_aload_n C d_R_contract_240 rfl 2 rfl ?_
        obtain ⟨a19, ea19, hf⟩ := hm_bind hf
        refine hm_getR C F_4 20 (by decide) rfl k_155 d_R_contract_241 ea19 ?_
        refine hm_aload_n C d_R_contract_244 rfl 2 rfl ?_
        obtain ⟨v20, ev20, hf⟩ := hm_bind hf
        refine hm_getI C F_4 16 (by decide) rfl k_178 d_R_contract_245 ev20 ?_
        refine hm_iload_n C d_R_contract_248 rfl 4 rfl ?_
        obtain ⟨h21, eh21, hf⟩ := hm_bind hf
        refine hm_iastore C d_R_contract_249 eh21 ?_
        refine hm_aload_n C d_R_contract_250 rfl 2 rfl ?_
        refine hm_dup C d_R_contract_251 rfl ?_
        obtain ⟨v22, ev22, hf⟩ := hm_bind hf
        refine hm_getI C F_4 16 (by decide) rfl k_178 d_R_contract_252 ev22 ?_
        refine hm_iconst (v := (1 : Int32)) C d_R_contract_255 (by decide) ?_
        refine hm_iadd C d_R_contract_256 ?_
        obtain ⟨h23, eh23, hf⟩ := hm_bind hf
        refine hm_putI C F_4 16 (by decide) rfl k_178 (Or.inl rfl) rfl d_R_contract_257 eh23 ?_
        refine hm_sub (lv' := [(0, .ref x0), (1, .int x1), (2, .int x2), (3, .int x3), (4, .int x4), (5, .int x5)]) [2, 3, 4, 5, 6, 7] rfl ?_
        exact w_f_R_contract_260 C hr hlk hk95 hf
set_option maxRecDepth 20000 in
set_option maxHeartbeats 1000000 in
theorem w_f_R_contract_147 {p : Program} {l : Launch} {e : Env} {R : Room} {s : State} {m : MethodId} {args : Array Value} {below : List Frame} {meth : Method} {c : Code} {E : hm_E} {n0 s0 F : Nat} {h h' : hm_T} {x0 : Nat} {x1 : Int32} {x2 : Int32} {x3 : Int32} {x4 : Int32} {x5 : Int32} {k95 : Nat → Int32 → Int32 → Int32 → Int32 → Int32 → hm_T → Option hm_T} (C : hm_C E prog_6_method_17_code 8 "DistanceLabelsModel" 1 28 n0 s0 (hm_n h') (hm_s h') p R s m args c) (hr : meth.sig.returnType = none) (hlk : meth.locks = false) (hk95 : ∀ (y0 : Nat) (y1 : Int32) (y2 : Int32) (y3 : Int32) (y4 : Int32) (y5 : Int32) (g : hm_T), k95 y0 y1 y2 y3 y4 y5 g = some h' → hm_G E 8 n0 s0 (hm_n h') (hm_s h') p l e R s m args below meth c (MQ below (hm_Qc E none h') args s (hm_n h' - n0) (hm_s h' - s0) (fun q => E.2.2 ≤ q)) 95 [(0, .ref y0), (1, .int y1), (2, .int y2), (3, .int y3), (4, .int y4), (5, .int y5)] [] g) (hf : f_R_contract_147 F k95 x0 x1 x2 x3 x4 x5 h = some h') : hm_G E 8 n0 s0 (hm_n h') (hm_s h') p l e R s m args below meth c (MQ below (hm_Qc E none h') args s (hm_n h' - n0) (hm_s h' - s0) (fun q => E.2.2 ≤ q)) 147 [(0, .ref x0), (1, .int x1), (2, .int x2), (3, .int x3), (4, .int x4), (5, .int x5)] [] h := by
  unfold f_R_contract_147 at hf
  refine hm_iconst (v := (0 : Int32)) C d_R_contract_147 (by decide) ?_
  exact w_f_R_contract_148 C hr hlk hk95 hf
set_option maxRecDepth 20000 in
set_option maxHeartbeats 1000000 in
theorem w_g_R_contract_95 {p : Program} {l : Launch} {e : Env} {R : Room} {s : State} {m : MethodId} {args : Array Value} {below : List Frame} {meth : Method} {c : Code} {E : hm_E} {n0 s0 F : Nat} {h h' : hm_T} {x0 : Nat} {x1 : Int32} {x2 : Int32} {x3 : Int32} {x4 : Int32} {x5 : Int32} {k83 : Nat → Int32 → Int32 → Int32 → Int32 → hm_T → Option hm_T} {k95 : Nat → Int32 → Int32 → Int32 → Int32 → Int32 → hm_T → Option hm_T} (C : hm_C E prog_6_method_17_code 8 "DistanceLabelsModel" 1 28 n0 s0 (hm_n h') (hm_s h') p R s m args c) (hr : meth.sig.returnType = none) (hlk : meth.locks = false) (hk83 : ∀ (y0 : Nat) (y1 : Int32) (y2 : Int32) (y3 : Int32) (y4 : Int32) (g : hm_T), k83 y0 y1 y2 y3 y4 g = some h' → hm_G E 8 n0 s0 (hm_n h') (hm_s h') p l e R s m args below meth c (MQ below (hm_Qc E none h') args s (hm_n h' - n0) (hm_s h' - s0) (fun q => E.2.2 ≤ q)) 83 [(0, .ref y0), (1, .int y1), (2, .int y2), (3, .int y3), (4, .int y4)] [] g) (hk95 : ∀ (y0 : Nat) (y1 : Int32) (y2 : Int32) (y3 : Int32) (y4 : Int32) (y5 : Int32) (g : hm_T), k95 y0 y1 y2 y3 y4 y5 g = some h' → hm_G E 8 n0 s0 (hm_n h') (hm_s h') p l e R s m args below meth c (MQ below (hm_Qc E none h') args s (hm_n h' - n0) (hm_s h' - s0) (fun q => E.2.2 ≤ q)) 95 [(0, .ref y0), (1, .int y1), (2, .int y2), (3, .int y3), (4, .int y4), (5, .int y5)] [] g) (hf : g_R_contract_95 F k83 k95 x0 x1 x2 x3 x4 x5 h = some h') : hm_G E 8 n0 s0 (hm_n h') (hm_s h') p l e R s m args below meth c (MQ below (hm_Qc E none h') args s (hm_n h' - n0) (hm_s h' - s0) (fun q => E.2.2 ≤ q)) 95 [(0, .ref x0), (1, .int x1), (2, .int x2), (3, .int x3), (4, .int x4), (5, .int x5)] [] h := by
  unfold g_R_contract_95 at hf
  refine hm_iload C d_R_contract_95 5 rfl ?_
  refine hm_aload_n C d_R_contract_97 rfl 0 rfl ?_
  obtain ⟨v1, ev1, hf⟩ := hm_bind hf
  refine hm_getI C F_4 1 (by decide) rfl k_159 d_R_contract_98 ev1 ?_
  refine hm_icmp_ge (tgt := 266) C d_R_contract_101 (by decide) (fun z2 => ?_) (fun z2 => ?_)
  · have hf := hm_ifp hf z2
    refine hm_sub (lv' := [(0, .ref x0), (1, .int x1), (2, .int x2), (3, .int x3), (4, .int x4)]) [0, 1, 2, 3, 4] rfl ?_
    exact w_f_R_contract_266 C hr hlk hk83 hf
  · have hf := hm_ifn hf z2
    refine hm_iload C d_R_contract_104 4 rfl ?_
    refine hm_iload_n C d_R_contract_106 rfl 2 rfl ?_
    refine hm_icmp_eq (tgt := 147) C d_R_contract_107 (by decide) (fun z3 => ?_) (fun z3 => ?_)
    · have hf := hm_ifp hf z3
      exact w_f_R_contract_147 C hr hlk hk95 hf
    · have hf := hm_ifn hf z3
      refine hm_iload C d_R_contract_110 5 rfl ?_
      refine hm_iload_n C d_R_contract_112 rfl 2 rfl ?_
      refine hm_icmp_eq (tgt := 147) C d_R_contract_113 (by decide) (fun z4 => ?_) (fun z4 => ?_)
      · have hf := hm_ifp hf z4
        exact w_f_R_contract_147 C hr hlk hk95 hf
      · have hf := hm_ifn hf z4
        refine hm_iload C d_R_contract_116 4 rfl ?_
        refine hm_iload C d_R_contract_118 5 rfl ?_
        refine hm_icmp_eq (tgt := 147) C d_R_contract_120 (by decide) (fun z5 => ?_) (fun z5 => ?_)
        · have hf := hm_ifp hf z5
          exact w_f_R_contract_147 C hr hlk hk95 hf
        · have hf := hm_ifn hf z5
          refine hm_aload_n C d_R_contract_123 rfl 0 rfl ?_
          obtain ⟨a6, ea6, hf⟩ := hm_bind hf
          refine hm_getR C F_4 11 (by decide) rfl k_147 d_R_contract_124 ea6 ?_
          refine hm_iload C d_R_contract_127 4 rfl ?_
          obtain ⟨v7, ev7, hf⟩ := hm_bind hf
          refine hm_baload C d_R_contract_129 ev7 ?_
          refine hm_if_ne (tgt := 147) C d_R_contract_130 (by decide) (fun z8 => ?_) (fun z8 => ?_)
          · have hf := hm_ifn hf z8
            exact w_f_R_contract_147 C hr hlk hk95 hf
          · have hf := hm_ifp hf z8
            refine hm_aload_n C d_R_contract_133 rfl 0 rfl ?_
            obtain ⟨a9, ea9, hf⟩ := hm_bind hf
            refine hm_getR C F_4 11 (by decide) rfl k_147 d_R_contract_134 ea9 ?_
            refine hm_iload C d_R_contract_137 5 rfl ?_
            obtain ⟨v10, ev10, hf⟩ := hm_bind hf
            refine hm_baload C d_R_contract_139 ev10 ?_
            refine hm_if_ne (tgt := 147) C d_R_contract_140 (by decide) (fun z11 => ?_) (fun z11 => ?_)
            · have hf := hm_ifn hf z11
              exact w_f_R_contract_147 C hr hlk hk95 hf
            · have hf := hm_ifp hf z11
              refine hm_iconst (v := (1 : Int32)) C d_R_contract_143 (by decide) ?_
              refine hm_goto (tgt := 148) C d_R_contract_144 (by decide) ?_
              exact w_f_R_contract_148 C hr hlk hk95 hf
theorem w_R_contract_95L {p : Program} {l : Launch} {e : Env} {R : Room} {s : State} {m : MethodId} {args : Array Value} {below : List Frame} {meth : Method} {c : Code} {E : hm_E} {n0 s0 F : Nat} {h' : hm_T} {k83 : Nat → Int32 → Int32 → Int32 → Int32 → hm_T → Option hm_T} (C : hm_C E prog_6_method_17_code 8 "DistanceLabelsModel" 1 28 n0 s0 (hm_n h') (hm_s h') p R s m args c) (hr : meth.sig.returnType = none) (hlk : meth.locks = false) (hk83 : ∀ (y0 : Nat) (y1 : Int32) (y2 : Int32) (y3 : Int32) (y4 : Int32) (g : hm_T), k83 y0 y1 y2 y3 y4 g = some h' → hm_G E 8 n0 s0 (hm_n h') (hm_s h') p l e R s m args below meth c (MQ below (hm_Qc E none h') args s (hm_n h' - n0) (hm_s h' - s0) (fun q => E.2.2 ≤ q)) 83 [(0, .ref y0), (1, .int y1), (2, .int y2), (3, .int y3), (4, .int y4)] [] g) : ∀ (N : Nat) (x0 : Nat) (x1 : Int32) (x2 : Int32) (x3 : Int32) (x4 : Int32) (x5 : Int32) (h : hm_T), f_R_contract_95 F k83 N x0 x1 x2 x3 x4 x5 h = some h' → hm_G E 8 n0 s0 (hm_n h') (hm_s h') p l e R s m args below meth c (MQ below (hm_Qc E none h') args s (hm_n h' - n0) (hm_s h' - s0) (fun q => E.2.2 ≤ q)) 95 [(0, .ref x0), (1, .int x1), (2, .int x2), (3, .int x3), (4, .int x4), (5, .int x5)] [] h := by
  intro N
  induction N with
  | zero => intro _ _ _ _ _ _ _ hf; cases hf
  | succ n ih => intro x0 x1 x2 x3 x4 x5 h hf; exact w_g_R_contract_95 C hr hlk hk83 ih hf
set_option maxRecDepth 20000 in
set_option maxHeartbeats 1000000 in
theorem w_g_R_contract_83 {p : Program} {l : Launch} {e : Env} {R : Room} {s : State} {m : MethodId} {args : Array Value} {below : List Frame} {meth : Method} {c : Code} {E : hm_E} {n0 s0 F : Nat} {h h' : hm_T} {x0 : Nat} {x1 : Int32} {x2 : Int32} {x3 : Int32} {x4 : Int32} {k47 : Nat → Int32 → hm_T → Option hm_T} {k83 : Nat → Int32 → Int32 → Int32 → Int32 → hm_T → Option hm_T} (C : hm_C E prog_6_method_17_code 8 "DistanceLabelsModel" 1 28 n0 s0 (hm_n h') (hm_s h') p R s m args c) (hr : meth.sig.returnType = none) (hlk : meth.locks = false) (hk47 : ∀ (y0 : Nat) (y1 : Int32) (g : hm_T), k47 y0 y1 g = some h' → hm_G E 8 n0 s0 (hm_n h') (hm_s h') p l e R s m args below meth c (MQ below (hm_Qc E none h') args s (hm_n h' - n0) (hm_s h' - s0) (fun q => E.2.2 ≤ q)) 47 [(0, .ref y0), (1, .int y1)] [] g) (hk83 : ∀ (y0 : Nat) (y1 : Int32) (y2 : Int32) (y3 : Int32) (y4 : Int32) (g : hm_T), k83 y0 y1 y2 y3 y4 g = some h' → hm_G E 8 n0 s0 (hm_n h') (hm_s h') p l e R s m args below meth c (MQ below (hm_Qc E none h') args s (hm_n h' - n0) (hm_s h' - s0) (fun q => E.2.2 ≤ q)) 83 [(0, .ref y0), (1, .int y1), (2, .int y2), (3, .int y3), (4, .int y4)] [] g) (hf : g_R_contract_83 F k47 k83 x0 x1 x2 x3 x4 h = some h') : hm_G E 8 n0 s0 (hm_n h') (hm_s h') p l e R s m args below meth c (MQ below (hm_Qc E none h') args s (hm_n h' - n0) (hm_s h' - s0) (fun q => E.2.2 ≤ q)) 83 [(0, .ref x0), (1, .int x1), (2, .int x2), (3, .int x3), (4, .int x4)] [] h := by
  unfold g_R_contract_83 at hf
  refine hm_iload C d_R_contract_83 4 rfl ?_
  refine hm_aload_n C d_R_contract_85 rfl 0 rfl ?_
  obtain ⟨v1, ev1, hf⟩ := hm_bind hf
  refine hm_getI C F_4 1 (by decide) rfl k_159 d_R_contract_86 ev1 ?_
  refine hm_icmp_ge (tgt := 272) C d_R_contract_89 (by decide) (fun z2 => ?_) (fun z2 => ?_)
  · have hf := hm_ifp hf z2
    refine hm_sub (lv' := [(0, .ref x0), (1, .int x1), (2, .int x2), (3, .int x3)]) [0, 1, 2, 3] rfl ?_
    exact w_f_R_contract_272 C hr hlk hk47 hf
  · have hf := hm_ifn hf z2
    refine hm_iconst (v := (0 : Int32)) C d_R_contract_92 (by decide) ?_
    refine hm_istore (lv' := [(5, .int (0 : Int32)), (0, .ref x0), (1, .int x1), (2, .int x2), (3, .int x3), (4, .int x4)]) C d_R_contract_93 (by decide) rfl ?_
    refine hm_sub (lv' := [(0, .ref x0), (1, .int x1), (2, .int x2), (3, .int x3), (4, .int x4), (5, .int (0 : Int32))]) [1, 2, 3, 4, 5, 0] rfl ?_
    exact w_R_contract_95L C hr hlk hk83 _ _ _ _ _ _ _ _ hf
theorem w_R_contract_83L {p : Program} {l : Launch} {e : Env} {R : Room} {s : State} {m : MethodId} {args : Array Value} {below : List Frame} {meth : Method} {c : Code} {E : hm_E} {n0 s0 F : Nat} {h' : hm_T} {k47 : Nat → Int32 → hm_T → Option hm_T} (C : hm_C E prog_6_method_17_code 8 "DistanceLabelsModel" 1 28 n0 s0 (hm_n h') (hm_s h') p R s m args c) (hr : meth.sig.returnType = none) (hlk : meth.locks = false) (hk47 : ∀ (y0 : Nat) (y1 : Int32) (g : hm_T), k47 y0 y1 g = some h' → hm_G E 8 n0 s0 (hm_n h') (hm_s h') p l e R s m args below meth c (MQ below (hm_Qc E none h') args s (hm_n h' - n0) (hm_s h' - s0) (fun q => E.2.2 ≤ q)) 47 [(0, .ref y0), (1, .int y1)] [] g) : ∀ (N : Nat) (x0 : Nat) (x1 : Int32) (x2 : Int32) (x3 : Int32) (x4 : Int32) (h : hm_T), f_R_contract_83 F k47 N x0 x1 x2 x3 x4 h = some h' → hm_G E 8 n0 s0 (hm_n h') (hm_s h') p l e R s m args below meth c (MQ below (hm_Qc E none h') args s (hm_n h' - n0) (hm_s h' - s0) (fun q => E.2.2 ≤ q)) 83 [(0, .ref x0), (1, .int x1), (2, .int x2), (3, .int x3), (4, .int x4)] [] h := by
  intro N
  induction N with
  | zero => intro _ _ _ _ _ _ hf; cases hf
  | succ n ih => intro x0 x1 x2 x3 x4 h hf; exact w_g_R_contract_83 C hr hlk hk47 ih hf
set_option maxRecDepth 20000 in
set_option maxHeartbeats 1000000 in
theorem w_g_R_contract_47 {p : Program} {l : Launch} {e : Env} {R : Room} {s : State} {m : MethodId} {args : Array Value} {below : List Frame} {meth : Method} {c : Code} {E : hm_E} {n0 s0 F : Nat} {h h' : hm_T} {x0 : Nat} {x1 : Int32} {k47 : Nat → Int32 → hm_T → Option hm_T} (C : hm_C E prog_6_method_17_code 8 "DistanceLabelsModel" 1 28 n0 s0 (hm_n h') (hm_s h') p R s m args c) (hr : meth.sig.returnType = none) (hlk : meth.locks = false) (hk47 : ∀ (y0 : Nat) (y1 : Int32) (g : hm_T), k47 y0 y1 g = some h' → hm_G E 8 n0 s0 (hm_n h') (hm_s h') p l e R s m args below meth c (MQ below (hm_Qc E none h') args s (hm_n h' - n0) (hm_s h' - s0) (fun q => E.2.2 ≤ q)) 47 [(0, .ref y0), (1, .int y1)] [] g) (hf : g_R_contract_47 F k47 x0 x1 h = some h') : hm_G E 8 n0 s0 (hm_n h') (hm_s h') p l e R s m args below meth c (MQ below (hm_Qc E none h') args s (hm_n h' - n0) (hm_s h' - s0) (fun q => E.2.2 ≤ q)) 47 [(0, .ref x0), (1, .int x1)] [] h := by
  unfold g_R_contract_47 at hf
  refine hm_iload_n C d_R_contract_47 rfl 1 rfl ?_
  refine hm_if_lt (tgt := 415) C d_R_contract_48 (by decide) (fun z1 => ?_) (fun z1 => ?_)
  · have hf := hm_ifp hf z1
    refine hm_sub (lv' := [(0, .ref x0)]) [0] rfl ?_
    exact w_f_R_contract_415 C hr hlk hf
  · have hf := hm_ifn hf z1
    refine hm_aload_n C d_R_contract_51 rfl 0 rfl ?_
    obtain ⟨a2, ea2, hf⟩ := hm_bind hf
    refine hm_getR C F_4 3 (by decide) rfl k_141 d_R_contract_52 ea2 ?_
    refine hm_iload_n C d_R_contract_55 rfl 1 rfl ?_
    obtain ⟨v3, ev3, hf⟩ := hm_bind hf
    refine hm_iaload C d_R_contract_56 ev3 ?_
    refine hm_istore_n (lv' := [(2, .int v3), (0, .ref x0), (1, .int x1)]) C d_R_contract_57 rfl (by decide) rfl ?_
    refine hm_aload_n C d_R_contract_58 rfl 1 rfl ?_
    refine hm_aload_n C d_R_contract_59 rfl 1 rfl ?_
    obtain ⟨a4, ea4, hf⟩ := hm_bind hf
    refine hm_getR C F_4 12 (by decide) rfl k_148 d_R_contract_60 ea4 ?_
    refine hm_aload_n C d_R_contract_63 rfl 1 rfl ?_
    obtain ⟨a5, ea5, hf⟩ := hm_bind hf
    refine hm_getR C F_4 13 (by decide) rfl k_149 d_R_contract_64 ea5 ?_
    refine hm_iload_n C d_R_contract_67 rfl 0 rfl ?_
    refine hm_aload_n C d_R_contract_68 rfl 1 rfl ?_
    obtain ⟨a6, ea6, hf⟩ := hm_bind hf
    refine hm_getR C F_4 11 (by decide) rfl k_147 d_R_contract_69 ea6 ?_
    obtain ⟨u7, eu7, hf⟩ := hm_bind hf
    obtain ⟨h8, eh8, hf⟩ := hm_bind hf
    refine hm_callV (vs := [.ref a4, .ref a5, .int v3, .ref a6]) (st := []) (sb := []) C (c_R_fill eh8) Y_R_fill F_4 eu7 k_180 k_181 k_179 (by decide) (by decide) rfl (Nat.le_of_ble_eq_true rfl) d_R_contract_72 rfl rfl ?_
    refine hm_aload_n C d_R_contract_75 rfl 1 rfl ?_
    obtain ⟨v9, ev9, hf⟩ := hm_bind hf
    refine hm_getI C F_4 16 (by decide) rfl k_178 d_R_contract_76 ev9 ?_
    refine hm_istore_n (lv' := [(3, .int v9), (2, .int v3), (0, .ref x0), (1, .int x1)]) C d_R_contract_79 rfl (by decide) rfl ?_
    refine hm_iconst (v := (0 : Int32)) C d_R_contract_80 (by decide) ?_
    refine hm_istore (lv' := [(4, .int (0 : Int32)), (3, .int v9), (2, .int v3), (0, .ref x0), (1, .int x1)]) C d_R_contract_81 (by decide) rfl ?_
    refine hm_sub (lv' := [(0, .ref x0), (1, .int x1), (2, .int v3), (3, .int v9), (4, .int (0 : Int32))]) [3, 4, 2, 1, 0] rfl ?_
    exact w_R_contract_83L C hr hlk hk47 _ _ _ _ _ _ _ hf
theorem w_R_contract_47L {p : Program} {l : Launch} {e : Env} {R : Room} {s : State} {m : MethodId} {args : Array Value} {below : List Frame} {meth : Method} {c : Code} {E : hm_E} {n0 s0 F : Nat} {h' : hm_T} (C : hm_C E prog_6_method_17_code 8 "DistanceLabelsModel" 1 28 n0 s0 (hm_n h') (hm_s h') p R s m args c) (hr : meth.sig.returnType = none) (hlk : meth.locks = false) : ∀ (N : Nat) (x0 : Nat) (x1 : Int32) (h : hm_T), f_R_contract_47 F N x0 x1 h = some h' → hm_G E 8 n0 s0 (hm_n h') (hm_s h') p l e R s m args below meth c (MQ below (hm_Qc E none h') args s (hm_n h' - n0) (hm_s h' - s0) (fun q => E.2.2 ≤ q)) 47 [(0, .ref x0), (1, .int x1)] [] h := by
  intro N
  induction N with
  | zero => intro _ _ _ hf; cases hf
  | succ n ih => intro x0 x1 h hf; exact w_g_R_contract_47 C hr hlk ih hf
set_option maxRecDepth 20000 in
set_option maxHeartbeats 1000000 in
theorem w_f_R_contract_40 {p : Program} {l : Launch} {e : Env} {R : Room} {s : State} {m : MethodId} {args : Array Value} {below : List Frame} {meth : Method} {c : Code} {E : hm_E} {n0 s0 F : Nat} {h h' : hm_T} {x0 : Nat} (C : hm_C E prog_6_method_17_code 8 "DistanceLabelsModel" 1 28 n0 s0 (hm_n h') (hm_s h') p R s m args c) (hr : meth.sig.returnType = none) (hlk : meth.locks = false) (hf : f_R_contract_40 F x0 h = some h') : hm_G E 8 n0 s0 (hm_n h') (hm_s h') p l e R s m args below meth c (MQ below (hm_Qc E none h') args s (hm_n h' - n0) (hm_s h' - s0) (fun q => E.2.2 ≤ q)) 40 [(0, .ref x0)] [] h := by
  unfold f_R_contract_40 at hf
  refine hm_aload_n C d_R_contract_40 rfl 0 rfl ?_
  obtain ⟨v1, ev1, hf⟩ := hm_bind hf
  refine hm_getI C F_4 1 (by decide) rfl k_159 d_R_contract_41 ev1 ?_
  refine hm_iconst (v := (1 : Int32)) C d_R_contract_44 (by decide) ?_
  refine hm_isub C d_R_contract_45 ?_
  refine hm_istore_n (lv' := [(1, .int (v1 - (1 : Int32))), (0, .ref x0)]) C d_R_contract_46 rfl (by decide) rfl ?_
  refine hm_sub (lv' := [(0, .ref x0), (1, .int (v1 - (1 : Int32)))]) [1, 0] rfl ?_
  exact w_R_contract_47L C hr hlk _ _ _ _ hf
set_option maxRecDepth 20000 in
set_option maxHeartbeats 1000000 in
theorem w_g_R_contract_7 {p : Program} {l : Launch} {e : Env} {R : Room} {s : State} {m : MethodId} {args : Array Value} {below : List Frame} {meth : Method} {c : Code} {E : hm_E} {n0 s0 F : Nat} {h h' : hm_T} {x0 : Nat} {x1 : Int32} {k7 : Nat → Int32 → hm_T → Option hm_T} (C : hm_C E prog_6_method_17_code 8 "DistanceLabelsModel" 1 28 n0 s0 (hm_n h') (hm_s h') p R s m args c) (hr : meth.sig.returnType = none) (hlk : meth.locks = false) (hk7 : ∀ (y0 : Nat) (y1 : Int32) (g : hm_T), k7 y0 y1 g = some h' → hm_G E 8 n0 s0 (hm_n h') (hm_s h') p l e R s m args below meth c (MQ below (hm_Qc E none h') args s (hm_n h' - n0) (hm_s h' - s0) (fun q => E.2.2 ≤ q)) 7 [(0, .ref y0), (1, .int y1)] [] g) (hf : g_R_contract_7 F k7 x0 x1 h = some h') : hm_G E 8 n0 s0 (hm_n h') (hm_s h') p l e R s m args below meth c (MQ below (hm_Qc E none h') args s (hm_n h' - n0) (hm_s h' - s0) (fun q => E.2.2 ≤ q)) 7 [(0, .ref x0), (1, .int x1)] [] h := by
  unfold g_R_contract_7 at hf
  refine hm_iload_n C d_R_contract_7 rfl 1 rfl ?_
  refine hm_sipush (v := (256 : Int32)) C d_R_contract_8 (by decide) ?_
  refine hm_icmp_ge (tgt := 40) C d_R_contract_11 (by decide) (fun z1 => ?_) (fun z1 => ?_)
  · have hf := hm_ifp hf z1
    refine hm_sub (lv' := [(0, .ref x0)]) [0] rfl ?_
    exact w_f_R_contract_40 C hr hlk hf
  · have hf := hm_ifn hf z1
    refine hm_aload_n C d_R_contract_14 rfl 0 rfl ?_
    obtain ⟨a2, ea2, hf⟩ := hm_bind hf
    refine hm_getR C F_4 12 (by decide) rfl k_148 d_R_contract_15 ea2 ?_
    refine hm_iload_n C d_R_contract_18 rfl 1 rfl ?_
    refine hm_aload_n C d_R_contract_19 rfl 0 rfl ?_
    obtain ⟨a3, ea3, hf⟩ := hm_bind hf
    refine hm_getR C F_4 2 (by decide) rfl k_138 d_R_contract_20 ea3 ?_
    refine hm_iload_n C d_R_contract_23 rfl 1 rfl ?_
    obtain ⟨v4, ev4, hf⟩ := hm_bind hf
    refine hm_iaload C d_R_contract_24 ev4 ?_
    obtain ⟨h5, eh5, hf⟩ := hm_bind hf
    refine hm_iastore C d_R_contract_25 eh5 ?_
    refine hm_aload_n C d_R_contract_26 rfl 0 rfl ?_
    obtain ⟨a6, ea6, hf⟩ := hm_bind hf
    refine hm_getR C F_4 14 (by decide) rfl k_150 d_R_contract_27 ea6 ?_
    refine hm_iload_n C d_R_contract_30 rfl 1 rfl ?_
    refine hm_ldc (v := (1000000 : Int32)) C k_139 d_R_contract_31 ?_
    obtain ⟨h7, eh7, hf⟩ := hm_bind hf
    refine hm_iastore C d_R_contract_33 eh7 ?_
    refine hm_iinc (v := (x1 + (1 : Int32))) (lv' := [(1, .int (x1 + (1 : Int32))), (0, .ref x0)]) C d_R_contract_34 1 rfl rfl (by decide) rfl ?_
    refine hm_goto (tgt := 7) C d_R_contract_37 (by decide) ?_
    refine hm_sub (lv' := [(0, .ref x0), (1, .int (x1 + (1 : Int32)))]) [1, 0] rfl ?_
    exact hk7 _ _ _ hf
theorem w_R_contract_7L {p : Program} {l : Launch} {e : Env} {R : Room} {s : State} {m : MethodId} {args : Array Value} {below : List Frame} {meth : Method} {c : Code} {E : hm_E} {n0 s0 F : Nat} {h' : hm_T} (C : hm_C E prog_6_method_17_code 8 "DistanceLabelsModel" 1 28 n0 s0 (hm_n h') (hm_s h') p R s m args c) (hr : meth.sig.returnType = none) (hlk : meth.locks = false) : ∀ (N : Nat) (x0 : Nat) (x1 : Int32) (h : hm_T), f_R_contract_7 F N x0 x1 h = some h' → hm_G E 8 n0 s0 (hm_n h') (hm_s h') p l e R s m args below meth c (MQ below (hm_Qc E none h') args s (hm_n h' - n0) (hm_s h' - s0) (fun q => E.2.2 ≤ q)) 7 [(0, .ref x0), (1, .int x1)] [] h := by
  intro N
  induction N with
  | zero => intro _ _ _ hf; cases hf
  | succ n ih => intro x0 x1 h hf; exact w_g_R_contract_7 C hr hlk ih hf
set_option maxRecDepth 20000 in
set_option maxHeartbeats 1000000 in
theorem w_f_R_contract {p : Program} {l : Launch} {e : Env} {R : Room} {s : State} {m : MethodId} {args : Array Value} {below : List Frame} {meth : Method} {c : Code} {E : hm_E} {n0 s0 F : Nat} {h h' : hm_T} {x0 : Nat} (C : hm_C E prog_6_method_17_code 8 "DistanceLabelsModel" 1 28 n0 s0 (hm_n h') (hm_s h') p R s m args c) (hr : meth.sig.returnType = none) (hlk : meth.locks = false) (hf : f_R_contract F x0 h = some h') : hm_G E 8 n0 s0 (hm_n h') (hm_s h') p l e R s m args below meth c (MQ below (hm_Qc E none h') args s (hm_n h' - n0) (hm_s h' - s0) (fun q => E.2.2 ≤ q)) 0 [(0, .ref x0)] [] h := by
  unfold f_R_contract at hf
  refine hm_aload_n C d_R_contract_0 rfl 0 rfl ?_
  refine hm_iconst (v := (0 : Int32)) C d_R_contract_1 (by decide) ?_
  obtain ⟨h1, eh1, hf⟩ := hm_bind hf
  refine hm_putI C F_4 16 (by decide) rfl k_178 (Or.inl rfl) rfl d_R_contract_2 eh1 ?_
  refine hm_iconst (v := (0 : Int32)) C d_R_contract_5 (by decide) ?_
  refine hm_istore_n (lv' := [(1, .int (0 : Int32)), (0, .ref x0)]) C d_R_contract_6 rfl (by decide) rfl ?_
  refine hm_sub (lv' := [(0, .ref x0), (1, .int (0 : Int32))]) [1, 0] rfl ?_
  exact w_R_contract_7L C hr hlk _ _ _ _ hf
set_option maxRecDepth 20000 in
theorem c_R_contract {E : hm_E} {l : Launch} {F : Nat} {h h' : hm_T} {x0 : Nat} (hf : f_R_contract F x0 h = some h') : hm_M E l y_R_contract prog_6_method_17_code 8 none 1 28 [.ref x0] h none h' :=
  hm_enter (by decide +kernel) (Nat.le_of_ble_eq_true rfl) (m_f_R_contract hf) (fun p e R s m below meth c C hr hlk hin => w_f_R_contract C hr hlk hf)
def f_R_make_302 (F : Nat) (x0 : Nat) (x1 : Int32) (h : hm_T) : Option (Int32 × hm_T) :=
  (hm_is 4 25 h x0).bind (fun u1 => (f_R_contract F x0 h).bind (fun h2 => (hm_pz 4 25 5 h2 x0 (1 : Int32)).bind (fun h3 => some (x1, h3))))
def f_R_make_293 (F : Nat) (k80 : Nat → Int32 → Int32 → hm_T → Option (Int32 × hm_T)) (x0 : Nat) (x1 : Int32) (x2 : Int32) (t0 : Int32) (t1 : Nat) (h : hm_T) : Option (Int32 × hm_T) :=
  (hm_pi 4 25 10 h t1 t0).bind (fun h1 => k80 x0 x1 (x2 + (1 : Int32)) h1)
def f_R_make_260 (F : Nat) (k80 : Nat → Int32 → Int32 → hm_T → Option (Int32 × hm_T)) (x0 : Nat) (x1 : Int32) (x2 : Int32) (t0 : Int32) (t1 : Int32) (h : hm_T) : Option (Int32 × hm_T) :=
  (hm_gr 4 25 8 h x0).bind (fun a1 => (hm_ild h a1 x2).bind (fun v2 => (hm_gr 4 25 7 h x0).bind (fun a3 => (hm_ild h a3 x2).bind (fun v4 => (if v2 = v4 then (hm_gi 4 25 10 h x0).bind (fun v7 => f_R_make_293 F k80 x0 x1 x2 v7 x0 h) else (hm_gi 4 25 10 h x0).bind (fun v6 => f_R_make_293 F k80 x0 x1 x2 (v6 + (t1 + t0)) x0 h))))))
def f_R_make_246 (F : Nat) (k80 : Nat → Int32 → Int32 → hm_T → Option (Int32 × hm_T)) (x0 : Nat) (x1 : Int32) (x2 : Int32) (t0 : Int32) (h : hm_T) : Option (Int32 × hm_T) :=
  (hm_gr 4 25 7 h x0).bind (fun a1 => (hm_ild h a1 x2).bind (fun v2 => (if v2 ≤ 0 then f_R_make_260 F k80 x0 x1 x2 (0 : Int32) t0 h else f_R_make_260 F k80 x0 x1 x2 (1 : Int32) t0 h)))
def f_R_make_231 (F : Nat) (k80 : Nat → Int32 → Int32 → hm_T → Option (Int32 × hm_T)) (x0 : Nat) (x2 : Int32) (t0 : Int32) (h : hm_T) : Option (Int32 × hm_T) :=
  (hm_gr 4 25 8 h x0).bind (fun a1 => (hm_ild h a1 x2).bind (fun v2 => (if v2 ≤ 0 then f_R_make_246 F k80 x0 t0 x2 (0 : Int32) h else f_R_make_246 F k80 x0 t0 x2 (1 : Int32) h)))
def f_R_make_206 (F : Nat) (k80 : Nat → Int32 → Int32 → hm_T → Option (Int32 × hm_T)) (x0 : Nat) (x1 : Int32) (x2 : Int32) (x6 : Int32) (t0 : Int32) (t1 : Int32) (t2 : Nat) (h : hm_T) : Option (Int32 × hm_T) :=
  (hm_ist h t2 t1 t0).bind (fun h1 => (hm_gr 4 25 9 h1 x0).bind (fun a2 => (hm_gr 4 25 7 h1 x0).bind (fun a3 => (hm_ild h1 a3 x2).bind (fun v4 => (hm_ist h1 a2 x2 v4).bind (fun h5 => (if x6 = 0 then f_R_make_231 F k80 x0 x2 x1 h5 else f_R_make_231 F k80 x0 x2 (x1 + (1 : Int32)) h5))))))
def f_R_make_205 (F : Nat) (k80 : Nat → Int32 → Int32 → hm_T → Option (Int32 × hm_T)) (x0 : Nat) (x1 : Int32) (x2 : Int32) (x6 : Int32) (t0 : Int32) (t1 : Int32) (t2 : Int32) (t3 : Nat) (h : hm_T) : Option (Int32 × hm_T) :=
  f_R_make_206 F k80 x0 x1 x2 x6 (t1 + t0) t2 t3 h
def f_R_make_155 (F : Nat) (k80 : Nat → Int32 → Int32 → hm_T → Option (Int32 × hm_T)) (x0 : Nat) (x1 : Int32) (x2 : Int32) (x3 : Int32) (x4 : Int32) (x5 : Int32) (t0 : Int32) (h : hm_T) : Option (Int32 × hm_T) :=
  (hm_gr 4 25 7 h x0).bind (fun a1 => (if t0 = 0 then f_R_make_206 F k80 x0 x1 x2 t0 (0 : Int32) x2 a1 h else (if x3 = 0 then (hm_gr 4 25 6 h x0).bind (fun a6 => (hm_ild h a6 (((16 : Int32) * x4) + x5)).bind (fun v7 => f_R_make_205 F k80 x0 x1 x2 t0 v7 (1 : Int32) x2 a1 h)) else (hm_gr 4 25 6 h x0).bind (fun a4 => (hm_ild h a4 (((16 : Int32) * x5) + x4)).bind (fun v5 => f_R_make_205 F k80 x0 x1 x2 t0 v5 (1 : Int32) x2 a1 h)))))
def f_R_make_154 (F : Nat) (k80 : Nat → Int32 → Int32 → hm_T → Option (Int32 × hm_T)) (x0 : Nat) (x1 : Int32) (x2 : Int32) (x3 : Int32) (x4 : Int32) (x5 : Int32) (h : hm_T) : Option (Int32 × hm_T) :=
  f_R_make_155 F k80 x0 x1 x2 x3 x4 x5 (0 : Int32) h
def g_R_make_80 (F : Nat) (k80 : Nat → Int32 → Int32 → hm_T → Option (Int32 × hm_T)) (x0 : Nat) (x1 : Int32) (x2 : Int32) (h : hm_T) : Option (Int32 × hm_T) :=
  (if (512 : Int32) ≤ x2 then f_R_make_302 F x0 x1 h else (if (256 : Int32) = 0 then none else (if (16 : Int32) = 0 then none else (if (16 : Int32) = 0 then none else (if (16 : Int32) = 0 then none else (hm_gr 4 25 8 h x0).bind (fun a6 => (hm_gr 4 25 7 h x0).bind (fun a7 => (hm_ild h a7 x2).bind (fun v8 => (hm_ist h a6 x2 v8).bind (fun h9 => (hm_gi 4 25 1 h9 x0).bind (fun v10 => (if v10 ≤ ((x2 / (16 : Int32)) - (x2 / (16 : Int32)) / (16 : Int32) * (16 : Int32)) then f_R_make_154 F k80 x0 x1 x2 (x2 / (256 : Int32)) ((x2 / (16 : Int32)) - (x2 / (16 : Int32)) / (16 : Int32) * (16 : Int32)) (x2 - x2 / (16 : Int32) * (16 : Int32)) h9 else (hm_gi 4 25 1 h9 x0).bind (fun v12 => (if v12 ≤ (x2 - x2 / (16 : Int32) * (16 : Int32)) then f_R_make_154 F k80 x0 x1 x2 (x2 / (256 : Int32)) ((x2 / (16 : Int32)) - (x2 / (16 : Int32)) / (16 : Int32) * (16 : Int32)) (x2 - x2 / (16 : Int32) * (16 : Int32)) h9 else (hm_is 4 25 h9 x0).bind (fun u14 => hm_and (f_R_isStation F x0 (x2 / (256 : Int32)) ((x2 / (16 : Int32)) - (x2 / (16 : Int32)) / (16 : Int32) * (16 : Int32)) (x2 - x2 / (16 : Int32) * (16 : Int32)) h9) (fun v15 h15 => (if v15 = 0 then f_R_make_154 F k80 x0 x1 x2 (x2 / (256 : Int32)) ((x2 / (16 : Int32)) - (x2 / (16 : Int32)) / (16 : Int32) * (16 : Int32)) (x2 - x2 / (16 : Int32) * (16 : Int32)) h15 else f_R_make_155 F k80 x0 x1 x2 (x2 / (256 : Int32)) ((x2 / (16 : Int32)) - (x2 / (16 : Int32)) / (16 : Int32) * (16 : Int32)) (x2 - x2 / (16 : Int32) * (16 : Int32)) (1 : Int32) h15))))))))))))))))
def f_R_make_80 (F : Nat) : Nat → Nat → Int32 → Int32 → hm_T → Option (Int32 × hm_T)
  | 0 => fun _ _ _ _ => none
  | n + 1 => g_R_make_80 F (f_R_make_80 F n)
def f_R_make_71 (F : Nat) (x0 : Nat) (h : hm_T) : Option (Int32 × hm_T) :=
  (hm_pi 4 25 10 h x0 (0 : Int32)).bind (fun h1 => f_R_make_80 F F x0 (0 : Int32) (0 : Int32) h1)
def g_R_make_45 (F : Nat) (k45 : Nat → Int32 → hm_T → Option (Int32 × hm_T)) (x0 : Nat) (x1 : Int32) (h : hm_T) : Option (Int32 × hm_T) :=
  (hm_gi 4 25 1 h x0).bind (fun v1 => (if v1 ≤ x1 then f_R_make_71 F x0 h else (hm_gr 4 25 6 h x0).bind (fun a3 => (hm_ist h a3 (((16 : Int32) * x1) + x1) (0 : Int32)).bind (fun h4 => k45 x0 (x1 + (1 : Int32)) h4))))
def f_R_make_45 (F : Nat) : Nat → Nat → Int32 → hm_T → Option (Int32 × hm_T)
  | 0 => fun _ _ _ => none
  | n + 1 => g_R_make_45 F (f_R_make_45 F n)
def f_R_make_26 (F : Nat) (x0 : Nat) (h : hm_T) : Option (Int32 × hm_T) :=
  (hm_gr 4 25 2 h x0).bind (fun a1 => (hm_gr 4 25 6 h x0).bind (fun a2 => (hm_gr 4 25 11 h x0).bind (fun a3 => (hm_is 4 25 h x0).bind (fun u4 => (f_R_fill F x0 a1 a2 (-1 : Int32) a3 h).bind (fun h5 => f_R_make_45 F F x0 (0 : Int32) h5)))))
def g_R_make_7 (F : Nat) (k7 : Nat → Int32 → hm_T → Option (Int32 × hm_T)) (x0 : Nat) (x1 : Int32) (h : hm_T) : Option (Int32 × hm_T) :=
  (if (16 : Int32) ≤ x1 then f_R_make_26 F x0 h else (hm_gr 4 25 11 h x0).bind (fun a2 => (hm_zst h a2 x1 (0 : Int32)).bind (fun h3 => k7 x0 (x1 + (1 : Int32)) h3)))
def f_R_make_7 (F : Nat) : Nat → Nat → Int32 → hm_T → Option (Int32 × hm_T)
  | 0 => fun _ _ _ => none
  | n + 1 => g_R_make_7 F (f_R_make_7 F n)
def f_R_make (F : Nat) (x0 : Nat) (h : hm_T) : Option (Int32 × hm_T) :=
  (hm_pi 4 25 0 h x0 (0 : Int32)).bind (fun h1 => f_R_make_7 F F x0 (0 : Int32) h1)
theorem m_f_R_make_302 {F : Nat} {r : Int32} {h h' : hm_T} {x0 : Nat} {x1 : Int32} (hf : f_R_make_302 F x0 x1 h = some (r, h')) : hm_le h h' := by
  unfold f_R_make_302 at hf
  obtain ⟨u1, eu1, hf⟩ := hm_bind hf
  obtain ⟨h2, eh2, hf⟩ := hm_bind hf
  have mh2 := m_f_R_contract eh2
  obtain ⟨h3, eh3, hf⟩ := hm_bind hf
  have mh3 := hm_le.pz eh3
  exact mh2.tr (mh3.tr ((hm_le.ret hf)))
theorem m_f_R_make_293 {F : Nat} {r : Int32} {h h' : hm_T} {x0 : Nat} {x1 : Int32} {x2 : Int32} {t0 : Int32} {t1 : Nat} {k80 : Nat → Int32 → Int32 → hm_T → Option (Int32 × hm_T)} (hk80 : ∀ (y0 : Nat) (y1 : Int32) (y2 : Int32) (g : hm_T), k80 y0 y1 y2 g = some (r, h') → hm_le g h') (hf : f_R_make_293 F k80 x0 x1 x2 t0 t1 h = some (r, h')) : hm_le h h' := by
  unfold f_R_make_293 at hf
  obtain ⟨h1, eh1, hf⟩ := hm_bind hf
  have mh1 := hm_le.pi eh1
  exact mh1.tr ((hk80 _ _ _ _ hf))
theorem m_f_R_make_260 {F : Nat} {r : Int32} {h h' : hm_T} {x0 : Nat} {x1 : Int32} {x2 : Int32} {t0 : Int32} {t1 : Int32} {k80 : Nat → Int32 → Int32 → hm_T → Option (Int32 × hm_T)} (hk80 : ∀ (y0 : Nat) (y1 : Int32) (y2 : Int32) (g : hm_T), k80 y0 y1 y2 g = some (r, h') → hm_le g h') (hf : f_R_make_260 F k80 x0 x1 x2 t0 t1 h = some (r, h')) : hm_le h h' := by
  unfold f_R_make_260 at hf
  obtain ⟨a1, ea1, hf⟩ := hm_bind hf
  obtain ⟨v2, ev2, hf⟩ := hm_bind hf
  obtain ⟨a3, ea3, hf⟩ := hm_bind hf
  obtain ⟨v4, ev4, hf⟩ := hm_bind hf
  by_cases z5 : v2 = v4
  · have hf := hm_ifp hf z5
    obtain ⟨v7, ev7, hf⟩ := hm_bind hf
    exact (m_f_R_make_293 hk80 hf)
  · have hf := hm_ifn hf z5
    obtain ⟨v6, ev6, hf⟩ := hm_bind hf
    exact (m_f_R_make_293 hk80 hf)
theorem m_f_R_make_246 {F : Nat} {r : Int32} {h h' : hm_T} {x0 : Nat} {x1 : Int32} {x2 : Int32} {t0 : Int32} {k80 : Nat → Int32 → Int32 → hm_T → Option (Int32 × hm_T)} (hk80 : ∀ (y0 : Nat) (y1 : Int32) (y2 : Int32) (g : hm_T), k80 y0 y1 y2 g = some (r, h') → hm_le g h') (hf : f_R_make_246 F k80 x0 x1 x2 t0 h = some (r, h')) : hm_le h h' := by
  unfold f_R_make_246 at hf
  obtain ⟨a1, ea1, hf⟩ := hm_bind hf
  obtain ⟨v2, ev2, hf⟩ := hm_bind hf
  by_cases z3 : v2 ≤ 0
  · have hf := hm_ifp hf z3
    exact (m_f_R_make_260 hk80 hf)
  · have hf := hm_ifn hf z3
    exact (m_f_R_make_260 hk80 hf)
theorem m_f_R_make_231 {F : Nat} {r : Int32} {h h' : hm_T} {x0 : Nat} {x2 : Int32} {t0 : Int32} {k80 : Nat → Int32 → Int32 → hm_T → Option (Int32 × hm_T)} (hk80 : ∀ (y0 : Nat) (y1 : Int32) (y2 : Int32) (g : hm_T), k80 y0 y1 y2 g = some (r, h') → hm_le g h') (hf : f_R_make_231 F k80 x0 x2 t0 h = some (r, h')) : hm_le h h' := by
  unfold f_R_make_231 at hf
  obtain ⟨a1, ea1, hf⟩ := hm_bind hf
  obtain ⟨v2, ev2, hf⟩ := hm_bind hf
  by_cases z3 : v2 ≤ 0
  · have hf := hm_ifp hf z3
    exact (m_f_R_make_246 hk80 hf)
  · have hf := hm_ifn hf z3
    exact (m_f_R_make_246 hk80 hf)
theorem m_f_R_make_206 {F : Nat} {r : Int32} {h h' : hm_T} {x0 : Nat} {x1 : Int32} {x2 : Int32} {x6 : Int32} {t0 : Int32} {t1 : Int32} {t2 : Nat} {k80 : Nat → Int32 → Int32 → hm_T → Option (Int32 × hm_T)} (hk80 : ∀ (y0 : Nat) (y1 : Int32) (y2 : Int32) (g : hm_T), k80 y0 y1 y2 g = some (r, h') → hm_le g h') (hf : f_R_make_206 F k80 x0 x1 x2 x6 t0 t1 t2 h = some (r, h')) : hm_le h h' := by
  unfold f_R_make_206 at hf
  obtain ⟨h1, eh1, hf⟩ := hm_bind hf
  have mh1 := hm_le.ist eh1
  obtain ⟨a2, ea2, hf⟩ := hm_bind hf
  obtain ⟨a3, ea3, hf⟩ := hm_bind hf
  obtain ⟨v4, ev4, hf⟩ := hm_bind hf
  obtain ⟨h5, eh5, hf⟩ := hm_bind hf
  have mh5 := hm_le.ist eh5
  by_cases z6 : x6 = 0
  · have hf := hm_ifp hf z6
    exact mh1.tr (mh5.tr ((m_f_R_make_231 hk80 hf)))
  · have hf := hm_ifn hf z6
    exact mh1.tr (mh5.tr ((m_f_R_make_231 hk80 hf)))
theorem m_f_R_make_205 {F : Nat} {r : Int32} {h h' : hm_T} {x0 : Nat} {x1 : Int32} {x2 : Int32} {x6 : Int32} {t0 : Int32} {t1 : Int32} {t2 : Int32} {t3 : Nat} {k80 : Nat → Int32 → Int32 → hm_T → Option (Int32 × hm_T)} (hk80 : ∀ (y0 : Nat) (y1 : Int32) (y2 : Int32) (g : hm_T), k80 y0 y1 y2 g = some (r, h') → hm_le g h') (hf : f_R_make_205 F k80 x0 x1 x2 x6 t0 t1 t2 t3 h = some (r, h')) : hm_le h h' := by
  unfold f_R_make_205 at hf
  exact (m_f_R_make_206 hk80 hf)
theorem m_f_R_make_155 {F : Nat} {r : Int32} {h h' : hm_T} {x0 : Nat} {x1 : Int32} {x2 : Int32} {x3 : Int32} {x4 : Int32} {x5 : Int32} {t0 : Int32} {k80 : Nat → Int32 → Int32 → hm_T → Option (Int32 × hm_T)} (hk80 : ∀ (y0 : Nat) (y1 : Int32) (y2 : Int32) (g : hm_T), k80 y0 y1 y2 g = some (r, h') → hm_le g h') (hf : f_R_make_155 F k80 x0 x1 x2 x3 x4 x5 t0 h = some (r, h')) : hm_le h h' := by
  unfold f_R_make_155 at hf
  obtain ⟨a1, ea1, hf⟩ := hm_bind hf
  by_cases z2 : t0 = 0
  · have hf := hm_ifp hf z2
    exact (m_f_R_make_206 hk80 hf)
  · have hf := hm_ifn hf z2
    by_cases z3 : x3 = 0
    · have hf := hm_ifp hf z3
      obtain ⟨a6, ea6, hf⟩ := hm_bind hf
      obtain ⟨v7, ev7, hf⟩ := hm_bind hf
      exact (m_f_R_make_205 hk80 hf)
    · have hf := hm_ifn hf z3
      obtain ⟨a4, ea4, hf⟩ := hm_bind hf
      obtain ⟨v5, ev5, hf⟩ := hm_bind hf
      exact (m_f_R_make_205 hk80 hf)
theorem m_f_R_make_154 {F : Nat} {r : Int32} {h h' : hm_T} {x0 : Nat} {x1 : Int32} {x2 : Int32} {x3 : Int32} {x4 : Int32} {x5 : Int32} {k80 : Nat → Int32 → Int32 → hm_T → Option (Int32 × hm_T)} (hk80 : ∀ (y0 : Nat) (y1 : Int32) (y2 : Int32) (g : hm_T), k80 y0 y1 y2 g = some (r, h') → hm_le g h') (hf : f_R_make_154 F k80 x0 x1 x2 x3 x4 x5 h = some (r, h')) : hm_le h h' := by
  unfold f_R_make_154 at hf
  exact (m_f_R_make_155 hk80 hf)
theorem m_g_R_make_80 {F : Nat} {r : Int32} {h h' : hm_T} {x0 : Nat} {x1 : Int32} {x2 : Int32} {k80 : Nat → Int32 → Int32 → hm_T → Option (Int32 × hm_T)} (hk80 : ∀ (y0 : Nat) (y1 : Int32) (y2 : Int32) (g : hm_T), k80 y0 y1 y2 g = some (r, h') → hm_le g h') (hf : g_R_make_80 F k80 x0 x1 x2 h = some (r, h')) : hm_le h h' := by
  unfold g_R_make_80 at hf
  by_cases z1 : (512 : Int32) ≤ x2
  · have hf := hm_ifp hf z1
    exact (m_f_R_make_302 hf)
  · have hf := hm_ifn hf z1
    have z2 : ¬ (256 : Int32) = 0 := fun q => by rw [if_pos q] at hf; cases hf
    have hf := hm_ifn hf z2
    have z3 : ¬ (16 : Int32) = 0 := fun q => by rw [if_pos q] at hf; cases hf
    have hf := hm_ifn hf z3
    have z4 : ¬ (16 : Int32) = 0 := fun q => by rw [if_pos q] at hf; cases hf
    have hf := hm_ifn hf z4
    have z5 : ¬ (16 : Int32) = 0 := fun q => by rw [if_pos q] at hf; cases hf
    have hf := hm_ifn hf z5
    obtain ⟨a6, ea6, hf⟩ := hm_bind hf
    obtain ⟨a7, ea7, hf⟩ := hm_bind hf
    obtain ⟨v8, ev8, hf⟩ := hm_bind hf
    obtain ⟨h9, eh9, hf⟩ := hm_bind hf
    have mh9 := hm_le.ist eh9
    obtain ⟨v10, ev10, hf⟩ := hm_bind hf
    by_cases z11 : v10 ≤ ((x2 / (16 : Int32)) - (x2 / (16 : Int32)) / (16 : Int32) * (16 : Int32))
    · have hf := hm_ifp hf z11
      exact mh9.tr ((m_f_R_make_154 hk80 hf))
    · have hf := hm_ifn hf z11
      obtain ⟨v12, ev12, hf⟩ := hm_bind hf
      by_cases z13 : v12 ≤ (x2 - x2 / (16 : Int32) * (16 : Int32))
      · have hf := hm_ifp hf z13
        exact mh9.tr ((m_f_R_make_154 hk80 hf))
      · have hf := hm_ifn hf z13
        obtain ⟨u14, eu14, hf⟩ := hm_bind hf
        obtain ⟨v15, h15, eh15, hf⟩ := hm_and_of hf
        have mh15 := m_f_R_isStation eh15
        by_cases z16 : v15 = 0
        · have hf := hm_ifp hf z16
          exact mh9.tr (mh15.tr ((m_f_R_make_154 hk80 hf)))
        · have hf := hm_ifn hf z16
          exact mh9.tr (mh15.tr ((m_f_R_make_155 hk80 hf)))
theorem m_R_make_80L {F : Nat} {r : Int32} {h' : hm_T} : ∀ (N : Nat) (x0 : Nat) (x1 : Int32) (x2 : Int32) (h : hm_T), f_R_make_80 F N x0 x1 x2 h = some (r, h') → hm_le h h' := by
  intro N
  induction N with
  | zero => intro _ _ _ _ hf; cases hf
  | succ n ih => intro x0 x1 x2 h hf; exact m_g_R_make_80 ih hf
theorem m_f_R_make_71 {F : Nat} {r : Int32} {h h' : hm_T} {x0 : Nat} (hf : f_R_make_71 F x0 h = some (r, h')) : hm_le h h' := by
  unfold f_R_make_71 at hf
  obtain ⟨h1, eh1, hf⟩ := hm_bind hf
  have mh1 := hm_le.pi eh1
  exact mh1.tr ((m_R_make_80L _ _ _ _ _ hf))
theorem m_g_R_make_45 {F : Nat} {r : Int32} {h h' : hm_T} {x0 : Nat} {x1 : Int32} {k45 : Nat → Int32 → hm_T → Option (Int32 × hm_T)} (hk45 : ∀ (y0 : Nat) (y1 : Int32) (g : hm_T), k45 y0 y1 g = some (r, h') → hm_le g h') (hf : g_R_make_45 F k45 x0 x1 h = some (r, h')) : hm_le h h' := by
  unfold g_R_make_45 at hf
  obtain ⟨v1, ev1, hf⟩ := hm_bind hf
  by_cases z2 : v1 ≤ x1
  · have hf := hm_ifp hf z2
    exact (m_f_R_make_71 hf)
  · have hf := hm_ifn hf z2
    obtain ⟨a3, ea3, hf⟩ := hm_bind hf
    obtain ⟨h4, eh4, hf⟩ := hm_bind hf
    have mh4 := hm_le.ist eh4
    exact mh4.tr ((hk45 _ _ _ hf))
theorem m_R_make_45L {F : Nat} {r : Int32} {h' : hm_T} : ∀ (N : Nat) (x0 : Nat) (x1 : Int32) (h : hm_T), f_R_make_45 F N x0 x1 h = some (r, h') → hm_le h h' := by
  intro N
  induction N with
  | zero => intro _ _ _ hf; cases hf
  | succ n ih => intro x0 x1 h hf; exact m_g_R_make_45 ih hf
theorem m_f_R_make_26 {F : Nat} {r : Int32} {h h' : hm_T} {x0 : Nat} (hf : f_R_make_26 F x0 h = some (r, h')) : hm_le h h' := by
  unfold f_R_make_26 at hf
  obtain ⟨a1, ea1, hf⟩ := hm_bind hf
  obtain ⟨a2, ea2, hf⟩ := hm_bind hf
  obtain ⟨a3, ea3, hf⟩ := hm_bind hf
  obtain ⟨u4, eu4, hf⟩ := hm_bind hf
  obtain ⟨h5, eh5, hf⟩ := hm_bind hf
  have mh5 := m_f_R_fill eh5
  exact mh5.tr ((m_R_make_45L _ _ _ _ hf))
theorem m_g_R_make_7 {F : Nat} {r : Int32} {h h' : hm_T} {x0 : Nat} {x1 : Int32} {k7 : Nat → Int32 → hm_T → Option (Int32 × hm_T)} (hk7 : ∀ (y0 : Nat) (y1 : Int32) (g : hm_T), k7 y0 y1 g = some (r, h') → hm_le g h') (hf : g_R_make_7 F k7 x0 x1 h = some (r, h')) : hm_le h h' := by
  unfold g_R_make_7 at hf
  by_cases z1 : (16 : Int32) ≤ x1
  · have hf := hm_ifp hf z1
    exact (m_f_R_make_26 hf)
  · have hf := hm_ifn hf z1
    obtain ⟨a2, ea2, hf⟩ := hm_bind hf
    obtain ⟨h3, eh3, hf⟩ := hm_bind hf
    have mh3 := hm_le.zst eh3
    exact mh3.tr ((hk7 _ _ _ hf))
theorem m_R_make_7L {F : Nat} {r : Int32} {h' : hm_T} : ∀ (N : Nat) (x0 : Nat) (x1 : Int32) (h : hm_T), f_R_make_7 F N x0 x1 h = some (r, h') → hm_le h h' := by
  intro N
  induction N with
  | zero => intro _ _ _ hf; cases hf
  | succ n ih => intro x0 x1 h hf; exact m_g_R_make_7 ih hf
theorem m_f_R_make {F : Nat} {r : Int32} {h h' : hm_T} {x0 : Nat} (hf : f_R_make F x0 h = some (r, h')) : hm_le h h' := by
  unfold f_R_make at hf
  obtain ⟨h1, eh1, hf⟩ := hm_bind hf
  have mh1 := hm_le.pi eh1
  exact mh1.tr ((m_R_make_7L _ _ _ _ hf))
set_option maxRecDepth 20000 in
set_option maxHeartbeats 1000000 in
theorem w_f_R_make_302 {p : Program} {l : Launch} {e : Env} {R : Room} {s : State} {m : MethodId} {args : Array Value} {below : List Frame} {meth : Method} {c : Code} {E : hm_E} {n0 s0 F : Nat} {r : Int32} {h h' : hm_T} {x0 : Nat} {x1 : Int32} (C : hm_C E prog_6_method_16_code 8 "DistanceLabelsModel" 2 55 n0 s0 (hm_n h') (hm_s h') p R s m args c) (hr : meth.sig.returnType = (some .int)) (hlk : meth.locks = false) (hf : f_R_make_302 F x0 x1 h = some (r, h')) : hm_G E 8 n0 s0 (hm_n h') (hm_s h') p l e R s m args below meth c (MQ below (hm_Qc E (some (.int r)) h') args s (hm_n h' - n0) (hm_s h' - s0) (fun q => E.2.2 ≤ q)) 302 [(0, .ref x0), (1, .int x1)] [] h := by
  unfold f_R_make_302 at hf
  refine hm_aload_n C d_R_make_302 rfl 0 rfl ?_
  obtain ⟨u1, eu1, hf⟩ := hm_bind hf
  obtain ⟨h2, eh2, hf⟩ := hm_bind hf
  refine hm_callV (vs := []) (st := []) (sb := []) C (c_R_contract eh2) Y_R_contract F_4 eu1 k_183 k_184 k_182 (by decide) (by decide) rfl (Nat.le_of_ble_eq_true rfl) d_R_make_303 rfl rfl ?_
  refine hm_aload_n C d_R_make_306 rfl 0 rfl ?_
  refine hm_iconst (v := (1 : Int32)) C d_R_make_307 (by decide) ?_
  obtain ⟨h3, eh3, hf⟩ := hm_bind hf
  refine hm_putZ C F_4 5 (by decide) rfl k_165 (Or.inl rfl) rfl d_R_make_308 eh3 ?_
  refine hm_iload_n C d_R_make_311 rfl 1 rfl ?_
  exact hm_iret C hr hlk d_R_make_312 hf
set_option maxRecDepth 20000 in
set_option maxHeartbeats 1000000 in
theorem w_f_R_make_293 {p : Program} {l : Launch} {e : Env} {R : Room} {s : State} {m : MethodId} {args : Array Value} {below : List Frame} {meth : Method} {c : Code} {E : hm_E} {n0 s0 F : Nat} {r : Int32} {h h' : hm_T} {x0 : Nat} {x1 : Int32} {x2 : Int32} {t0 : Int32} {t1 : Nat} {k80 : Nat → Int32 → Int32 → hm_T → Option (Int32 × hm_T)} (C : hm_C E prog_6_method_16_code 8 "DistanceLabelsModel" 2 55 n0 s0 (hm_n h') (hm_s h') p R s m args c) (hr : meth.sig.returnType = (some .int)) (hlk : meth.locks = false) (hk80 : ∀ (y0 : Nat) (y1 : Int32) (y2 : Int32) (g : hm_T), k80 y0 y1 y2 g = some (r, h') → hm_G E 8 n0 s0 (hm_n h') (hm_s h') p l e R s m args below meth c (MQ below (hm_Qc E (some (.int r)) h') args s (hm_n h' - n0) (hm_s h' - s0) (fun q => E.2.2 ≤ q)) 80 [(0, .ref y0), (1, .int y1), (2, .int y2)] [] g) (hf : f_R_make_293 F k80 x0 x1 x2 t0 t1 h = some (r, h')) : hm_G E 8 n0 s0 (hm_n h') (hm_s h') p l e R s m args below meth c (MQ below (hm_Qc E (some (.int r)) h') args s (hm_n h' - n0) (hm_s h' - s0) (fun q => E.2.2 ≤ q)) 293 [(0, .ref x0), (1, .int x1), (2, .int x2)] [.int t0, .ref t1] h := by
  unfold f_R_make_293 at hf
  obtain ⟨h1, eh1, hf⟩ := hm_bind hf
  refine hm_putI C F_4 10 (by decide) rfl k_185 (Or.inl rfl) rfl d_R_make_293 eh1 ?_
  refine hm_iinc (v := (x2 + (1 : Int32))) (lv' := [(2, .int (x2 + (1 : Int32))), (0, .ref x0), (1, .int x1)]) C d_R_make_296 2 rfl rfl (by decide) rfl ?_
  refine hm_goto (tgt := 80) C d_R_make_299 (by decide) ?_
  refine hm_sub (lv' := [(0, .ref x0), (1, .int x1), (2, .int (x2 + (1 : Int32)))]) [1, 2, 0] rfl ?_
  exact hk80 _ _ _ _ hf
set_option maxRecDepth 20000 in
set_option maxHeartbeats 1000000 in
theorem w_f_R_make_260 {p : Program} {l : Launch} {e : Env} {R : Room} {s : State} {m : MethodId} {args : Array Value} {below : List Frame} {meth : Method} {c : Code} {E : hm_E} {n0 s0 F : Nat} {r : Int32} {h h' : hm_T} {x0 : Nat} {x1 : Int32} {x2 : Int32} {t0 : Int32} {t1 : Int32} {k80 : Nat → Int32 → Int32 → hm_T → Option (Int32 × hm_T)} (C : hm_C E prog_6_method_16_code 8 "DistanceLabelsModel" 2 55 n0 s0 (hm_n h') (hm_s h') p R s m args c) (hr : meth.sig.returnType = (some .int)) (hlk : meth.locks = false) (hk80 : ∀ (y0 : Nat) (y1 : Int32) (y2 : Int32) (g : hm_T), k80 y0 y1 y2 g = some (r, h') → hm_G E 8 n0 s0 (hm_n h') (hm_s h') p l e R s m args below meth c (MQ below (hm_Qc E (some (.int r)) h') args s (hm_n h' - n0) (hm_s h' - s0) (fun q => E.2.2 ≤ q)) 80 [(0, .ref y0), (1, .int y1), (2, .int y2)] [] g) (hf : f_R_make_260 F k80 x0 x1 x2 t0 t1 h = some (r, h')) : hm_G E 8 n0 s0 (hm_n h') (hm_s h') p l e R s m args below meth c (MQ below (hm_Qc E (some (.int r)) h') args s (hm_n h' - n0) (hm_s h' - s0) (fun q => E.2.2 ≤ q)) 260 [(0, .ref x0), (1, .int x1), (2, .int x2)] [.int t0, .int t1] h := by
  unfold f_R_make_260 at hf
  refine hm_iadd C d_R_make_260 ?_
  refine hm_istore (lv' := [(7, .int (t1 + t0)), (0, .ref x0), (1, .int x1), (2, .int x2)]) C d_R_make_261 (by decide) rfl ?_
  refine hm_aload_n C d_R_make_263 rfl 1 rfl ?_
  refine hm_aload_n C d_R_make_264 rfl 1 rfl ?_
  obtain ⟨a1, ea1, hf⟩ := hm_bind hf
  refine hm_getR C F_4 8 (by decide) rfl k_145 d_R_make_265 ea1 ?_
  refine hm_iload_n C d_R_make_268 rfl 3 rfl ?_
  obtain ⟨v2, ev2, hf⟩ := hm_bind hf
  refine hm_iaload C d_R_make_269 ev2 ?_
  refine hm_aload_n C d_R_make_270 rfl 1 rfl ?_
  obtain ⟨a3, ea3, hf⟩ := hm_bind hf
  refine hm_getR C F_4 7 (by decide) rfl k_144 d_R_make_271 ea3 ?_
  refine hm_iload_n C d_R_make_274 rfl 3 rfl ?_
  obtain ⟨v4, ev4, hf⟩ := hm_bind hf
  refine hm_iaload C d_R_make_275 ev4 ?_
  refine hm_icmp_ne (tgt := 286) C d_R_make_276 (by decide) (fun z5 => ?_) (fun z5 => ?_)
  · have hf := hm_ifn hf z5
    refine hm_aload_n C d_R_make_286 rfl 1 rfl ?_
    obtain ⟨v6, ev6, hf⟩ := hm_bind hf
    refine hm_getI C F_4 10 (by decide) rfl k_185 d_R_make_287 ev6 ?_
    refine hm_iload C d_R_make_290 0 rfl ?_
    refine hm_iadd C d_R_make_292 ?_
    refine hm_sub (lv' := [(0, .ref x0), (1, .int x1), (2, .int x2)]) [1, 2, 3] rfl ?_
    exact w_f_R_make_293 C hr hlk hk80 hf
  · have hf := hm_ifp hf z5
    refine hm_aload_n C d_R_make_279 rfl 1 rfl ?_
    obtain ⟨v7, ev7, hf⟩ := hm_bind hf
    refine hm_getI C F_4 10 (by decide) rfl k_185 d_R_make_280 ev7 ?_
    refine hm_goto (tgt := 293) C d_R_make_283 (by decide) ?_
    refine hm_sub (lv' := [(0, .ref x0), (1, .int x1), (2, .int x2)]) [1, 2, 3] rfl ?_
    exact w_f_R_make_293 C hr hlk hk80 hf
set_option maxRecDepth 20000 in
set_option maxHeartbeats 1000000 in
theorem w_f_R_make_246 {p : Program} {l : Launch} {e : Env} {R : Room} {s : State} {m : MethodId} {args : Array Value} {below : List Frame} {meth : Method} {c : Code} {E : hm_E} {n0 s0 F : Nat} {r : Int32} {h h' : hm_T} {x0 : Nat} {x1 : Int32} {x2 : Int32} {t0 : Int32} {k80 : Nat → Int32 → Int32 → hm_T → Option (Int32 × hm_T)} (C : hm_C E prog_6_method_16_code 8 "DistanceLabelsModel" 2 55 n0 s0 (hm_n h') (hm_s h') p R s m args c) (hr : meth.sig.returnType = (some .int)) (hlk : meth.locks = false) (hk80 : ∀ (y0 : Nat) (y1 : Int32) (y2 : Int32) (g : hm_T), k80 y0 y1 y2 g = some (r, h') → hm_G E 8 n0 s0 (hm_n h') (hm_s h') p l e R s m args below meth c (MQ below (hm_Qc E (some (.int r)) h') args s (hm_n h' - n0) (hm_s h' - s0) (fun q => E.2.2 ≤ q)) 80 [(0, .ref y0), (1, .int y1), (2, .int y2)] [] g) (hf : f_R_make_246 F k80 x0 x1 x2 t0 h = some (r, h')) : hm_G E 8 n0 s0 (hm_n h') (hm_s h') p l e R s m args below meth c (MQ below (hm_Qc E (some (.int r)) h') args s (hm_n h' - n0) (hm_s h' - s0) (fun q => E.2.2 ≤ q)) 246 [(0, .ref x0), (1, .int x1), (2, .int x2)] [.int t0] h := by
  unfold f_R_make_246 at hf
  refine hm_aload_n C d_R_make_246 rfl 0 rfl ?_
  obtain ⟨a1, ea1, hf⟩ := hm_bind hf
  refine hm_getR C F_4 7 (by decide) rfl k_144 d_R_make_247 ea1 ?_
  refine hm_iload_n C d_R_make_250 rfl 2 rfl ?_
  obtain ⟨v2, ev2, hf⟩ := hm_bind hf
  refine hm_iaload C d_R_make_251 ev2 ?_
  refine hm_if_le (tgt := 259) C d_R_make_252 (by decide) (fun z3 => ?_) (fun z3 => ?_)
  · have hf := hm_ifp hf z3
    refine hm_iconst (v := (0 : Int32)) C d_R_make_259 (by decide) ?_
    exact w_f_R_make_260 C hr hlk hk80 hf
  · have hf := hm_ifn hf z3
    refine hm_iconst (v := (1 : Int32)) C d_R_make_255 (by decide) ?_
    refine hm_goto (tgt := 260) C d_R_make_256 (by decide) ?_
    exact w_f_R_make_260 C hr hlk hk80 hf
set_option maxRecDepth 20000 in
set_option maxHeartbeats 1000000 in
theorem w_f_R_make_231 {p : Program} {l : Launch} {e : Env} {R : Room} {s : State} {m : MethodId} {args : Array Value} {below : List Frame} {meth : Method} {c : Code} {E : hm_E} {n0 s0 F : Nat} {r : Int32} {h h' : hm_T} {x0 : Nat} {x2 : Int32} {t0 : Int32} {k80 : Nat → Int32 → Int32 → hm_T → Option (Int32 × hm_T)} (C : hm_C E prog_6_method_16_code 8 "DistanceLabelsModel" 2 55 n0 s0 (hm_n h') (hm_s h') p R s m args c) (hr : meth.sig.returnType = (some .int)) (hlk : meth.locks = false) (hk80 : ∀ (y0 : Nat) (y1 : Int32) (y2 : Int32) (g : hm_T), k80 y0 y1 y2 g = some (r, h') → hm_G E 8 n0 s0 (hm_n h') (hm_s h') p l e R s m args below meth c (MQ below (hm_Qc E (some (.int r)) h') args s (hm_n h' - n0) (hm_s h' - s0) (fun q => E.2.2 ≤ q)) 80 [(0, .ref y0), (1, .int y1), (2, .int y2)] [] g) (hf : f_R_make_231 F k80 x0 x2 t0 h = some (r, h')) : hm_G E 8 n0 s0 (hm_n h') (hm_s h') p l e R s m args below meth c (MQ below (hm_Qc E (some (.int r)) h') args s (hm_n h' - n0) (hm_s h' - s0) (fun q => E.2.2 ≤ q)) 231 [(0, .ref x0), (2, .int x2)] [.int t0] h := by
  unfold f_R_make_231 at hf
  refine hm_istore_n (lv' := [(1, .int t0), (0, .ref x0), (2, .int x2)]) C d_R_make_231 rfl (by decide) rfl ?_
  refine hm_aload_n C d_R_make_232 rfl 1 rfl ?_
  obtain ⟨a1, ea1, hf⟩ := hm_bind hf
  refine hm_getR C F_4 8 (by decide) rfl k_145 d_R_make_233 ea1 ?_
  refine hm_iload_n C d_R_make_236 rfl 2 rfl ?_
  obtain ⟨v2, ev2, hf⟩ := hm_bind hf
  refine hm_iaload C d_R_make_237 ev2 ?_
  refine hm_if_le (tgt := 245) C d_R_make_238 (by decide) (fun z3 => ?_) (fun z3 => ?_)
  · have hf := hm_ifp hf z3
    refine hm_iconst (v := (0 : Int32)) C d_R_make_245 (by decide) ?_
    refine hm_sub (lv' := [(0, .ref x0), (1, .int t0), (2, .int x2)]) [1, 0, 2] rfl ?_
    exact w_f_R_make_246 C hr hlk hk80 hf
  · have hf := hm_ifn hf z3
    refine hm_iconst (v := (1 : Int32)) C d_R_make_241 (by decide) ?_
    refine hm_goto (tgt := 246) C d_R_make_242 (by decide) ?_
    refine hm_sub (lv' := [(0, .ref x0), (1, .int t0), (2, .int x2)]) [1, 0, 2] rfl ?_
    exact w_f_R_make_246 C hr hlk hk80 hf
set_option maxRecDepth 20000 in
set_option maxHeartbeats 1000000 in
theorem w_f_R_make_206 {p : Program} {l : Launch} {e : Env} {R : Room} {s : State} {m : MethodId} {args : Array Value} {below : List Frame} {meth : Method} {c : Code} {E : hm_E} {n0 s0 F : Nat} {r : Int32} {h h' : hm_T} {x0 : Nat} {x1 : Int32} {x2 : Int32} {x6 : Int32} {t0 : Int32} {t1 : Int32} {t2 : Nat} {k80 : Nat → Int32 → Int32 → hm_T → Option (Int32 × hm_T)} (C : hm_C E prog_6_method_16_code 8 "DistanceLabelsModel" 2 55 n0 s0 (hm_n h') (hm_s h') p R s m args c) (hr : meth.sig.returnType = (some .int)) (hlk : meth.locks = false) (hk80 : ∀ (y0 : Nat) (y1 : Int32) (y2 : Int32) (g : hm_T), k80 y0 y1 y2 g = some (r, h') → hm_G E 8 n0 s0 (hm_n h') (hm_s h') p l e R s m args below meth c (MQ below (hm_Qc E (some (.int r)) h') args s (hm_n h' - n0) (hm_s h' - s0) (fun q => E.2.2 ≤ q)) 80 [(0, .ref y0), (1, .int y1), (2, .int y2)] [] g) (hf : f_R_make_206 F k80 x0 x1 x2 x6 t0 t1 t2 h = some (r, h')) : hm_G E 8 n0 s0 (hm_n h') (hm_s h') p l e R s m args below meth c (MQ below (hm_Qc E (some (.int r)) h') args s (hm_n h' - n0) (hm_s h' - s0) (fun q => E.2.2 ≤ q)) 206 [(0, .ref x0), (1, .int x1), (2, .int x2), (6, .int x6)] [.int t0, .int t1, .ref t2] h := by
  unfold f_R_make_206 at hf
  obtain ⟨h1, eh1, hf⟩ := hm_bind hf
  refine hm_iastore C d_R_make_206 eh1 ?_
  refine hm_aload_n C d_R_make_207 rfl 0 rfl ?_
  obtain ⟨a2, ea2, hf⟩ := hm_bind hf
  refine hm_getR C F_4 9 (by decide) rfl k_146 d_R_make_208 ea2 ?_
  refine hm_iload_n C d_R_make_211 rfl 2 rfl ?_
  refine hm_aload_n C d_R_make_212 rfl 0 rfl ?_
  obtain ⟨a3, ea3, hf⟩ := hm_bind hf
  refine hm_getR C F_4 7 (by decide) rfl k_144 d_R_make_213 ea3 ?_
  refine hm_iload_n C d_R_make_216 rfl 2 rfl ?_
  obtain ⟨v4, ev4, hf⟩ := hm_bind hf
  refine hm_iaload C d_R_make_217 ev4 ?_
  obtain ⟨h5, eh5, hf⟩ := hm_bind hf
  refine hm_iastore C d_R_make_218 eh5 ?_
  refine hm_iload C d_R_make_219 3 rfl ?_
  refine hm_if_eq (tgt := 230) C d_R_make_221 (by decide) (fun z6 => ?_) (fun z6 => ?_)
  · have hf := hm_ifp hf z6
    refine hm_iload_n C d_R_make_230 rfl 1 rfl ?_
    refine hm_sub (lv' := [(0, .ref x0), (2, .int x2)]) [0, 2] rfl ?_
    exact w_f_R_make_231 C hr hlk hk80 hf
  · have hf := hm_ifn hf z6
    refine hm_iload_n C d_R_make_224 rfl 1 rfl ?_
    refine hm_iconst (v := (1 : Int32)) C d_R_make_225 (by decide) ?_
    refine hm_iadd C d_R_make_226 ?_
    refine hm_goto (tgt := 231) C d_R_make_227 (by decide) ?_
    refine hm_sub (lv' := [(0, .ref x0), (2, .int x2)]) [0, 2] rfl ?_
    exact w_f_R_make_231 C hr hlk hk80 hf
set_option maxRecDepth 20000 in
set_option maxHeartbeats 1000000 in
theorem w_f_R_make_205 {p : Program} {l : Launch} {e : Env} {R : Room} {s : State} {m : MethodId} {args : Array Value} {below : List Frame} {meth : Method} {c : Code} {E : hm_E} {n0 s0 F : Nat} {r : Int32} {h h' : hm_T} {x0 : Nat} {x1 : Int32} {x2 : Int32} {x6 : Int32} {t0 : Int32} {t1 : Int32} {t2 : Int32} {t3 : Nat} {k80 : Nat → Int32 → Int32 → hm_T → Option (Int32 × hm_T)} (C : hm_C E prog_6_method_16_code 8 "DistanceLabelsModel" 2 55 n0 s0 (hm_n h') (hm_s h') p R s m args c) (hr : meth.sig.returnType = (some .int)) (hlk : meth.locks = false) (hk80 : ∀ (y0 : Nat) (y1 : Int32) (y2 : Int32) (g : hm_T), k80 y0 y1 y2 g = some (r, h') → hm_G E 8 n0 s0 (hm_n h') (hm_s h') p l e R s m args below meth c (MQ below (hm_Qc E (some (.int r)) h') args s (hm_n h' - n0) (hm_s h' - s0) (fun q => E.2.2 ≤ q)) 80 [(0, .ref y0), (1, .int y1), (2, .int y2)] [] g) (hf : f_R_make_205 F k80 x0 x1 x2 x6 t0 t1 t2 t3 h = some (r, h')) : hm_G E 8 n0 s0 (hm_n h') (hm_s h') p l e R s m args below meth c (MQ below (hm_Qc E (some (.int r)) h') args s (hm_n h' - n0) (hm_s h' - s0) (fun q => E.2.2 ≤ q)) 205 [(0, .ref x0), (1, .int x1), (2, .int x2), (6, .int x6)] [.int t0, .int t1, .int t2, .ref t3] h := by
  unfold f_R_make_205 at hf
  refine hm_iadd C d_R_make_205 ?_
  exact w_f_R_make_206 C hr hlk hk80 hf
set_option maxRecDepth 20000 in
set_option maxHeartbeats 1000000 in
theorem w_f_R_make_155 {p : Program} {l : Launch} {e : Env} {R : Room} {s : State} {m : MethodId} {args : Array Value} {below : List Frame} {meth : Method} {c : Code} {E : hm_E} {n0 s0 F : Nat} {r : Int32} {h h' : hm_T} {x0 : Nat} {x1 : Int32} {x2 : Int32} {x3 : Int32} {x4 : Int32} {x5 : Int32} {t0 : Int32} {k80 : Nat → Int32 → Int32 → hm_T → Option (Int32 × hm_T)} (C : hm_C E prog_6_method_16_code 8 "DistanceLabelsModel" 2 55 n0 s0 (hm_n h') (hm_s h') p R s m args c) (hr : meth.sig.returnType = (some .int)) (hlk : meth.locks = false) (hk80 : ∀ (y0 : Nat) (y1 : Int32) (y2 : Int32) (g : hm_T), k80 y0 y1 y2 g = some (r, h') → hm_G E 8 n0 s0 (hm_n h') (hm_s h') p l e R s m args below meth c (MQ below (hm_Qc E (some (.int r)) h') args s (hm_n h' - n0) (hm_s h' - s0) (fun q => E.2.2 ≤ q)) 80 [(0, .ref y0), (1, .int y1), (2, .int y2)] [] g) (hf : f_R_make_155 F k80 x0 x1 x2 x3 x4 x5 t0 h = some (r, h')) : hm_G E 8 n0 s0 (hm_n h') (hm_s h') p l e R s m args below meth c (MQ below (hm_Qc E (some (.int r)) h') args s (hm_n h' - n0) (hm_s h' - s0) (fun q => E.2.2 ≤ q)) 155 [(0, .ref x0), (1, .int x1), (2, .int x2), (3, .int x3), (4, .int x4), (5, .int x5)] [.int t0] h := by
  unfold f_R_make_155 at hf
  refine hm_istore (lv' := [(6, .int t0), (0, .ref x0), (1, .int x1), (2, .int x2), (3, .int x3), (4, .int x4), (5, .int x5)]) C d_R_make_155 (by decide) rfl ?_
  refine hm_aload_n C d_R_make_157 rfl 1 rfl ?_
  obtain ⟨a1, ea1, hf⟩ := hm_bind hf
  refine hm_getR C F_4 7 (by decide) rfl k_144 d_R_make_158 ea1 ?_
  refine hm_iload_n C d_R_make_161 rfl 3 rfl ?_
  refine hm_iload C d_R_make_162 0 rfl ?_
  refine hm_if_ne (tgt := 171) C d_R_make_164 (by decide) (fun z2 => ?_) (fun z2 => ?_)
  · have hf := hm_ifn hf z2
    refine hm_iconst (v := (1 : Int32)) C d_R_make_171 (by decide) ?_
    refine hm_iload_n C d_R_make_172 rfl 4 rfl ?_
    refine hm_if_ne (tgt := 192) C d_R_make_173 (by decide) (fun z3 => ?_) (fun z3 => ?_)
    · have hf := hm_ifn hf z3
      refine hm_aload_n C d_R_make_192 rfl 1 rfl ?_
      obtain ⟨a4, ea4, hf⟩ := hm_bind hf
      refine hm_getR C F_4 6 (by decide) rfl k_143 d_R_make_193 ea4 ?_
      refine hm_bipush (v := (16 : Int32)) C d_R_make_196 (by decide) ?_
      refine hm_iload C d_R_make_198 6 rfl ?_
      refine hm_imul C d_R_make_200 ?_
      refine hm_iload C d_R_make_201 5 rfl ?_
      refine hm_iadd C d_R_make_203 ?_
      obtain ⟨v5, ev5, hf⟩ := hm_bind hf
      refine hm_iaload C d_R_make_204 ev5 ?_
      refine hm_sub (lv' := [(0, .ref x0), (1, .int x1), (2, .int x2), (6, .int t0)]) [1, 2, 3, 0] rfl ?_
      exact w_f_R_make_205 C hr hlk hk80 hf
    · have hf := hm_ifp hf z3
      refine hm_aload_n C d_R_make_176 rfl 1 rfl ?_
      obtain ⟨a6, ea6, hf⟩ := hm_bind hf
      refine hm_getR C F_4 6 (by decide) rfl k_143 d_R_make_177 ea6 ?_
      refine hm_bipush (v := (16 : Int32)) C d_R_make_180 (by decide) ?_
      refine hm_iload C d_R_make_182 5 rfl ?_
      refine hm_imul C d_R_make_184 ?_
      refine hm_iload C d_R_make_185 6 rfl ?_
      refine hm_iadd C d_R_make_187 ?_
      obtain ⟨v7, ev7, hf⟩ := hm_bind hf
      refine hm_iaload C d_R_make_188 ev7 ?_
      refine hm_goto (tgt := 205) C d_R_make_189 (by decide) ?_
      refine hm_sub (lv' := [(0, .ref x0), (1, .int x1), (2, .int x2), (6, .int t0)]) [1, 2, 3, 0] rfl ?_
      exact w_f_R_make_205 C hr hlk hk80 hf
  · have hf := hm_ifp hf z2
    refine hm_iconst (v := (0 : Int32)) C d_R_make_167 (by decide) ?_
    refine hm_goto (tgt := 206) C d_R_make_168 (by decide) ?_
    refine hm_sub (lv' := [(0, .ref x0), (1, .int x1), (2, .int x2), (6, .int t0)]) [1, 2, 3, 0] rfl ?_
    exact w_f_R_make_206 C hr hlk hk80 hf
set_option maxRecDepth 20000 in
set_option maxHeartbeats 1000000 in
theorem w_f_R_make_154 {p : Program} {l : Launch} {e : Env} {R : Room} {s : State} {m : MethodId} {args : Array Value} {below : List Frame} {meth : Method} {c : Code} {E : hm_E} {n0 s0 F : Nat} {r : Int32} {h h' : hm_T} {x0 : Nat} {x1 : Int32} {x2 : Int32} {x3 : Int32} {x4 : Int32} {x5 : Int32} {k80 : Nat → Int32 → Int32 → hm_T → Option (Int32 × hm_T)} (C : hm_C E prog_6_method_16_code 8 "DistanceLabelsModel" 2 55 n0 s0 (hm_n h') (hm_s h') p R s m args c) (hr : meth.sig.returnType = (some .int)) (hlk : meth.locks = false) (hk80 : ∀ (y0 : Nat) (y1 : Int32) (y2 : Int32) (g : hm_T), k80 y0 y1 y2 g = some (r, h') → hm_G E 8 n0 s0 (hm_n h') (hm_s h') p l e R s m args below meth c (MQ below (hm_Qc E (some (.int r)) h') args s (hm_n h' - n0) (hm_s h' - s0) (fun q => E.2.2 ≤ q)) 80 [(0, .ref y0), (1, .int y1), (2, .int y2)] [] g) (hf : f_R_make_154 F k80 x0 x1 x2 x3 x4 x5 h = some (r, h')) : hm_G E 8 n0 s0 (hm_n h') (hm_s h') p l e R s m args below meth c (MQ below (hm_Qc E (some (.int r)) h') args s (hm_n h' - n0) (hm_s h' - s0) (fun q => E.2.2 ≤ q)) 154 [(0, .ref x0), (1, .int x1), (2, .int x2), (3, .int x3), (4, .int x4), (5, .int x5)] [] h := by
  unfold f_R_make_154 at hf
  refine hm_iconst (v := (0 : Int32)) C d_R_make_154 (by decide) ?_
  exact w_f_R_make_155 C hr hlk hk80 hf
set_option maxRecDepth 20000 in
set_option maxHeartbeats 1000000 in
theorem w_g_R_make_80 {p : Program} {l : Launch} {e : Env} {R : Room} {s : State} {m : MethodId} {args : Array Value} {below : List Frame} {meth : Method} {c : Code} {E : hm_E} {n0 s0 F : Nat} {r : Int32} {h h' : hm_T} {x0 : Nat} {x1 : Int32} {x2 : Int32} {k80 : Nat → Int32 → Int32 → hm_T → Option (Int32 × hm_T)} (C : hm_C E prog_6_method_16_code 8 "DistanceLabelsModel" 2 55 n0 s0 (hm_n h') (hm_s h') p R s m args c) (hr : meth.sig.returnType = (some .int)) (hlk : meth.locks = false) (hk80 : ∀ (y0 : Nat) (y1 : Int32) (y2 : Int32) (g : hm_T), k80 y0 y1 y2 g = some (r, h') → hm_G E 8 n0 s0 (hm_n h') (hm_s h') p l e R s m args below meth c (MQ below (hm_Qc E (some (.int r)) h') args s (hm_n h' - n0) (hm_s h' - s0) (fun q => E.2.2 ≤ q)) 80 [(0, .ref y0), (1, .int y1), (2, .int y2)] [] g) (hf : g_R_make_80 F k80 x0 x1 x2 h = some (r, h')) : hm_G E 8 n0 s0 (hm_n h') (hm_s h') p l e R s m args below meth c (MQ below (hm_Qc E (some (.int r)) h') args s (hm_n h' - n0) (hm_s h' - s0) (fun q => E.2.2 ≤ q)) 80 [(0, .ref x0), (1, .int x1), (2, .int x2)] [] h := by
  unfold g_R_make_80 at hf
  refine hm_iload_n C d_R_make_80 rfl 2 rfl ?_
  refine hm_sipush (v := (512 : Int32)) C d_R_make_81 (by decide) ?_
  refine hm_icmp_ge (tgt := 302) C d_R_make_84 (by decide) (fun z1 => ?_) (fun z1 => ?_)
  · have hf := hm_ifp hf z1
    refine hm_sub (lv' := [(0, .ref x0), (1, .int x1)]) [0, 1] rfl ?_
    exact w_f_R_make_302 C hr hlk hf
  · have hf := hm_ifn hf z1
    refine hm_iload_n C d_R_make_87 rfl 2 rfl ?_
    refine hm_sipush (v := (256 : Int32)) C d_R_make_88 (by decide) ?_
    have z2 : ¬ (256 : Int32) = 0 := fun q => by rw [if_pos q] at hf; cases hf
    have hf := hm_ifn hf z2
    refine hm_idiv C d_R_make_91 z2 ?_
    refine hm_istore_n (lv' := [(3, .int (x2 / (256 : Int32))), (0, .ref x0), (1, .int x1), (2, .int x2)]) C d_R_make_92 rfl (by decide) rfl ?_
    refine hm_iload_n C d_R_make_93 rfl 3 rfl ?_
    refine hm_bipush (v := (16 : Int32)) C d_R_make_94 (by decide) ?_
    have z3 : ¬ (16 : Int32) = 0 := fun q => by rw [if_pos q] at hf; cases hf
    have hf := hm_ifn hf z3
    refine hm_idiv C d_R_make_96 z3 ?_
    refine hm_bipush (v := (16 : Int32)) C d_R_make_97 (by decide) ?_
    have z4 : ¬ (16 : Int32) = 0 := fun q => by rw [if_pos q] at hf; cases hf
    have hf := hm_ifn hf z4
    refine hm_irem C d_R_make_99 z4 ?_
    refine hm_istore (lv' := [(4, .int ((x2 / (16 : Int32)) - (x2 / (16 : Int32)) / (16 : Int32) * (16 : Int32))), (3, .int (x2 / (256 : Int32))), (0, .ref x0), (1, .int x1), (2, .int x2)]) C d_R_make_100 (by decide) rfl ?_
    refine hm_iload_n C d_R_make_102 rfl 4 rfl ?_
    refine hm_bipush (v := (16 : Int32)) C d_R_make_103 (by decide) ?_
    have z5 : ¬ (16 : Int32) = 0 := fun q => by rw [if_pos q] at hf; cases hf
    have hf := hm_ifn hf z5
    refine hm_irem C d_R_make_105 z5 ?_
    refine hm_istore (lv' := [(5, .int (x2 - x2 / (16 : Int32) * (16 : Int32))), (4, .int ((x2 / (16 : Int32)) - (x2 / (16 : Int32)) / (16 : Int32) * (16 : Int32))), (3, .int (x2 / (256 : Int32))), (0, .ref x0), (1, .int x1), (2, .int x2)]) C d_R_make_106 (by decide) rfl ?_
    refine hm_aload_n C d_R_make_108 rfl 3 rfl ?_
    obtain ⟨a6, ea6, hf⟩ := hm_bind hf
    refine hm_getR C F_4 8 (by decide) rfl k_145 d_R_make_109 ea6 ?_
    refine hm_iload_n C d_R_make_112 rfl 5 rfl ?_
    refine hm_aload_n C d_R_make_113 rfl 3 rfl ?_
    obtain ⟨a7, ea7, hf⟩ := hm_bind hf
    refine hm_getR C F_4 7 (by decide) rfl k_144 d_R_make_114 ea7 ?_
    refine hm_iload_n C d_R_make_117 rfl 5 rfl ?_
    obtain ⟨v8, ev8, hf⟩ := hm_bind hf
    refine hm_iaload C d_R_make_118 ev8 ?_
    obtain ⟨h9, eh9, hf⟩ := hm_bind hf
    refine hm_iastore C d_R_make_119 eh9 ?_
    refine hm_iload C d_R_make_120 1 rfl ?_
    refine hm_aload_n C d_R_make_122 rfl 3 rfl ?_
    obtain ⟨v10, ev10, hf⟩ := hm_bind hf
    refine hm_getI C F_4 1 (by decide) rfl k_159 d_R_make_123 ev10 ?_
    refine hm_icmp_ge (tgt := 154) C d_R_make_126 (by decide) (fun z11 => ?_) (fun z11 => ?_)
    · have hf := hm_ifp hf z11
      refine hm_sub (lv' := [(0, .ref x0), (1, .int x1), (2, .int x2), (3, .int (x2 / (256 : Int32))), (4, .int ((x2 / (16 : Int32)) - (x2 / (16 : Int32)) / (16 : Int32) * (16 : Int32))), (5, .int (x2 - x2 / (16 : Int32) * (16 : Int32)))]) [3, 4, 5, 2, 1, 0] rfl ?_
      exact w_f_R_make_154 C hr hlk hk80 hf
    · have hf := hm_ifn hf z11
      refine hm_iload C d_R_make_129 0 rfl ?_
      refine hm_aload_n C d_R_make_131 rfl 3 rfl ?_
      obtain ⟨v12, ev12, hf⟩ := hm_bind hf
      refine hm_getI C F_4 1 (by decide) rfl k_159 d_R_make_132 ev12 ?_
      refine hm_icmp_ge (tgt := 154) C d_R_make_135 (by decide) (fun z13 => ?_) (fun z13 => ?_)
      · have hf := hm_ifp hf z13
        refine hm_sub (lv' := [(0, .ref x0), (1, .int x1), (2, .int x2), (3, .int (x2 / (256 : Int32))), (4, .int ((x2 / (16 : Int32)) - (x2 / (16 : Int32)) / (16 : Int32) * (16 : Int32))), (5, .int (x2 - x2 / (16 : Int32) * (16 : Int32)))]) [3, 4, 5, 2, 1, 0] rfl ?_
        exact w_f_R_make_154 C hr hlk hk80 hf
      · have hf := hm_ifn hf z13
        refine hm_aload_n C d_R_make_138 rfl 3 rfl ?_
        refine hm_iload_n C d_R_make_139 rfl 2 rfl ?_
        refine hm_iload C d_R_make_140 1 rfl ?_
        refine hm_iload C d_R_make_142 0 rfl ?_
        obtain ⟨u14, eu14, hf⟩ := hm_bind hf
        obtain ⟨v15, h15, eh15, hf⟩ := hm_and_of hf
        refine hm_callV (vs := [.int (x2 / (256 : Int32)), .int ((x2 / (16 : Int32)) - (x2 / (16 : Int32)) / (16 : Int32) * (16 : Int32)), .int (x2 - x2 / (16 : Int32) * (16 : Int32))]) (st := []) (sb := [.int v15]) C (c_R_isStation eh15) Y_R_isStation F_4 eu14 k_187 k_188 k_186 (by decide) (by decide) rfl (Nat.le_of_ble_eq_true rfl) d_R_make_144 rfl rfl ?_
        refine hm_if_eq (tgt := 154) C d_R_make_147 (by decide) (fun z16 => ?_) (fun z16 => ?_)
        · have hf := hm_ifp hf z16
          refine hm_sub (lv' := [(0, .ref x0), (1, .int x1), (2, .int x2), (3, .int (x2 / (256 : Int32))), (4, .int ((x2 / (16 : Int32)) - (x2 / (16 : Int32)) / (16 : Int32) * (16 : Int32))), (5, .int (x2 - x2 / (16 : Int32) * (16 : Int32)))]) [3, 4, 5, 2, 1, 0] rfl ?_
          exact w_f_R_make_154 C hr hlk hk80 hf
        · have hf := hm_ifn hf z16
          refine hm_iconst (v := (1 : Int32)) C d_R_make_150 (by decide) ?_
          refine hm_goto (tgt := 155) C d_R_make_151 (by decide) ?_
          refine hm_sub (lv' := [(0, .ref x0), (1, .int x1), (2, .int x2), (3, .int (x2 / (256 : Int32))), (4, .int ((x2 / (16 : Int32)) - (x2 / (16 : Int32)) / (16 : Int32) * (16 : Int32))), (5, .int (x2 - x2 / (16 : Int32) * (16 : Int32)))]) [3, 4, 5, 2, 1, 0] rfl ?_
          exact w_f_R_make_155 C hr hlk hk80 hf
theorem w_R_make_80L {p : Program} {l : Launch} {e : Env} {R : Room} {s : State} {m : MethodId} {args : Array Value} {below : List Frame} {meth : Method} {c : Code} {E : hm_E} {n0 s0 F : Nat} {r : Int32} {h' : hm_T} (C : hm_C E prog_6_method_16_code 8 "DistanceLabelsModel" 2 55 n0 s0 (hm_n h') (hm_s h') p R s m args c) (hr : meth.sig.returnType = (some .int)) (hlk : meth.locks = false) : ∀ (N : Nat) (x0 : Nat) (x1 : Int32) (x2 : Int32) (h : hm_T), f_R_make_80 F N x0 x1 x2 h = some (r, h') → hm_G E 8 n0 s0 (hm_n h') (hm_s h') p l e R s m args below meth c (MQ below (hm_Qc E (some (.int r)) h') args s (hm_n h' - n0) (hm_s h' - s0) (fun q => E.2.2 ≤ q)) 80 [(0, .ref x0), (1, .int x1), (2, .int x2)] [] h := by
  intro N
  induction N with
  | zero => intro _ _ _ _ hf; cases hf
  | succ n ih => intro x0 x1 x2 h hf; exact w_g_R_make_80 C hr hlk ih hf
set_option maxRecDepth 20000 in
set_option maxHeartbeats 1000000 in
theorem w_f_R_make_71 {p : Program} {l : Launch} {e : Env} {R : Room} {s : State} {m : MethodId} {args : Array Value} {below : List Frame} {meth : Method} {c : Code} {E : hm_E} {n0 s0 F : Nat} {r : Int32} {h h' : hm_T} {x0 : Nat} (C : hm_C E prog_6_method_16_code 8 "DistanceLabelsModel" 2 55 n0 s0 (hm_n h') (hm_s h') p R s m args c) (hr : meth.sig.returnType = (some .int)) (hlk : meth.locks = false) (hf : f_R_make_71 F x0 h = some (r, h')) : hm_G E 8 n0 s0 (hm_n h') (hm_s h') p l e R s m args below meth c (MQ below (hm_Qc E (some (.int r)) h') args s (hm_n h' - n0) (hm_s h' - s0) (fun q => E.2.2 ≤ q)) 71 [(0, .ref x0)] [] h := by
  unfold f_R_make_71 at hf
  refine hm_aload_n C d_R_make_71 rfl 0 rfl ?_
  refine hm_iconst (v := (0 : Int32)) C d_R_make_72 (by decide) ?_
  obtain ⟨h1, eh1, hf⟩ := hm_bind hf
  refine hm_putI C F_4 10 (by decide) rfl k_185 (Or.inl rfl) rfl d_R_make_73 eh1 ?_
  refine hm_iconst (v := (0 : Int32)) C d_R_make_76 (by decide) ?_
  refine hm_istore_n (lv' := [(1, .int (0 : Int32)), (0, .ref x0)]) C d_R_make_77 rfl (by decide) rfl ?_
  refine hm_iconst (v := (0 : Int32)) C d_R_make_78 (by decide) ?_
  refine hm_istore_n (lv' := [(2, .int (0 : Int32)), (1, .int (0 : Int32)), (0, .ref x0)]) C d_R_make_79 rfl (by decide) rfl ?_
  refine hm_sub (lv' := [(0, .ref x0), (1, .int (0 : Int32)), (2, .int (0 : Int32))]) [2, 1, 0] rfl ?_
  exact w_R_make_80L C hr hlk _ _ _ _ _ hf
set_option maxRecDepth 20000 in
set_option maxHeartbeats 1000000 in
theorem w_g_R_make_45 {p : Program} {l : Launch} {e : Env} {R : Room} {s : State} {m : MethodId} {args : Array Value} {below : List Frame} {meth : Method} {c : Code} {E : hm_E} {n0 s0 F : Nat} {r : Int32} {h h' : hm_T} {x0 : Nat} {x1 : Int32} {k45 : Nat → Int32 → hm_T → Option (Int32 × hm_T)} (C : hm_C E prog_6_method_16_code 8 "DistanceLabelsModel" 2 55 n0 s0 (hm_n h') (hm_s h') p R s m args c) (hr : meth.sig.returnType = (some .int)) (hlk : meth.locks = false) (hk45 : ∀ (y0 : Nat) (y1 : Int32) (g : hm_T), k45 y0 y1 g = some (r, h') → hm_G E 8 n0 s0 (hm_n h') (hm_s h') p l e R s m args below meth c (MQ below (hm_Qc E (some (.int r)) h') args s (hm_n h' - n0) (hm_s h' - s0) (fun q => E.2.2 ≤ q)) 45 [(0, .ref y0), (1, .int y1)] [] g) (hf : g_R_make_45 F k45 x0 x1 h = some (r, h')) : hm_G E 8 n0 s0 (hm_n h') (hm_s h') p l e R s m args below meth c (MQ below (hm_Qc E (some (.int r)) h') args s (hm_n h' - n0) (hm_s h' - s0) (fun q => E.2.2 ≤ q)) 45 [(0, .ref x0), (1, .int x1)] [] h := by
  unfold g_R_make_45 at hf
  refine hm_iload_n C d_R_make_45 rfl 1 rfl ?_
  refine hm_aload_n C d_R_make_46 rfl 0 rfl ?_
  obtain ⟨v1, ev1, hf⟩ := hm_bind hf
  refine hm_getI C F_4 1 (by decide) rfl k_159 d_R_make_47 ev1 ?_
  refine hm_icmp_ge (tgt := 71) C d_R_make_50 (by decide) (fun z2 => ?_) (fun z2 => ?_)
  · have hf := hm_ifp hf z2
    refine hm_sub (lv' := [(0, .ref x0)]) [0] rfl ?_
    exact w_f_R_make_71 C hr hlk hf
  · have hf := hm_ifn hf z2
    refine hm_aload_n C d_R_make_53 rfl 0 rfl ?_
    obtain ⟨a3, ea3, hf⟩ := hm_bind hf
    refine hm_getR C F_4 6 (by decide) rfl k_143 d_R_make_54 ea3 ?_
    refine hm_bipush (v := (16 : Int32)) C d_R_make_57 (by decide) ?_
    refine hm_iload_n C d_R_make_59 rfl 1 rfl ?_
    refine hm_imul C d_R_make_60 ?_
    refine hm_iload_n C d_R_make_61 rfl 1 rfl ?_
    refine hm_iadd C d_R_make_62 ?_
    refine hm_iconst (v := (0 : Int32)) C d_R_make_63 (by decide) ?_
    obtain ⟨h4, eh4, hf⟩ := hm_bind hf
    refine hm_iastore C d_R_make_64 eh4 ?_
    refine hm_iinc (v := (x1 + (1 : Int32))) (lv' := [(1, .int (x1 + (1 : Int32))), (0, .ref x0)]) C d_R_make_65 1 rfl rfl (by decide) rfl ?_
    refine hm_goto (tgt := 45) C d_R_make_68 (by decide) ?_
    refine hm_sub (lv' := [(0, .ref x0), (1, .int (x1 + (1 : Int32)))]) [1, 0] rfl ?_
    exact hk45 _ _ _ hf
theorem w_R_make_45L {p : Program} {l : Launch} {e : Env} {R : Room} {s : State} {m : MethodId} {args : Array Value} {below : List Frame} {meth : Method} {c : Code} {E : hm_E} {n0 s0 F : Nat} {r : Int32} {h' : hm_T} (C : hm_C E prog_6_method_16_code 8 "DistanceLabelsModel" 2 55 n0 s0 (hm_n h') (hm_s h') p R s m args c) (hr : meth.sig.returnType = (some .int)) (hlk : meth.locks = false) : ∀ (N : Nat) (x0 : Nat) (x1 : Int32) (h : hm_T), f_R_make_45 F N x0 x1 h = some (r, h') → hm_G E 8 n0 s0 (hm_n h') (hm_s h') p l e R s m args below meth c (MQ below (hm_Qc E (some (.int r)) h') args s (hm_n h' - n0) (hm_s h' - s0) (fun q => E.2.2 ≤ q)) 45 [(0, .ref x0), (1, .int x1)] [] h := by
  intro N
  induction N with
  | zero => intro _ _ _ hf; cases hf
  | succ n ih => intro x0 x1 h hf; exact w_g_R_make_45 C hr hlk ih hf
set_option maxRecDepth 20000 in
set_option maxHeartbeats 1000000 in
theorem w_f_R_make_26 {p : Program} {l : Launch} {e : Env} {R : Room} {s : State} {m : MethodId} {args : Array Value} {below : List Frame} {meth : Method} {c : Code} {E : hm_E} {n0 s0 F : Nat} {r : Int32} {h h' : hm_T} {x0 : Nat} (C : hm_C E prog_6_method_16_code 8 "DistanceLabelsModel" 2 55 n0 s0 (hm_n h') (hm_s h') p R s m args c) (hr : meth.sig.returnType = (some .int)) (hlk : meth.locks = false) (hf : f_R_make_26 F x0 h = some (r, h')) : hm_G E 8 n0 s0 (hm_n h') (hm_s h') p l e R s m args below meth c (MQ below (hm_Qc E (some (.int r)) h') args s (hm_n h' - n0) (hm_s h' - s0) (fun q => E.2.2 ≤ q)) 26 [(0, .ref x0)] [] h := by
  unfold f_R_make_26 at hf
  refine hm_aload_n C d_R_make_26 rfl 0 rfl ?_
  refine hm_aload_n C d_R_make_27 rfl 0 rfl ?_
  obtain ⟨a1, ea1, hf⟩ := hm_bind hf
  refine hm_getR C F_4 2 (by decide) rfl k_138 d_R_make_28 ea1 ?_
  refine hm_aload_n C d_R_make_31 rfl 0 rfl ?_
  obtain ⟨a2, ea2, hf⟩ := hm_bind hf
  refine hm_getR C F_4 6 (by decide) rfl k_143 d_R_make_32 ea2 ?_
  refine hm_iconst (v := (-1 : Int32)) C d_R_make_35 (by decide) ?_
  refine hm_aload_n C d_R_make_36 rfl 0 rfl ?_
  obtain ⟨a3, ea3, hf⟩ := hm_bind hf
  refine hm_getR C F_4 11 (by decide) rfl k_147 d_R_make_37 ea3 ?_
  obtain ⟨u4, eu4, hf⟩ := hm_bind hf
  obtain ⟨h5, eh5, hf⟩ := hm_bind hf
  refine hm_callV (vs := [.ref a1, .ref a2, .int (-1 : Int32), .ref a3]) (st := []) (sb := []) C (c_R_fill eh5) Y_R_fill F_4 eu4 k_180 k_181 k_179 (by decide) (by decide) rfl (Nat.le_of_ble_eq_true rfl) d_R_make_40 rfl rfl ?_
  refine hm_iconst (v := (0 : Int32)) C d_R_make_43 (by decide) ?_
  refine hm_istore_n (lv' := [(1, .int (0 : Int32)), (0, .ref x0)]) C d_R_make_44 rfl (by decide) rfl ?_
  refine hm_sub (lv' := [(0, .ref x0), (1, .int (0 : Int32))]) [1, 0] rfl ?_
  exact w_R_make_45L C hr hlk _ _ _ _ hf
set_option maxRecDepth 20000 in
set_option maxHeartbeats 1000000 in
theorem w_g_R_make_7 {p : Program} {l : Launch} {e : Env} {R : Room} {s : State} {m : MethodId} {args : Array Value} {below : List Frame} {meth : Method} {c : Code} {E : hm_E} {n0 s0 F : Nat} {r : Int32} {h h' : hm_T} {x0 : Nat} {x1 : Int32} {k7 : Nat → Int32 → hm_T → Option (Int32 × hm_T)} (C : hm_C E prog_6_method_16_code 8 "DistanceLabelsModel" 2 55 n0 s0 (hm_n h') (hm_s h') p R s m args c) (hr : meth.sig.returnType = (some .int)) (hlk : meth.locks = false) (hk7 : ∀ (y0 : Nat) (y1 : Int32) (g : hm_T), k7 y0 y1 g = some (r, h') → hm_G E 8 n0 s0 (hm_n h') (hm_s h') p l e R s m args below meth c (MQ below (hm_Qc E (some (.int r)) h') args s (hm_n h' - n0) (hm_s h' - s0) (fun q => E.2.2 ≤ q)) 7 [(0, .ref y0), (1, .int y1)] [] g) (hf : g_R_make_7 F k7 x0 x1 h = some (r, h')) : hm_G E 8 n0 s0 (hm_n h') (hm_s h') p l e R s m args below meth c (MQ below (hm_Qc E (some (.int r)) h') args s (hm_n h' - n0) (hm_s h' - s0) (fun q => E.2.2 ≤ q)) 7 [(0, .ref x0), (1, .int x1)] [] h := by
  unfold g_R_make_7 at hf
  refine hm_iload_n C d_R_make_7 rfl 1 rfl ?_
  refine hm_bipush (v := (16 : Int32)) C d_R_make_8 (by decide) ?_
  refine hm_icmp_ge (tgt := 26) C d_R_make_10 (by decide) (fun z1 => ?_) (fun z1 => ?_)
  · have hf := hm_ifp hf z1
    refine hm_sub (lv' := [(0, .ref x0)]) [0] rfl ?_
    exact w_f_R_make_26 C hr hlk hf
  · have hf := hm_ifn hf z1
    refine hm_aload_n C d_R_make_13 rfl 0 rfl ?_
    obtain ⟨a2, ea2, hf⟩ := hm_bind hf
    refine hm_getR C F_4 11 (by decide) rfl k_147 d_R_make_14 ea2 ?_
    refine hm_iload_n C d_R_make_17 rfl 1 rfl ?_
    refine hm_iconst (v := (0 : Int32)) C d_R_make_18 (by decide) ?_
    obtain ⟨h3, eh3, hf⟩ := hm_bind hf
    refine hm_bastore C d_R_make_19 eh3 ?_
    refine hm_iinc (v := (x1 + (1 : Int32))) (lv' := [(1, .int (x1 + (1 : Int32))), (0, .ref x0)]) C d_R_make_20 1 rfl rfl (by decide) rfl ?_
    refine hm_goto (tgt := 7) C d_R_make_23 (by decide) ?_
    refine hm_sub (lv' := [(0, .ref x0), (1, .int (x1 + (1 : Int32)))]) [1, 0] rfl ?_
    exact hk7 _ _ _ hf
theorem w_R_make_7L {p : Program} {l : Launch} {e : Env} {R : Room} {s : State} {m : MethodId} {args : Array Value} {below : List Frame} {meth : Method} {c : Code} {E : hm_E} {n0 s0 F : Nat} {r : Int32} {h' : hm_T} (C : hm_C E prog_6_method_16_code 8 "DistanceLabelsModel" 2 55 n0 s0 (hm_n h') (hm_s h') p R s m args c) (hr : meth.sig.returnType = (some .int)) (hlk : meth.locks = false) : ∀ (N : Nat) (x0 : Nat) (x1 : Int32) (h : hm_T), f_R_make_7 F N x0 x1 h = some (r, h') → hm_G E 8 n0 s0 (hm_n h') (hm_s h') p l e R s m args below meth c (MQ below (hm_Qc E (some (.int r)) h') args s (hm_n h' - n0) (hm_s h' - s0) (fun q => E.2.2 ≤ q)) 7 [(0, .ref x0), (1, .int x1)] [] h := by
  intro N
  induction N with
  | zero => intro _ _ _ hf; cases hf
  | succ n ih => intro x0 x1 h hf; exact w_g_R_make_7 C hr hlk ih hf
set_option maxRecDepth 20000 in
set_option maxHeartbeats 1000000 in
theorem w_f_R_make {p : Program} {l : Launch} {e : Env} {R : Room} {s : State} {m : MethodId} {args : Array Value} {below : List Frame} {meth : Method} {c : Code} {E : hm_E} {n0 s0 F : Nat} {r : Int32} {h h' : hm_T} {x0 : Nat} (C : hm_C E prog_6_method_16_code 8 "DistanceLabelsModel" 2 55 n0 s0 (hm_n h') (hm_s h') p R s m args c) (hr : meth.sig.returnType = (some .int)) (hlk : meth.locks = false) (hf : f_R_make F x0 h = some (r, h')) : hm_G E 8 n0 s0 (hm_n h') (hm_s h') p l e R s m args below meth c (MQ below (hm_Qc E (some (.int r)) h') args s (hm_n h' - n0) (hm_s h' - s0) (fun q => E.2.2 ≤ q)) 0 [(0, .ref x0)] [] h := by
  unfold f_R_make at hf
  refine hm_aload_n C d_R_make_0 rfl 0 rfl ?_
  refine hm_iconst (v := (0 : Int32)) C d_R_make_1 (by decide) ?_
  obtain ⟨h1, eh1, hf⟩ := hm_bind hf
  refine hm_putI C F_4 0 (by decide) rfl k_158 (Or.inl rfl) rfl d_R_make_2 eh1 ?_
  refine hm_iconst (v := (0 : Int32)) C d_R_make_5 (by decide) ?_
  refine hm_istore_n (lv' := [(1, .int (0 : Int32)), (0, .ref x0)]) C d_R_make_6 rfl (by decide) rfl ?_
  refine hm_sub (lv' := [(0, .ref x0), (1, .int (0 : Int32))]) [1, 0] rfl ?_
  exact w_R_make_7L C hr hlk _ _ _ _ hf
set_option maxRecDepth 20000 in
theorem c_R_make {E : hm_E} {l : Launch} {F : Nat} {r : Int32} {h h' : hm_T} {x0 : Nat} (hf : f_R_make F x0 h = some (r, h')) : hm_M E l y_R_make prog_6_method_16_code 8 (some .int) 2 55 [.ref x0] h (some (.int r)) h' :=
  hm_enter (by decide +kernel) (Nat.le_of_ble_eq_true rfl) (m_f_R_make hf) (fun p e R s m below meth c C hr hlk hin => w_f_R_make C hr hlk hf)
