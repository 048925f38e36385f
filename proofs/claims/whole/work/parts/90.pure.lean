theorem law_ok : Law_ok := fun n L xs hL => by
  obtain ⟨K2, K4, R2, R4, I1, I2, I3, I4, K1, K3, R1, R3, e1, e2, e3, e4, SD, SR, hs⟩ := begun (F := 5000) (K := fun _ => none) (R := fun _ _ => none) (I := fun _ _ => 0) (Nat.le_refl _) n
  obtain ⟨I', e5⟩ := law_loop (F := 5000) (n := n + 167) (s := 24562) (xs := xs) (Nat.le_refl _) hL SD SR 5000 0 (Nat.zero_le _) (by omega) I4 gBg hs
  refine ⟨5000, hp K4 R4 (n + 167) 24562 I', ?_, ?_, ?_⟩
  · have e0 : hm_h0 n = hp (fun _ => none) (fun _ _ => none) n 0 (fun _ _ => 0) := rfl
    rw [nI_0] at e5
    unfold f_W_law
    rw [e0, e1, hm_and_some, e2, Option.bind_some, e3, hm_and_some, e4, Option.bind_some]
    exact e5
  · show n + 167 ≤ n + 600000
    omega
  · show 24562 ≤ 7302250
    omega
