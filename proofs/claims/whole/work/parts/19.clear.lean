/-! isClear, shortest -/
theorem wc_meet {w : Nat → Nat} {c : Nat} (hs : wc_Set w c) : ∃ V, V ≤ 999 ∧ wc_bi w c (wc_s1 w c c) 64 = V ∧ wc_xl w (wc_it w c 64 (wc_s1 w c c)) c = V :=
  ⟨_, (wc_bi_B1 64).2, rfl, (wc_least hs.2.2 (wc_s1_bd hs.2.2 c (Nat.le_refl c))).symm⟩
theorem i_vc_isClear {k : Nat} {u : SX} {v : SY} (I : i_Rel k u v) (hk : k + 3 ≤ 1536) : wpX_isClear (fun r u' => wpY_isClear (fun r' v' => r' = r ∧ i_Rel (k + 3) u' v') v) u := by
  obtain ⟨c, R, w, cd, sz, tn, wy, fw, sq, rd, rh, yw, ya, ye, yh, rfl, rfl, hs, hX, hY, h0, h1⟩ := I
  obtain ⟨V, hV, e1, e2⟩ := wc_meet hs
  unfold wpX_isClear wpY_isClear
  dsimp only
  refine xs_least hs hX (fun rh' => ?_)
  rw [e2]
  by_cases h : V = 999
  · refine br_t (by rw [h]; rfl) (ys_short hs hY (fun yh' => ?_))
    rw [e1]
    exact br_t (by rw [h]; rfl) ⟨rfl, i_mk hs hX hY h0 h1⟩
  · refine br_f (by rw [wc_xr_n h]; exact wn_4 (by omega)) (ys_short hs hY (fun yh' => ?_))
    rw [e1]
    exact pk_eq V 999 (fun e => absurd e h) (fun _ => ⟨rfl, i_mk hs hX hY h0 h1⟩)
theorem i_vc_shortest {k : Nat} {u : SX} {v : SY} (I : i_Rel k u v) (hk : k + 3 ≤ 1536) : wpX_shortest (fun r u' => wpY_shortest (fun r' v' => r' = r ∧ i_Rel (k + 3) u' v') v) u := by
  obtain ⟨c, R, w, cd, sz, tn, wy, fw, sq, rd, rh, yw, ya, ye, yh, rfl, rfl, hs, hX, hY, h0, h1⟩ := I
  obtain ⟨V, hV, e1, e2⟩ := wc_meet hs
  unfold wpX_shortest wpY_shortest
  dsimp only
  refine xs_least hs hX (fun rh' => ys_short hs hY (fun yh' => ?_))
  rw [e1, e2]
  refine pk_eq V 999 (fun e => ⟨?_, i_mk hs hX hY h0 h1⟩) (fun e => ⟨?_, i_mk hs hX hY h0 h1⟩)
  · rw [e]
    rfl
  · rw [wc_xr_n e]
