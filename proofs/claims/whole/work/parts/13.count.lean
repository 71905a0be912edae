/-! the readings counted on both sides -/
theorem wn_m1 (q : Nat) : nI q + (-1) = nI q - 1 := (Int32.sub_eq_add_neg (nI q) 1).symm
section
variable {rc rs : Int32} {cd sz tn wy fw sq rd rh : Nat → Int32} {yr : Int32} {yw ya ye yh : Nat → Int32} {w : Nat → Nat} {c : Nat}
theorem xc_in {post : Int32 → SX → Prop} {J : Int32 → (Nat → Int32) → (Nat → Int32) → (Nat → Int32) → (Nat → Int32) → (Nat → Int32) → (Nat → Int32) → (Nat → Int32) → (Nat → Int32) → Prop} {code n p : Nat} {F : Nat → Nat}
    (hs : wc_Set w c) (hA : wc_XA w c cd sz) (hcode : code < 2 ^ 31) (hn : n ≤ 16) (hp : p < n) (hW : ∀ j, p < j → j ≤ n → wy j = nI (F j))
    (hJ : J (nI p + (-1)) cd sz tn (upd wy p (nI (wc_sum (wc_thr w code n F 0 p) c))) fw sq rd rh) :
    ∀ m k f, k + m = c → m < f → wX_countReadings_21 post J (nI code) (nI n) (nI p) (nI c) rc rs cd sz tn wy fw sq rd rh f (nI (wc_sum (wc_thr w code n F 0 p) k)) (nI k) := by
  have h6 := hs.1
  intro m
  induction m with
  | zero =>
    intro k f hk hf
    obtain ⟨g, rfl, _⟩ := wn_fuel hf
    have e : k = c := by omega
    subst e
    refine br_t (nI_le (Nat.le_refl _) (by omega)) ⟨vp_in_nI (by omega) (by decide), ?_⟩
    rw [nI_clamp (by omega)]
    exact nm_e (nm_e hJ)
  | succ m ih =>
    intro k f hk hf
    obtain ⟨g, rfl, _⟩ := wn_fuel hf
    refine br_f (nI_ge (by omega) (by omega)) (xs_ways hs hA hcode hn hp (by omega) hW ?_)
    exact nm_r (nI_add _ _) (nm_r (nI_1 k) (ih (k + 1) g (by omega) (by omega)))
theorem xc_out {post : Int32 → SX → Prop} {code n : Nat} {F : Nat → Nat} (hs : wc_Set w c) (hA : wc_XA w c cd sz) (hcode : code < 2 ^ 31) (hn : n ≤ 16) (hF : wc_W w c code n F)
    (hp : ∀ wy', (∀ j, j ≤ n → wy' j = nI (F j)) → post (nI (F 0)) (nI c, rc, rs, cd, sz, tn, wy', fw, sq, rd, rh)) :
    ∀ q f wy, q ≤ n → q < f → (∀ j, q ≤ j → j ≤ n → wy j = nI (F j)) → wX_countReadings_11 post (nI code) (nI n) (nI c) rc rs f (nI q - 1) cd sz tn wy fw sq rd rh := by
  intro q
  induction q with
  | zero =>
    intro f wy hq hf h
    obtain ⟨g, rfl, _⟩ := wn_fuel hf
    refine br_t (by decide) ?_
    rw [h 0 (Nat.le_refl _) hq]
    exact hp wy (fun j hj => h j (Nat.zero_le _) hj)
  | succ q ih =>
    intro f wy hq hf h
    obtain ⟨g, rfl, _⟩ := wn_fuel hf
    rw [nI_pred]
    refine br_f (nI_pos (by omega)) ⟨c + 1, xc_in hs hA hcode hn (by omega) (fun j h1 h2 => h j (by omega) h2) ?_ c 0 (c + 1) (by omega) (by omega)⟩
    rw [wn_m1, ← hF.2 q (by omega)]
    refine ih g _ (by omega) (by omega) (fun j h1 h2 => ?_)
    by_cases e : j = q
    · rw [e, pk_us]
    · rw [pk_un e]
      exact h j (by omega) h2
theorem xs_count {post : Int32 → SX → Prop} {code n : Nat} {F : Nat → Nat} (hs : wc_Set w c) (hA : wc_XA w c cd sz) (hcode : code < 2 ^ 31) (hn : n ≤ 16) (hF : wc_W w c code n F)
    (hp : ∀ wy', (∀ j, j ≤ n → wy' j = nI (F j)) → post (nI (F 0)) (nI c, rc, rs, cd, sz, tn, wy', fw, sq, rd, rh)) :
    wpX_countReadings post (nI c, rc, rs, cd, sz, tn, wy, fw, sq, rd, rh) (nI code) (nI n) := by
  unfold wpX_countReadings
  dsimp only
  refine ⟨vp_in_nI (by omega) (by decide), ?_⟩
  rw [nI_clamp (by omega)]
  refine nm_e (nm_e ⟨n + 1, xc_out hs hA hcode hn hF hp n (n + 1) _ (Nat.le_refl _) (by omega) (fun j h1 h2 => ?_)⟩)
  have e : j = n := by omega
  rw [e, pk_us, hF.1]
  rfl
theorem yc_in {post : Int32 → SY → Prop} {J : Int32 → (Nat → Int32) → (Nat → Int32) → (Nat → Int32) → (Nat → Int32) → Prop} {code n p : Nat} {F G : Nat → Nat}
    (hs : wc_Set w c) (hA : wc_YA w c yw) (hcode : code < 2 ^ 31) (hn : n ≤ 16) (hp : p < n)
    (hFG : ∀ j, j ≤ n → (F j = 0 ↔ G j = 99) ∧ F j ≤ 65536 ∧ (G j = 99 ∨ G j ≤ 16))
    (hJ : ∀ ya' ye', ya' p = nI (wc_sum (wc_thr w code n F 0 p) c) → ye' p = nI (wc_mn (wc_thr w code n G 99 p) c) → (∀ j, p < j → j ≤ n → ya' j = nI (F j) ∧ ye' j = nI (G j)) → J (nI p + (-1)) yw ya' ye' yh) :
    ∀ m k f ya ye, k + m = c → m < f → ya p = nI (wc_sum (wc_thr w code n F 0 p) k) → ye p = nI (wc_mn (wc_thr w code n G 99 p) k) → (∀ j, p < j → j ≤ n → ya j = nI (F j) ∧ ye j = nI (G j)) →
    wY_count_46 post J (nI code) (nI n) (nI p) (nI c) yr f (nI k) yw ya ye yh := by
  have h6 := hs.1
  intro m
  induction m with
  | zero =>
    intro k f ya ye hk hf ha he hr
    obtain ⟨g, rfl, _⟩ := wn_fuel hf
    have e : k = c := by omega
    subst e
    exact br_t (nI_le (Nat.le_refl _) (by omega)) (nm_e (hJ ya ye ha he hr))
  | succ m ih =>
    intro k f ya ye hk hf ha he hr
    obtain ⟨g, rfl, _⟩ := wn_fuel hf
    have hkc : k < c := by omega
    have hw := hs.2.2 k hkc
    have hm := wc_lg7 hw.1 hw.2
    have vk : vp_in (nI k) 7 := vp_in_nI (by omega) (by decide)
    have sS : wc_sum (wc_thr w code n F 0 p) (k + 1) = wc_sum (wc_thr w code n F 0 p) k + wc_thr w code n F 0 p k := rfl
    have sM := wc_mn_s (T := wc_thr w code n G 99 p) (k := k)
    refine br_f (nI_ge (by omega) (by omega)) ⟨vk, ys_stands (w k) (ya_w hA h6 hkc) hw.1 hw.2 hcode hn (by omega) (fun z => ?_) (fun z => ?_)⟩
    · have hl := wc_st_le z
      rw [wc_thr_t z] at sS sM
      refine br_f (by decide) ⟨vk, ys_len (w k) (ya_w hA h6 hkc) (by omega) (nm_r (nI_add p _) ?_)⟩
      generalize hx5 : p + Nat.log2 (w k) = x5 at *
      have hx : p < x5 := by omega
      have r5 := hr x5 hx hl
      have q5 := hFG x5 hl
      have vp : vp_in (nI p) 18 := vp_in_nI (by omega) (by decide)
      have v5 : vp_in (nI x5) 18 := vp_in_nI (by omega) (by decide)
      rw [nI_clamp (n := p) (by omega), nI_clamp (n := x5) (by omega), ha, r5.1, r5.2, he, nI_add, ← sS]
      refine ⟨vp, v5, vp, nm_e ⟨v5, ?_⟩⟩
      rw [pk_un (show x5 ≠ p by omega), r5.1]
      have hr' : ∀ j, p < j → j ≤ n → upd ya p (nI (wc_sum (wc_thr w code n F 0 p) (k + 1))) j = nI (F j) ∧ ye j = nI (G j) := fun j h1 h2 => by
        rw [pk_un (by omega)]
        exact hr j h1 h2
      by_cases f0 : F x5 = 0
      · have g9 := q5.1.mp f0
        rw [if_neg (by omega)] at sM
        refine br_t ?_ (nm_r (nI_1 k) (ih (k + 1) g _ _ (by omega) (by omega) pk_us (by rw [sM]; exact he) hr'))
        rw [f0]
        decide
      · have g9 : G x5 ≤ 16 := by
          rcases q5.2.2 with y | y
          · exact absurd (q5.1.mpr y) f0
          · exact y
        have mb := wc_mn_bnd (T := wc_thr w code n G 99 p) (m := 99) (c := k) (fun i hi => by
          by_cases hst : wc_st code n p (w i) = true
          · rw [wc_thr_t hst]
            have := hFG _ (wc_st_le hst)
            omega
          · rw [wc_thr_f hst]
            exact Or.inl rfl)
        refine br_f (nI_nle (by omega) (by omega)) ⟨v5, vp, ?_⟩
        rw [nI_1 (G x5)]
        by_cases h : wc_mn (wc_thr w code n G 99 p) k ≤ G x5 + 1
        · rw [if_neg (by omega)] at sM
          exact br_t (nI_le h (by omega)) (nm_r (nI_1 k) (ih (k + 1) g _ _ (by omega) (by omega) pk_us (by rw [sM]; exact he) hr'))
        · rw [if_pos (by omega)] at sM
          refine br_f (nI_ge (by omega) (by omega)) ⟨v5, vp, nm_e (nm_r (nI_1 k) (ih (k + 1) g _ _ (by omega) (by omega) pk_us (by rw [sM, pk_us]) (fun j h1 h2 => ?_)))⟩
          rw [pk_un (show j ≠ p by omega), pk_un (show j ≠ p by omega)]
          exact hr j h1 h2
    · rw [wc_thr_f z] at sS sM
      rw [if_neg (by omega)] at sM
      exact br_t rfl (nm_r (nI_1 k) (ih (k + 1) g ya ye (by omega) (by omega) (by rw [sS]; exact ha) (by rw [sM]; exact he) hr))
theorem yc_out {post : Int32 → SY → Prop} {code n : Nat} {F G : Nat → Nat} (hs : wc_Set w c) (hA : wc_YA w c yw) (hcode : code < 2 ^ 31) (hn : n ≤ 16) (hF : wc_W w c code n F) (hG : wc_G w c code n G)
    (hFG : ∀ j, j ≤ n → (F j = 0 ↔ G j = 99) ∧ F j ≤ 65536 ∧ (G j = 99 ∨ G j ≤ 16))
    (hp : ∀ ya' ye', (∀ j, j ≤ n → ya' j = nI (F j) ∧ ye' j = nI (G j)) → post (nI (F 0)) (nI c, yr, yw, ya', ye', yh)) :
    ∀ q f ya ye, q ≤ n → q < f → (∀ j, q ≤ j → j ≤ n → ya j = nI (F j) ∧ ye j = nI (G j)) → wY_count_24 post (nI code) (nI n) (nI c) yr f (nI q - 1) yw ya ye yh := by
  intro q
  induction q with
  | zero =>
    intro f ya ye hq hf h
    obtain ⟨g, rfl, _⟩ := wn_fuel hf
    refine br_t (by decide) ?_
    rw [(h 0 (Nat.le_refl _) hq).1]
    exact hp ya ye (fun j hj => h j (Nat.zero_le _) hj)
  | succ q ih =>
    intro f ya ye hq hf h
    obtain ⟨g, rfl, _⟩ := wn_fuel hf
    rw [nI_pred]
    have vq : vp_in (nI q) 18 := vp_in_nI (by omega) (by decide)
    refine br_f (nI_pos (by omega)) ⟨vq, ?_⟩
    rw [nI_clamp (by omega)]
    refine nm_e ⟨vq, nm_e ⟨c + 1, yc_in hs hA hcode hn (by omega) hFG (fun ya' ye' h1 h2 h3 => ?_) c 0 (c + 1) _ _ (by omega) (by omega) pk_us pk_us (fun j h1 h2 => ?_)⟩⟩
    · rw [wn_m1]
      refine ih g ya' ye' (by omega) (by omega) (fun j h4 h5 => ?_)
      by_cases e : j = q
      · rw [e, hF.2 q (by omega), hG.2 q (by omega)]
        exact ⟨h1, h2⟩
      · exact h3 j (by omega) h5
    · rw [pk_un (by omega), pk_un (by omega)]
      exact h j (by omega) h2
theorem wc_FG {code n : Nat} {F G : Nat → Nat} (hs : wc_Set w c) (hn : n ≤ 16) (hF : wc_W w c code n F) (hG : wc_G w c code n G) : ∀ j, j ≤ n → (F j = 0 ↔ G j = 99) ∧ F j ≤ 65536 ∧ (G j = 99 ∨ G j ≤ 16) := by
  intro j hj
  refine ⟨wc_GW hs hn hF hG (n - j) j (by omega), wc_W_16 hs hF hn hj, ?_⟩
  have := wc_G_bnd hs hG (n - j) j (by omega)
  omega
theorem ys_count {post : Int32 → SY → Prop} {code n : Nat} {F G : Nat → Nat} (hs : wc_Set w c) (hA : wc_YA w c yw) (hcode : code < 2 ^ 31) (hn : n ≤ 16) (hl : Nat.log2 code = n) (hF : wc_W w c code n F) (hG : wc_G w c code n G)
    (hp : ∀ ya' ye', (∀ j, j ≤ n → ya' j = nI (F j) ∧ ye' j = nI (G j)) → post (nI (F 0)) (nI c, yr, yw, ya', ye', yh)) :
    wpY_count post (nI c, yr, yw, ya, ye, yh) (nI code) := by
  unfold wpY_count
  dsimp only
  refine ys_len code rfl hcode ?_
  rw [hl]
  have vn : vp_in (nI n) 18 := vp_in_nI (by omega) (by decide)
  refine ⟨vn, ?_⟩
  rw [nI_clamp (by omega)]
  refine nm_e ⟨vn, nm_e (nm_e ⟨n + 1, yc_out hs hA hcode hn hF hG (wc_FG hs hn hF hG) hp n (n + 1) _ _ (Nat.le_refl _) (by omega) (fun j h1 h2 => ?_)⟩)⟩
  have e : j = n := by omega
  rw [e, pk_us, pk_us, hF.1, hG.1]
  exact ⟨rfl, rfl⟩
end
theorem i_vc_readings {k : Nat} {u : SX} {v : SY} (I : i_Rel k u v) (hk : k + 3 ≤ 1536) : wpX_readings (fun r u' => wpY_readings (fun r' v' => r' = r ∧ i_Rel (k + 3) u' v') v) u := by
  obtain ⟨c, R, w, cd, sz, tn, wy, fw, sq, rd, rh, yw, ya, ye, yh, rfl, rfl, hs, hX, hY, h0, h1⟩ := I
  have h16 := wn_r16 h0 h1
  unfold wpX_readings wpY_readings
  dsimp only
  refine xs_count hs hX (by omega) h16 (wc_wf_W hs) (fun wy' hw' => ?_)
  exact ys_count hs hY (by omega) h16 rfl (wc_wf_W hs) (wc_gf_G hs) (fun ya' ye' _ => ⟨rfl, i_mk hs hX hY h0 h1⟩)
