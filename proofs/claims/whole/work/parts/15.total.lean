/-! total -/
section
variable {rc rs : Int32} {cd sz tn wy fw sq rd rh : Nat → Int32} {yr : Int32} {yw ya ye yh : Nat → Int32} {w : Nat → Nat} {c : Nat}
theorem wc_tf_s {b : Nat} : wc_tf w c (b + 1) = wc_set (wc_tf w c b) (b + 1) (wc_sum (wc_tt w (wc_tf w c b) (b + 1)) c) := rfl
theorem xa_in {post : Int32 → SX → Prop} {J : Int32 → (Nat → Int32) → (Nat → Int32) → (Nat → Int32) → (Nat → Int32) → (Nat → Int32) → (Nat → Int32) → (Nat → Int32) → (Nat → Int32) → Prop} {b : Nat} {x1 : Int32} {F : Nat → Nat}
    (hs : wc_Set w c) (hA : wc_XA w c cd sz) (hb : b ≤ 16) (hF : ∀ j, j < b → sq j = nI (F j))
    (hJ : J (nI (b + 1)) cd sz tn wy fw (upd sq b (nI (wc_sum (wc_tt w F b) c))) rd rh) :
    ∀ m k f, k + m = c → m < f → wX_total_31 post J x1 (nI b) (nI c) rc rs cd sz tn wy fw sq rd rh f (nI (wc_sum (wc_tt w F b) k)) (nI k) := by
  have h6 := hs.1
  intro m
  induction m with
  | zero =>
    intro k f hk hf
    obtain ⟨g, rfl, _⟩ := wn_fuel hf
    have e : k = c := by omega
    subst e
    refine br_t (nI_le (Nat.le_refl _) (by omega)) ⟨vp_in_nI (by omega) (by decide), ?_⟩
    rw [nI_clamp (by omega)]
    exact nm_e (nm_r (nI_1 b) hJ)
  | succ m ih =>
    intro k f hk hf
    obtain ⟨g, rfl, _⟩ := wn_fuel hf
    have hkc : k < c := by omega
    have hw := hs.2.2 k hkc
    have hm := wc_lg7 hw.1 hw.2
    have vk : vp_in (nI k) 6 := vp_in_nI (by omega) (by decide)
    have nx := ih (k + 1) g (by omega) (by omega)
    have sS : wc_sum (wc_tt w F b) (k + 1) = wc_sum (wc_tt w F b) k + wc_tt w F b k := rfl
    refine br_f (nI_ge (by omega) (by omega)) ⟨vk, ?_⟩
    rw [xa_s hA h6 hkc]
    by_cases h : Nat.log2 (w k) ≤ b
    · have e : wc_tt w F b k = F (b - Nat.log2 (w k)) := if_pos h
      rw [sS, e] at nx
      refine br_f (nI_nlt h (by omega)) ⟨vk, ?_⟩
      rw [pk_sub h]
      refine ⟨vp_in_nI (by omega) (by decide), ?_⟩
      rw [nI_clamp (n := b - Nat.log2 (w k)) (by omega), hF _ (by omega)]
      exact nm_r (nI_add _ _) (nm_r (nI_1 k) nx)
    · have e : wc_tt w F b k = 0 := if_neg h
      rw [sS, e, Nat.add_zero] at nx
      exact br_t (nI_lt (by omega) (by omega)) (nm_r (nI_1 k) nx)
theorem xa_out {post : Int32 → SX → Prop} {n : Nat} (hs : wc_Set w c) (hA : wc_XA w c cd sz) (hn : n ≤ 16)
    (hp : ∀ sq', post (nI (wc_tf w c n n)) (nI c, rc, rs, cd, sz, tn, wy, fw, sq', rd, rh)) :
    ∀ m b f sq, b + m = n → m < f → (∀ j, j ≤ b → sq j = nI (wc_tf w c b j)) → wX_total_21 post (nI n) (nI c) rc rs f (nI (b + 1)) cd sz tn wy fw sq rd rh := by
  intro m
  induction m with
  | zero =>
    intro b f sq hb hf h
    obtain ⟨g, rfl, _⟩ := wn_fuel hf
    have e : b = n := by omega
    subst e
    refine br_t (nI_lt (by omega) (by omega)) ⟨vp_in_nI (by omega) (by decide), ?_⟩
    rw [nI_clamp (by omega), h b (Nat.le_refl _)]
    exact hp sq
  | succ m ih =>
    intro b f sq hb hf h
    obtain ⟨g, rfl, _⟩ := wn_fuel hf
    refine br_f (nI_nlt (by omega) (by omega)) ⟨c + 1, xa_in (F := wc_tf w c b) hs hA (by omega) (fun j hj => h j (by omega)) ?_ c 0 (c + 1) (by omega) (by omega)⟩
    refine ih (b + 1) g _ (by omega) (by omega) (fun j hj => ?_)
    rw [wc_tf_s]
    by_cases e : j = b + 1
    · rw [e, pk_us, wc_set_s]
    · rw [pk_un e, wc_set_n e]
      exact h j (by omega)
theorem yb_in {post : Int32 → SY → Prop} {J : Int32 → (Nat → Int32) → (Nat → Int32) → (Nat → Int32) → (Nat → Int32) → Prop} {b : Nat} {x1 : Int32} {F : Nat → Nat}
    (hs : wc_Set w c) (hA : wc_YA w c yw) (hb : b ≤ 16)
    (hJ : ∀ ya', ya' b = nI (wc_sum (wc_tt w F b) c) → (∀ j, j < b → ya' j = nI (F j)) → J (nI (b + 1)) yw ya' ye yh) :
    ∀ m k f ya, k + m = c → m < f → ya b = nI (wc_sum (wc_tt w F b) k) → (∀ j, j < b → ya j = nI (F j)) → wY_total_35 post J x1 (nI b) (nI c) yr f (nI k) yw ya ye yh := by
  have h6 := hs.1
  intro m
  induction m with
  | zero =>
    intro k f ya hk hf ha hF
    obtain ⟨g, rfl, _⟩ := wn_fuel hf
    have e : k = c := by omega
    subst e
    exact br_t (nI_le (Nat.le_refl _) (by omega)) (nm_r (nI_1 b) (hJ ya ha hF))
  | succ m ih =>
    intro k f ya hk hf ha hF
    obtain ⟨g, rfl, _⟩ := wn_fuel hf
    have hkc : k < c := by omega
    have hw := hs.2.2 k hkc
    have hm := wc_lg7 hw.1 hw.2
    have sS : wc_sum (wc_tt w F b) (k + 1) = wc_sum (wc_tt w F b) k + wc_tt w F b k := rfl
    refine br_f (nI_ge (by omega) (by omega)) ⟨vp_in_nI (by omega) (by decide), ys_len (w k) (ya_w hA h6 hkc) (by omega) ?_⟩
    by_cases h : Nat.log2 (w k) ≤ b
    · have e : wc_tt w F b k = F (b - Nat.log2 (w k)) := if_pos h
      rw [e] at sS
      have vb : vp_in (nI b) 18 := vp_in_nI (by omega) (by decide)
      refine br_f (nI_nlt h (by omega)) ⟨vb, ?_⟩
      rw [pk_sub h]
      refine ⟨vp_in_nI (by omega) (by decide), vb, ?_⟩
      rw [nI_clamp (n := b) (by omega), nI_clamp (n := b - Nat.log2 (w k)) (by omega), ha, hF (b - Nat.log2 (w k)) (by omega), nI_add, ← sS]
      refine nm_e (nm_r (nI_1 k) (ih (k + 1) g _ (by omega) (by omega) pk_us (fun j hj => ?_)))
      rw [pk_un (by omega)]
      exact hF j hj
    · have e : wc_tt w F b k = 0 := if_neg h
      rw [e, Nat.add_zero] at sS
      exact br_t (nI_lt (by omega) (by omega)) (nm_r (nI_1 k) (ih (k + 1) g ya (by omega) (by omega) (by rw [sS]; exact ha) hF))
theorem yb_out {post : Int32 → SY → Prop} {n : Nat} (hs : wc_Set w c) (hA : wc_YA w c yw) (hn : n ≤ 16)
    (hp : ∀ ya', post (nI (wc_tf w c n n)) (nI c, yr, yw, ya', ye, yh)) :
    ∀ m b f ya, b + m = n → m < f → (∀ j, j ≤ b → ya j = nI (wc_tf w c b j)) → wY_total_21 post (nI n) (nI c) yr f (nI (b + 1)) yw ya ye yh := by
  intro m
  induction m with
  | zero =>
    intro b f ya hb hf h
    obtain ⟨g, rfl, _⟩ := wn_fuel hf
    have e : b = n := by omega
    subst e
    refine br_t (nI_lt (by omega) (by omega)) ⟨vp_in_nI (by omega) (by decide), ?_⟩
    rw [nI_clamp (by omega), h b (Nat.le_refl _)]
    exact hp ya
  | succ m ih =>
    intro b f ya hb hf h
    obtain ⟨g, rfl, _⟩ := wn_fuel hf
    refine br_f (nI_nlt (by omega) (by omega)) ⟨vp_in_nI (by omega) (by decide), ?_⟩
    rw [nI_clamp (by omega)]
    refine nm_e ⟨c + 1, yb_in (F := wc_tf w c b) hs hA (by omega) (fun ya' h1 h2 => ?_) c 0 (c + 1) _ (by omega) (by omega) pk_us (fun j hj => ?_)⟩
    · refine ih (b + 1) g _ (by omega) (by omega) (fun j hj => ?_)
      rw [wc_tf_s]
      by_cases e : j = b + 1
      · rw [e, wc_set_s]
        exact h1
      · rw [wc_set_n e]
        exact h2 j (by omega)
    · rw [pk_un (by omega)]
      exact h j (by omega)
end
theorem i_vc_total {k : Nat} {u : SX} {v : SY} (I : i_Rel k u v) (hk : k + 3 ≤ 1536) (v1 : Int32) : wpX_total (fun r u' => wpY_total (fun r' v' => r' = r ∧ i_Rel (k + 3) u' v') v v1) u v1 := by
  obtain ⟨c, R, w, cd, sz, tn, wy, fw, sq, rd, rh, yw, ya, ye, yh, rfl, rfl, hs, hX, hY, h0, h1⟩ := I
  have J : i_Rel (k + 3) (nI c, nI R, nI (Nat.log2 R), cd, sz, tn, wy, fw, sq, rd, rh) (nI c, nI R, yw, ya, ye, yh) := i_mk hs hX hY h0 h1
  unfold wpX_total wpY_total
  dsimp only
  by_cases a : v1 < 0
  · exact br_t a (br_t a ⟨rfl, J⟩)
  by_cases b : v1 ≤ 16
  · obtain ⟨n, rfl, hn⟩ := wn_0t (b := 16) (by decide) a b
    have st : ∀ (z : Nat → Int32) j, j ≤ 0 → upd z 0 1 j = nI (wc_tf w c 0 j) := fun z j hj => by
      have e : j = 0 := by omega
      rw [e, pk_us]
      rfl
    refine br_f a (br_t b (nm_e ⟨n + 1, xa_out hs hX hn (fun sq' => ?_) n 0 (n + 1) _ (by omega) (by omega) (st sq)⟩))
    exact br_f a (br_t b (nm_e ⟨n + 1, yb_out hs hY hn (fun ya' => ⟨rfl, i_mk hs hX hY h0 h1⟩) n 0 (n + 1) _ (by omega) (by omega) (st ya)⟩))
  · exact br_f a (br_f b (br_f a (br_f b ⟨rfl, J⟩)))
