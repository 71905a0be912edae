/-! free and weight -/
section
variable {rc rs : Int32} {cd sz tn wy fw sq rd rh : Nat → Int32} {yr : Int32} {yw ya ye yh : Nat → Int32} {w : Nat → Nat} {c : Nat}
theorem xf_in {post : Int32 → Prop} {J : Int32 → Prop} (hs : wc_Set w c) (hA : wc_XA w c cd sz) {i : Nat} (hi : i < c) : ∀ m j f, j + m = c → m < f →
    ((∃ j', j ≤ j' ∧ j' < c ∧ wc_bg (w i) (w j') = true) → post 0) → ((∀ j', j ≤ j' → j' < c → ¬ wc_bg (w i) (w j') = true) → J (nI (i + 1))) → wX_free_12 post J (nI i) (nI c) rc rs cd sz tn wy fw sq rd rh f (nI j) := by
  have h6 := hs.1
  intro m
  induction m with
  | zero =>
    intro j f hj hf a b
    obtain ⟨g, rfl, hg⟩ := wn_fuel hf
    exact br_t (nI_le (by omega) (by omega)) (nm_r (nI_1 i) (b (fun j' q1 q2 => by omega)))
  | succ m ih =>
    intro j f hj hf a b
    obtain ⟨g, rfl, hg⟩ := wn_fuel hf
    have hwi := hs.2.2 i hi
    have hwj := hs.2.2 j (by omega)
    refine br_f (nI_ge (by omega) (by omega)) ⟨vp_in_nI (by omega) (by decide), vp_in_nI (by omega) (by decide), ?_⟩
    refine xs_begin (w i) (w j) (xa_c hA h6 hi) (xa_c hA h6 (by omega)) hwi.1 hwi.2 hwj.1 hwj.2 (fun z => ?_) (fun z => ?_)
    · exact br_f (by decide) (a ⟨j, Nat.le_refl _, by omega, z⟩)
    · refine br_t rfl (nm_r (nI_1 j) (ih (j + 1) g (by omega) (by omega) ?_ ?_))
      · exact fun ⟨j', q1, q2, q3⟩ => a ⟨j', by omega, q2, q3⟩
      · intro q
        refine b (fun j' q1 q2 => ?_)
        rcases Nat.lt_or_ge j j' with y | y
        · exact q j' y q2
        · have e : j' = j := by omega
          rw [e]
          exact z
theorem xf_out {post : Int32 → Prop} (hs : wc_Set w c) (hA : wc_XA w c cd sz) : ∀ m i f, i + m = c → m < f →
    ((∃ i' j', i ≤ i' ∧ i' < c ∧ j' < c ∧ wc_bg (w i') (w j') = true) → post 0) → ((∀ i' j', i ≤ i' → i' < c → j' < c → ¬ wc_bg (w i') (w j') = true) → post 1) → wX_free_2 post (nI c) rc rs cd sz tn wy fw sq rd rh f (nI i) := by
  have h6 := hs.1
  intro m
  induction m with
  | zero =>
    intro i f hi hf a b
    obtain ⟨g, rfl, hg⟩ := wn_fuel hf
    exact br_t (nI_le (by omega) (by omega)) (b (fun i' j' q1 q2 => by omega))
  | succ m ih =>
    intro i f hi hf a b
    obtain ⟨g, rfl, hg⟩ := wn_fuel hf
    refine br_f (nI_ge (by omega) (by omega)) ⟨c + 1, xf_in hs hA (by omega) c 0 (c + 1) (by omega) (by omega) ?_ ?_⟩
    · exact fun ⟨j', _, q2, q3⟩ => a ⟨i, j', Nat.le_refl _, by omega, q2, q3⟩
    · intro q
      refine ih (i + 1) g (by omega) (by omega) ?_ ?_
      · exact fun ⟨i', j', q1, q2, q3, q4⟩ => a ⟨i', j', by omega, q2, q3, q4⟩
      · intro y
        refine b (fun i' j' q1 q2 q3 => ?_)
        rcases Nat.lt_or_ge i i' with x | x
        · exact y i' j' x q2 q3
        · have e : i' = i := by omega
          rw [e]
          exact q j' (Nat.zero_le _) q3
theorem yf_in {post : Int32 → Prop} {J : Int32 → Prop} (hs : wc_Set w c) (hA : wc_YA w c yw) {i : Nat} (hi : i < c) : ∀ m j f, j + m = c → m < f →
    ((∃ j', j ≤ j' ∧ j' < c ∧ wc_bg (w i) (w j') = true) → post 0) → ((∀ j', j ≤ j' → j' < c → ¬ wc_bg (w i) (w j') = true) → J (nI (i + 1))) → wY_free_12 post J (nI i) (nI c) yr yw ya ye yh f (nI j) := by
  have h6 := hs.1
  intro m
  induction m with
  | zero =>
    intro j f hj hf a b
    obtain ⟨g, rfl, hg⟩ := wn_fuel hf
    exact br_t (nI_le (by omega) (by omega)) (nm_r (nI_1 i) (b (fun j' q1 q2 => by omega)))
  | succ m ih =>
    intro j f hj hf a b
    obtain ⟨g, rfl, hg⟩ := wn_fuel hf
    have hwi := hs.2.2 i hi
    have hwj := hs.2.2 j (by omega)
    refine br_f (nI_ge (by omega) (by omega)) ⟨vp_in_nI (by omega) (by decide), vp_in_nI (by omega) (by decide), ?_⟩
    refine ys_begin (w i) (w j) (ya_w hA h6 hi) (ya_w hA h6 (by omega)) hwi.1 hwi.2 hwj.1 hwj.2 (fun z => ?_) (fun z => ?_)
    · exact br_f (by decide) (a ⟨j, Nat.le_refl _, by omega, z⟩)
    · refine br_t rfl (nm_r (nI_1 j) (ih (j + 1) g (by omega) (by omega) ?_ ?_))
      · exact fun ⟨j', q1, q2, q3⟩ => a ⟨j', by omega, q2, q3⟩
      · intro q
        refine b (fun j' q1 q2 => ?_)
        rcases Nat.lt_or_ge j j' with y | y
        · exact q j' y q2
        · have e : j' = j := by omega
          rw [e]
          exact z
theorem yf_out {post : Int32 → Prop} (hs : wc_Set w c) (hA : wc_YA w c yw) : ∀ m i f, i + m = c → m < f →
    ((∃ i' j', i ≤ i' ∧ i' < c ∧ j' < c ∧ wc_bg (w i') (w j') = true) → post 0) → ((∀ i' j', i ≤ i' → i' < c → j' < c → ¬ wc_bg (w i') (w j') = true) → post 1) → wY_free_2 post (nI c) yr yw ya ye yh f (nI i) := by
  have h6 := hs.1
  intro m
  induction m with
  | zero =>
    intro i f hi hf a b
    obtain ⟨g, rfl, hg⟩ := wn_fuel hf
    exact br_t (nI_le (by omega) (by omega)) (b (fun i' j' q1 q2 => by omega))
  | succ m ih =>
    intro i f hi hf a b
    obtain ⟨g, rfl, hg⟩ := wn_fuel hf
    refine br_f (nI_ge (by omega) (by omega)) ⟨c + 1, yf_in hs hA (by omega) c 0 (c + 1) (by omega) (by omega) ?_ ?_⟩
    · exact fun ⟨j', _, q2, q3⟩ => a ⟨i, j', Nat.le_refl _, by omega, q2, q3⟩
    · intro q
      refine ih (i + 1) g (by omega) (by omega) ?_ ?_
      · exact fun ⟨i', j', q1, q2, q3, q4⟩ => a ⟨i', j', by omega, q2, q3, q4⟩
      · intro y
        refine b (fun i' j' q1 q2 q3 => ?_)
        rcases Nat.lt_or_ge i i' with x | x
        · exact y i' j' x q2 q3
        · have e : i' = i := by omega
          rw [e]
          exact q j' (Nat.zero_le _) q3
def wc_wt (s : Nat) : Int32 := if s = 64 then 0 else if 64 ≤ s then 1 else -1
def wc_w6 (w : Nat → Nat) (k : Nat) : Nat := 64 / 2 ^ Nat.log2 (w k)
theorem wc_w6_le (k : Nat) : ∀ n, wc_sum (wc_w6 w) n ≤ 64 * n
  | 0 => Nat.le_refl 0
  | n + 1 => by
    have ih := wc_w6_le k n
    have : wc_w6 w n ≤ 64 := Nat.div_le_self _ _
    show wc_sum (wc_w6 w) n + wc_w6 w n ≤ 64 * (n + 1)
    omega
theorem xw_L {post : Int32 → Prop} (hs : wc_Set w c) (hA : wc_XA w c cd sz) (hp : post (wc_wt (wc_sum (wc_w6 w) c))) : ∀ m k f, k + m = c → m < f → wX_weight_7 post 64 (nI c) rc rs cd sz tn wy fw sq rd rh f (nI (wc_sum (wc_w6 w) k)) (nI k) := by
  have h6 := hs.1
  intro m
  induction m with
  | zero =>
    intro k f hk hf
    obtain ⟨g, rfl, hg⟩ := wn_fuel hf
    have e : k = c := by omega
    subst e
    have b := wc_w6_le (w := w) 0 k
    generalize wc_sum (wc_w6 w) k = s at *
    refine br_t (nI_le (by omega) (by omega)) (pk_eq s 64 (fun e => ?_) (fun e => pk_le 64 s (fun q => ?_) (fun q => ?_)))
    · rw [wc_wt, if_pos e] at hp
      exact hp
    · rw [wc_wt, if_neg e, if_pos q] at hp
      exact hp
    · rw [wc_wt, if_neg e, if_neg (by omega)] at hp
      exact hp
  | succ m ih =>
    intro k f hk hf
    obtain ⟨g, rfl, hg⟩ := wn_fuel hf
    have hw := hs.2.2 k (by omega)
    have hm := wc_lg7 hw.1 hw.2
    refine br_f (nI_ge (by omega) (by omega)) ⟨vp_in_nI (by omega) (by decide), nm_r (e' := nI (wc_sum (wc_w6 w) (k + 1))) ?_ (nm_r (nI_1 k) (ih (k + 1) g (by omega) (by omega)))⟩
    rw [xa_s hA h6 (by omega)]
    have e := wc_shr (n := 64) (k := Nat.log2 (w k)) (by decide) (by omega)
    exact (congrArg (fun x => nI (wc_sum (wc_w6 w) k) + x) e).trans (nI_add _ _)
theorem yw_L {post : Int32 → Prop} (hs : wc_Set w c) (hA : wc_YA w c yw) (hp : post (wc_wt (wc_sum (wc_w6 w) c))) : ∀ m k f, k + m = c → m < f → wY_weight_4 post (nI c) yr yw ya ye yh f (nI (wc_sum (wc_w6 w) k)) (nI k) := by
  have h6 := hs.1
  intro m
  induction m with
  | zero =>
    intro k f hk hf
    obtain ⟨g, rfl, hg⟩ := wn_fuel hf
    have e : k = c := by omega
    subst e
    have b := wc_w6_le (w := w) 0 k
    generalize wc_sum (wc_w6 w) k = s at *
    refine br_t (nI_le (by omega) (by omega)) (pk_le 64 s (fun q => pk_eq s 64 (fun e => ?_) (fun e => ?_)) (fun q => ?_))
    · rw [wc_wt, if_pos e] at hp
      exact hp
    · rw [wc_wt, if_neg e, if_pos q] at hp
      exact hp
    · rw [wc_wt, if_neg (by omega), if_neg (by omega)] at hp
      exact hp
  | succ m ih =>
    intro k f hk hf
    obtain ⟨g, rfl, hg⟩ := wn_fuel hf
    have hw := hs.2.2 k (by omega)
    have hm := wc_lg7 hw.1 hw.2
    refine br_f (nI_ge (by omega) (by omega)) ⟨vp_in_nI (by omega) (by decide), ys_len (w k) (ya_w hA h6 (by omega)) (by omega) (nm_r (e' := nI (wc_sum (wc_w6 w) (k + 1))) ?_ (nm_r (nI_1 k) (ih (k + 1) g (by omega) (by omega))))⟩
    have e := wc_shr (n := 64) (k := Nat.log2 (w k)) (by decide) (by omega)
    exact (congrArg (fun x => nI (wc_sum (wc_w6 w) k) + x) e).trans (nI_add _ _)
end
theorem i_vc_free {k : Nat} {u : SX} {v : SY} (I : i_Rel k u v) (hk : k + 3 ≤ 1536) : wpX_free (fun r => wpY_free (fun r' => r' = r ∧ i_Rel (k + 3) u v) v) u := by
  obtain ⟨c, R, w, cd, sz, tn, wy, fw, sq, rd, rh, yw, ya, ye, yh, rfl, rfl, hs, hX, hY, h0, h1⟩ := I
  have J : i_Rel (k + 3) (nI c, nI R, nI (Nat.log2 R), cd, sz, tn, wy, fw, sq, rd, rh) (nI c, nI R, yw, ya, ye, yh) := i_mk hs hX hY h0 h1
  refine ⟨c + 1, xf_out hs hX c 0 (c + 1) (by omega) (by omega) (fun hX0 => ?_) (fun hX1 => ?_)⟩
  · refine ⟨c + 1, yf_out hs hY c 0 (c + 1) (by omega) (by omega) (fun _ => ⟨rfl, J⟩) (fun hY1 => ?_)⟩
    obtain ⟨i', j', q1, q2, q3, q4⟩ := hX0
    exact absurd q4 (hY1 i' j' q1 q2 q3)
  · refine ⟨c + 1, yf_out hs hY c 0 (c + 1) (by omega) (by omega) (fun hY0 => ?_) (fun _ => ⟨rfl, J⟩)⟩
    obtain ⟨i', j', q1, q2, q3, q4⟩ := hY0
    exact absurd q4 (hX1 i' j' q1 q2 q3)
theorem i_vc_weight {k : Nat} {u : SX} {v : SY} (I : i_Rel k u v) (hk : k + 3 ≤ 1536) : wpX_weight (fun r => wpY_weight (fun r' => r' = r ∧ i_Rel (k + 3) u v) v) u := by
  obtain ⟨c, R, w, cd, sz, tn, wy, fw, sq, rd, rh, yw, ya, ye, yh, rfl, rfl, hs, hX, hY, h0, h1⟩ := I
  have J : i_Rel (k + 3) (nI c, nI R, nI (Nat.log2 R), cd, sz, tn, wy, fw, sq, rd, rh) (nI c, nI R, yw, ya, ye, yh) := i_mk hs hX hY h0 h1
  exact ⟨c + 1, xw_L hs hX ⟨c + 1, yw_L hs hY ⟨rfl, J⟩ c 0 (c + 1) (by omega) (by omega)⟩ c 0 (c + 1) (by omega) (by omega)⟩
