/-! add, remove, reverse -/
theorem wn_mid {x : Int32} (h1 : ¬ x < 2) (h2 : x ≤ 127) : ∃ n, x = nI n ∧ 2 ≤ n ∧ n < 128 := by
  have h0 : ¬ x < 0 := fun z => h1 (Int32.lt_trans z (by decide))
  obtain ⟨j, hj, rfl⟩ := nI_of h0
  refine ⟨j, rfl, ?_, ?_⟩
  · rcases Nat.lt_or_ge j 2 with z | z
    · exact absurd (nI_lt (b := 2) z (by decide)) h1
    · exact z
  · rcases Nat.lt_or_ge j 128 with z | z
    · exact z
    · exact absurd h2 (nI_ge (a := 127) (by omega) hj)
theorem i_vc_add {k : Nat} {u : SX} {v : SY} (I : i_Rel k u v) (hk : k + 3 ≤ 1536) (v1 : Int32) : wpX_add (fun r u' => wpY_add (fun r' v' => r' = r ∧ i_Rel (k + 3) u' v') v v1) u v1 := by
  obtain ⟨c, R, w, cd, sz, tn, wy, fw, sq, rd, rh, yw, ya, ye, yh, rfl, rfl, hs, hX, hY, h0, h1⟩ := I
  have J : i_Rel (k + 3) (nI c, nI R, nI (Nat.log2 R), cd, sz, tn, wy, fw, sq, rd, rh) (nI c, nI R, yw, ya, ye, yh) := i_mk hs hX hY h0 h1
  have h6 := hs.1
  unfold wpX_add wpY_add
  dsimp only
  by_cases a : v1 < 2
  · exact br_t a (br_t a ⟨rfl, J⟩)
  by_cases b : v1 ≤ 127
  · obtain ⟨x, rfl, hx, hx7⟩ := wn_mid a b
    refine br_f a (br_t b (xs_number h6 hX (fun t ht e => ?_) (fun hn => ?_)))
    · have ew : w t = x := (nI_eq (by have := hs.2.2 t ht; omega) (by omega)).mp e
      refine br_f (wn_4 (by omega)) (br_f a (br_t b (ys_find h6 hY (fun t' ht' e' => ?_) (fun hn' => absurd e (hn' t ht)))))
      have ew' : w t' = x := (nI_eq (by have := hs.2.2 t' ht'; omega) (by omega)).mp e'
      have et := wc_inc_inj hs.2.1 t' t ht' ht (by omega)
      refine br_f (nI_pos (by omega)) ⟨?_, J⟩
      rw [et]
    · have hn' : ∀ j, j < c → w j ≠ x := fun j hj e => hn j hj (by rw [e])
      by_cases hc : c < 6
      · refine br_t rfl (br_t (nI_lt (b := 6) hc (by decide)) (xs_insert rfl hs hX hc hx hx7 hn' (fun q cd' sz' hq lo hi hXA => ?_)))
        have hS := wc_in_set hs hc hx hx7 hq lo hi
        refine br_f a (br_t b (ys_find h6 hY (fun t ht e => absurd e (hn t ht)) (fun _ => br_t (by decide) (br_f (fun z => ?_) ⟨vp_in_nI (by omega) (by decide), ?_⟩))))
        · have := (nI_eq (a := c) (b := 6) (by omega) (by decide)).mp z
          omega
        · rw [nI_clamp (n := c) (by omega)]
          refine nm_e (nm_r (nI_1 c) (ys_sort (w := wc_set w c x) (by omega) (fun j hj => ?_) ?_ ?_ (fun yw' w' hI' s1 s2 hA' => ?_)))
          · by_cases e : j = c
            · rw [e, wc_set_s]
              exact hx7
            · rw [wc_set_n e]
              exact (hs.2.2 j (by omega)).2
          · intro i j hi hj e
            by_cases ei : i = c
            · by_cases ej : j = c
              · omega
              · rw [ei, wc_set_s, wc_set_n ej] at e
                exact absurd e.symm (hn' j (by omega))
            · by_cases ej : j = c
              · rw [ej, wc_set_s, wc_set_n ei] at e
                exact absurd e (hn' i (by omega))
              · rw [wc_set_n ei, wc_set_n ej] at e
                exact wc_inc_inj hs.2.1 i j (by omega) (by omega) e
          · intro j hj
            by_cases e : j = c
            · rw [e, pk_us, wc_set_s]
            · rw [pk_un e, wc_set_n e]
              exact hY j (by omega)
          · have sub := wc_in_sub (w := w) (c := c) (x := x) (q := q) (v := wc_set w c x) hq
              (fun i hi => ⟨i, hi, wc_set_n (by omega)⟩) (fun i hi => ⟨i, hi, (wc_set_n (by omega)).symm⟩) wc_set_s
            have eq := wc_uniq hS.2.1 hI' (wc_sub_trans sub.1 s2) (wc_sub_trans s1 sub.2)
            have hA2 : wc_YA (wc_in w q x) (c + 1) yw' := fun j hj => by
              rw [eq j hj]
              exact hA' j hj
            refine ys_find (w := wc_in w q x) (by omega) hA2 (fun t ht e => ⟨?_, i_mk hS hXA hA2 h0 h1⟩) (fun hno => ?_)
            · have ew : wc_in w q x t = x := (nI_eq (by have := hS.2.2 t ht; omega) (by omega)).mp e
              have et := wc_inc_inj hS.2.1 t q ht (by omega) (by rw [ew, wc_in_at])
              rw [et]
            · exact absurd (by rw [wc_in_at]) (hno q (by omega))
      · have e6 : c = 6 := by omega
        subst e6
        exact br_t rfl (br_f (by decide) (br_f a (br_t b (ys_find h6 hY (fun t ht e => absurd e (hn t ht)) (fun _ => br_t (by decide) (br_t rfl ⟨rfl, J⟩))))))
  · exact br_f a (br_f b (br_f a (br_f b ⟨rfl, J⟩)))
theorem i_vc_remove {k : Nat} {u : SX} {v : SY} (I : i_Rel k u v) (hk : k + 3 ≤ 1536) (v1 : Int32) : wpX_remove (fun r u' => wpY_remove (fun r' v' => r' = r ∧ i_Rel (k + 3) u' v') v v1) u v1 := by
  obtain ⟨c, R, w, cd, sz, tn, wy, fw, sq, rd, rh, yw, ya, ye, yh, rfl, rfl, hs, hX, hY, h0, h1⟩ := I
  have J : i_Rel (k + 3) (nI c, nI R, nI (Nat.log2 R), cd, sz, tn, wy, fw, sq, rd, rh) (nI c, nI R, yw, ya, ye, yh) := i_mk hs hX hY h0 h1
  have h6 := hs.1
  unfold wpX_remove wpY_remove
  dsimp only
  refine xs_number h6 hX (fun t ht e => ?_) (fun hn => ?_)
  · obtain ⟨c, rfl⟩ : ∃ d, c = d + 1 := ⟨c - 1, by omega⟩
    refine br_f (wn_4 (by omega)) ⟨c + 1, xr_L (w := w) (t := t) h6 (fun cd' sz' hXA => ?_) (c - t) t (c + 1) cd sz (by omega) (by omega) (Nat.le_refl t) (fun j hj => by rw [wc_rm_lo hj]; exact hX j (by omega)) (fun j _ hj => hX j hj)⟩
    refine ys_find h6 hY (fun t' ht' e' => ?_) (fun hn' => absurd e (hn' t ht))
    have et : t' = t := wc_inc_inj hs.2.1 t' t ht' ht ((nI_eq (by have := hs.2.2 t' ht'; omega) (by have := hs.2.2 t ht; omega)).mp (e'.trans e.symm))
    subst et
    refine br_t (nI_pos' (by omega)) (nm_r (nI_pred c) ⟨c + 1, yr_L (w := w) (t := t') h6 (fun yw' hYA => ⟨rfl, i_mk ⟨by omega, wc_rm_inc hs.2.1, fun j hj => ?_⟩ hXA hYA h0 h1⟩) (c - t') t' (c + 1) yw (by omega) (by omega) (Nat.le_refl _) (fun j hj => by rw [wc_rm_lo hj]; exact hY j (by omega)) (fun j _ hj => hY j hj)⟩)
    rcases Nat.lt_or_ge j t' with z | z
    · rw [wc_rm_lo z]
      exact hs.2.2 j (by omega)
    · rw [wc_rm_hi z]
      exact hs.2.2 (j + 1) (by omega)
  · exact br_t rfl (ys_find h6 hY (fun t ht e => absurd e (hn t ht)) (fun _ => br_f (by decide) ⟨rfl, J⟩))
section
variable {rc rs : Int32} {cd sz tn wy fw sq rd rh : Nat → Int32} {yr : Int32} {yw ya ye yh : Nat → Int32} {w : Nat → Nat} {c : Nat}
/-- X's second loop: the turned words put in one by one -/
theorem xv_46 {post : Int32 → SX → Prop} (hs : wc_Set w c) (hT : ∀ j, j < c → tn j = nI (wc_tu (w j)))
    (hp : ∀ cd' sz' v, wc_Set v c → wc_Sub v (fun j => wc_tu (w j)) c → wc_Sub (fun j => wc_tu (w j)) v c → wc_XA v c cd' sz' → post (nI c) (nI c, rc, rs, cd', sz', tn, wy, fw, sq, rd, rh)) :
    ∀ m k f cd sz v, k + m = c → m < f → wc_Set v k → wc_Sub v (fun j => wc_tu (w j)) k → wc_Sub (fun j => wc_tu (w j)) v k → wc_XA v k cd sz → wX_reverse_46 post (nI c) f (nI k) (nI k) rc rs cd sz tn wy fw sq rd rh := by
  have h6 := hs.1
  intro m
  induction m with
  | zero =>
    intro k f cd sz v hk hf hS s1 s2 hA
    obtain ⟨g, rfl, _⟩ := wn_fuel hf
    have e : k = c := by omega
    subst e
    exact br_t (nI_le (Nat.le_refl _) (by omega)) (hp cd sz v hS s1 s2 hA)
  | succ m ih =>
    intro k f cd sz v hk hf hS s1 s2 hA
    obtain ⟨g, rfl, _⟩ := wn_fuel hf
    have hw := hs.2.2 k (by omega)
    have tab := wc_tu_tab (w k) hw.2 hw.1
    have inj := wc_tu_inj (fun j hj => hs.2.2 j hj) (wc_inc_inj hs.2.1)
    have hn : ∀ j, j < k → v j ≠ wc_tu (w k) := fun j hj e => by
      obtain ⟨i, a, b⟩ := s1 j hj
      have := inj i k (by omega) (by omega) (b.trans e)
      omega
    refine br_f (nI_ge (by omega) (by omega)) ⟨vp_in_nI (by omega) (by decide), ?_⟩
    rw [nI_clamp (by omega)]
    refine xs_insert (hT k (by omega)) hS hA (by omega) tab.1 tab.2.1 hn (fun q cd' sz' hq lo hi hXA => ?_)
    have sub := wc_in_sub (w := v) (c := k) (x := wc_tu (w k)) (q := q) (v := fun j => wc_tu (w j)) hq s1 s2 rfl
    exact nm_r (nI_1 k) (ih (k + 1) g cd' sz' _ (by omega) (by omega) (wc_in_set hS (by omega) tab.1 tab.2.1 hq lo hi) sub.1 sub.2 hXA)
theorem xv_7 {post : Int32 → SX → Prop} (hs : wc_Set w c) (hA : wc_XA w c cd sz)
    (hp : ∀ cd' sz' tn' v, wc_Set v c → wc_Sub v (fun j => wc_tu (w j)) c → wc_Sub (fun j => wc_tu (w j)) v c → wc_XA v c cd' sz' → post (nI c) (nI c, rc, rs, cd', sz', tn', wy, fw, sq, rd, rh)) :
    ∀ m k f tn, k + m = c → m < f → (∀ j, j < k → tn j = nI (wc_tu (w j))) → wX_reverse_7 post (nI c) (nI c) rc rs f (nI k) cd sz tn wy fw sq rd rh := by
  have h6 := hs.1
  intro m
  induction m with
  | zero =>
    intro k f tn hk hf hT
    obtain ⟨g, rfl, _⟩ := wn_fuel hf
    refine br_t (nI_le (by omega) (by omega)) ⟨c + 1, xv_46 hs (fun j hj => hT j (by omega)) (fun cd' sz' v => hp cd' sz' tn v) c 0 (c + 1) cd sz (fun _ => 0) (by omega) (by omega) ?_ ?_ ?_ ?_⟩
    · exact ⟨by omega, fun i j _ h => absurd h (Nat.not_lt_zero j), fun k h => absurd h (Nat.not_lt_zero k)⟩
    · exact fun i h => absurd h (Nat.not_lt_zero i)
    · exact fun i h => absurd h (Nat.not_lt_zero i)
    · exact fun i h => absurd h (Nat.not_lt_zero i)
  | succ m ih =>
    intro k f tn hk hf hT
    obtain ⟨g, rfl, _⟩ := wn_fuel hf
    have hw := hs.2.2 k (by omega)
    have v0 : vp_in (nI k) 6 := vp_in_nI (by omega) (by decide)
    refine br_f (nI_ge (by omega) (by omega)) ⟨v0, v0, xs_turn (w k) (xa_c hA h6 (by omega)) (xa_s hA h6 (by omega)) hw.1 hw.2 ⟨v0, ?_⟩⟩
    rw [nI_clamp (by omega)]
    refine nm_e (nm_r (nI_1 k) (ih (k + 1) g _ (by omega) (by omega) (fun j hj => ?_)))
    by_cases e : j = k
    · rw [e, pk_us]
    · rw [pk_un e]
      exact hT j (by omega)
theorem yv_2 {post : Int32 → SY → Prop} (hs : wc_Set w c)
    (hp : ∀ yw' w', wc_Inc w' c → wc_Sub w' (fun j => wc_tu (w j)) c → wc_Sub (fun j => wc_tu (w j)) w' c → wc_YA w' c yw' → post (nI c) (nI c, yr, yw', ya, ye, yh)) :
    ∀ m k f yw, k + m = c → m < f → (∀ j, j < k → yw j = nI (wc_tu (w j))) → (∀ j, k ≤ j → j < c → yw j = nI (w j)) → wY_reverse_2 post (nI c) yr f (nI k) yw ya ye yh := by
  have h6 := hs.1
  intro m
  induction m with
  | zero =>
    intro k f yw hk hf lo hi
    obtain ⟨g, rfl, _⟩ := wn_fuel hf
    refine br_t (nI_le (by omega) (by omega)) (ys_sort (w := fun j => wc_tu (w j)) h6 (fun j hj => ?_) (wc_tu_inj (fun j hj => hs.2.2 j hj) (wc_inc_inj hs.2.1)) (fun j hj => lo j (by omega)) hp)
    exact (wc_tu_tab (w j) (hs.2.2 j hj).2 (hs.2.2 j hj).1).2.1
  | succ m ih =>
    intro k f yw hk hf lo hi
    obtain ⟨g, rfl, _⟩ := wn_fuel hf
    have hw := hs.2.2 k (by omega)
    refine br_f (nI_ge (by omega) (by omega)) ⟨vp_in_nI (by omega) (by decide), ?_⟩
    rw [nI_clamp (by omega), hi k (Nat.le_refl _) (by omega)]
    refine nm_e ⟨Nat.log2 (w k) + 1, ?_⟩
    have st := yt_L (post := post) (J := wY_reverse_2 post (nI c) yr g) (yw := yw) (ya := ya) (ye := ye) (yh := yh) (c := c) (yr := yr) (i := k) (x := w k) (by omega) hw.1 hw.2 (ih (k + 1) g _ (by omega) (by omega) (fun j hj => ?_) (fun j h1 h2 => ?_)) (Nat.log2 (w k)) 0 (Nat.log2 (w k) + 1) (by omega) (by omega)
    · rw [Nat.pow_zero, Nat.div_one] at st
      exact st
    · by_cases e : j = k
      · rw [e, pk_us]
      · rw [pk_un e]
        exact lo j (by omega)
    · rw [pk_un (by omega)]
      exact hi j (by omega) h2
end
theorem i_vc_reverse {k : Nat} {u : SX} {v : SY} (I : i_Rel k u v) (hk : k + 3 ≤ 1536) : wpX_reverse (fun r u' => wpY_reverse (fun r' v' => r' = r ∧ i_Rel (k + 3) u' v') v) u := by
  obtain ⟨c, R, w, cd, sz, tn, wy, fw, sq, rd, rh, yw, ya, ye, yh, rfl, rfl, hs, hX, hY, h0, h1⟩ := I
  refine ⟨c + 1, xv_7 hs hX (fun cd' sz' tn' v hS s1 s2 hXA => ?_) c 0 (c + 1) tn (by omega) (by omega) (fun j h => absurd h (Nat.not_lt_zero j))⟩
  refine ⟨c + 1, yv_2 hs (fun yw' w' hI t1 t2 hYA => ⟨rfl, i_mk hS hXA (fun j hj => ?_) h0 h1⟩) c 0 (c + 1) yw (by omega) (by omega) (fun j h => absurd h (Nat.not_lt_zero j)) (fun j _ hj => hY j hj)⟩
  rw [wc_uniq hS.2.1 hI (wc_sub_trans s1 t2) (wc_sub_trans t1 s2) j hj]
  exact hYA j hj
