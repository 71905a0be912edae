/-! isClear and shortest, Y's side -/
abbrev wc_A4 : Type := (Nat → Int32) → (Nat → Int32) → (Nat → Int32) → (Nat → Int32) → Prop
def wc_v9 (z : Nat) : Nat := if z = 0 then 999 else z
theorem wc_v9_0 : wc_v9 0 = 999 := rfl
theorem wc_v9_n {z : Nat} (h : z ≠ 0) : wc_v9 z = z := if_neg h
def wc_YR (d : Nat → Nat) (yh : Nat → Int32) : Prop := ∀ j, j < 64 → yh j = nI (wc_v9 (d j))
theorem yr_at {d : Nat → Nat} {yh : Nat → Int32} (h : wc_YR d yh) {j : Nat} (hj : j < 64) : yh (nI j).toNatClampNeg = nI (wc_v9 (d j)) := by
  rw [nI_clamp (by omega)]
  exact h j hj
theorem wc_v9_le {z : Nat} (h : z ≤ 378) : wc_v9 z ≤ 999 := by
  unfold wc_v9
  split <;> omega
section
variable {yr : Int32} {yw ya ye yh : Nat → Int32} {w : Nat → Nat} {c : Nat}
theorem ys_meet {post : SY → Prop} {d : Nat → Nat} {t b : Nat} {xt xb : Int32} (et : xt = nI t) (eb : xb = nI b) (hd : wc_Bd d) (hR : wc_YR d yh) (ht : 1 ≤ t) (ht2 : t < 64) (hb : b < 999) (hb0 : b ≠ 0)
    (hp : ∀ yh', wc_YR (wc_rx d t b) yh' → post (nI c, yr, yw, ya, ye, yh')) : wpY_meet post (nI c, yr, yw, ya, ye, yh) xt xb := by
  subst et eb
  have bd := wc_bd_in hd ht ht2
  have v9 := wc_v9_le bd
  have vt : vp_in (nI t) 64 := vp_in_nI ht2 (by decide)
  unfold wpY_meet
  dsimp only
  rw [yr_at hR ht2, nI_clamp (n := t) (by omega)]
  by_cases g : wc_ok d t b
  · have e : wc_v9 (d t) = d t := wc_v9_n g.1
    rw [e]
    refine ⟨vt, br_t (nI_le g.2 (by omega)) (hp yh ?_)⟩
    rw [wc_rx_ok g]
    exact hR
  · have lt : b < wc_v9 (d t) := by
      unfold wc_v9
      split
      · exact hb
      · rename_i z
        have : ¬ d t ≤ b := fun y => g ⟨z, y⟩
        omega
    refine ⟨vt, br_f (nI_ge lt (by omega)) ⟨vt, nm_e (hp _ ?_)⟩⟩
    rw [wc_rx_no g]
    intro j hj
    by_cases e : j = t
    · rw [e, pk_us, wc_set_s, wc_v9_n hb0]
    · rw [pk_un e, wc_set_n e]
      exact hR j hj
theorem yg_84 {post : Int32 → SY → Prop} {d : Nat → Nat} {o x b : Nat} {bey : Int32} (hd : wc_Bd d) (hR : wc_YR d yh) (ho : 2 ≤ o) (ho2 : o < 64) (hx : 2 ≤ x) (hx7 : x < 128) (hb : b ≤ 378) (hb0 : b ≠ 0)
    (hbey : wc_bg o x = true → bey = nI (wc_rs o x)) (h1 : wc_bg o x = true → ∀ yh', wc_YR (wc_rx d (wc_rs o x) (b + (Nat.log2 x - Nat.log2 o))) yh' → post 999 (nI c, yr, yw, ya, ye, yh')) (h0 : ¬ wc_bg o x = true → post 999 (nI c, yr, yw, ya, ye, yh)) :
    wY_follow_84 post (nI o) (nI x) (nI b) (nI (Nat.log2 o)) (nI (Nat.log2 x)) bey (nI c) yr yw ya ye yh := by
  have hm := wc_lg7 hx hx7
  unfold wY_follow_84
  refine ys_begin o x rfl rfl ho (by omega) hx hx7 (fun z => ?_) (fun z => br_t rfl (h0 z))
  have lt := wc_bg_lt z
  have rin := wc_rs_in ho hx hx7 lt
  refine br_f (by decide) (ys_meet (hbey z) ?_ hd hR (by omega) rin.2.1 (by omega) (by omega) (h1 z))
  rw [nI_add, pk_sub (by omega)]
  exact congrArg nI (by omega)
theorem yg_66 {post : Int32 → SY → Prop} {d : Nat → Nat} {o x : Nat} {beh bey : Int32} (hd : wc_Bd d) (hR : wc_YR d yh) (ho : 2 ≤ o) (ho2 : o < 64) (hx : 2 ≤ x) (hx7 : x < 128) (h0 : d o ≠ 0)
    (hbeh : wc_bg x o = true → beh = nI (wc_rs x o)) (hbey : wc_bg o x = true → bey = nI (wc_rs o x)) (hp : ∀ yh', wc_YR (wc_ed o x d) yh' → post 999 (nI c, yr, yw, ya, ye, yh')) :
    wY_follow_66 post (nI o) (nI x) (nI (d o)) (nI (Nat.log2 o)) (nI (Nat.log2 x)) beh bey (nI c) yr yw ya ye yh := by
  have bo := wc_bd_in hd (j := o) (by omega) ho2
  unfold wY_follow_66
  refine ys_begin x o rfl rfl hx hx7 ho (by omega) (fun z => ?_) (fun z => ?_)
  · have lt := wc_bg_lt z
    have rin := wc_rs_in hx ho (by omega) lt
    have nb : ¬ wc_bg o x = true := fun y => by
      have := wc_bg_lt y
      omega
    have E : wc_ed o x d = wc_rx d (wc_rs x o) (d o + 0) := wc_ed_some (by unfold wc_et; rw [if_pos z])
    rw [Nat.add_zero] at E
    have bd2 := wc_ed_bd (x := x) ho ho2 hx hx7 hd h0
    rw [E] at hp bd2
    refine br_f (by decide) (ys_meet (hbeh z) rfl hd hR (by omega) rin.2.1 (by omega) h0 (fun yh' q => ?_))
    exact yg_84 bd2 q ho ho2 hx hx7 bo h0 (fun y => absurd y nb) (fun y => absurd y nb) (fun _ => hp yh' q)
  · refine br_t rfl (yg_84 hd hR ho ho2 hx hx7 bo h0 hbey (fun y yh' q => ?_) (fun y => ?_))
    · have E : wc_ed o x d = wc_rx d (wc_rs o x) (d o + (Nat.log2 x - Nat.log2 o)) := wc_ed_some (by unfold wc_et; rw [if_neg z, if_pos y])
      rw [← E] at q
      exact hp yh' q
    · have E : wc_ed o x d = d := wc_ed_none (by unfold wc_et; rw [if_neg z, if_neg y])
      rw [E] at hp
      exact hp yh hR
theorem yg_46 {post : Int32 → SY → Prop} {d : Nat → Nat} {o x : Nat} {beh : Int32} (hd : wc_Bd d) (hR : wc_YR d yh) (ho : 2 ≤ o) (ho2 : o < 64) (hx : 2 ≤ x) (hx7 : x < 128) (h0 : d o ≠ 0)
    (hbeh : wc_bg x o = true → beh = nI (wc_rs x o)) (hp : ∀ yh', wc_YR (wc_ed o x d) yh' → post 999 (nI c, yr, yw, ya, ye, yh')) :
    wY_follow_46 post (nI o) (nI x) (nI (d o)) (nI (Nat.log2 o)) (nI (Nat.log2 x)) beh (nI c) yr yw ya ye yh := by
  have hm := wc_lg7 hx hx7
  have hl := wc_lg7 ho (show o < 128 by omega)
  unfold wY_follow_46
  by_cases h : Nat.log2 x ≤ Nat.log2 o
  · refine br_t (nI_le h (by omega)) (yg_66 hd hR ho ho2 hx hx7 h0 hbeh (fun y => ?_) hp)
    have := wc_bg_lt y
    omega
  · exact br_f (nI_ge (by omega) (by omega)) (ys_rest o x rfl rfl hx hx7 (by omega) (yg_66 hd hR ho ho2 hx hx7 h0 hbeh (fun _ => rfl) hp))
theorem ys_follow {post : Int32 → SY → Prop} {d : Nat → Nat} {o x : Nat} {xx : Int32} (exx : xx = nI x) (hd : wc_Bd d) (hR : wc_YR d yh) (ho : 2 ≤ o) (ho2 : o < 64) (hx : 2 ≤ x) (hx7 : x < 128) (h0 : d o ≠ 0)
    (hp : ∀ yh', wc_YR (wc_ed o x d) yh' → post (if x = o then nI (d o) else 999) (nI c, yr, yw, ya, ye, yh')) : wpY_follow post (nI c, yr, yw, ya, ye, yh) (nI o) xx := by
  subst exx
  have hm := wc_lg7 hx hx7
  have hl := wc_lg7 ho (show o < 128 by omega)
  unfold wpY_follow
  dsimp only
  refine ⟨vp_in_nI ho2 (by decide), nm_r (e' := nI (d o)) (by rw [yr_at hR ho2, wc_v9_n h0]) (pk_eq x o (fun e => ?_) (fun e => ?_))⟩
  · have E : wc_ed o x d = d := wc_ed_none (by unfold wc_et; rw [e, wc_bg_self, if_neg (by decide), if_neg (by decide)])
    rw [E] at hp
    have H := hp yh hR
    rw [if_pos e] at H
    exact H
  · rw [if_neg e] at hp
    refine ys_len o rfl (by omega) (ys_len x rfl (by omega) ?_)
    by_cases h : Nat.log2 o ≤ Nat.log2 x
    · refine br_t (nI_le h (by omega)) (yg_46 hd hR ho ho2 hx hx7 h0 (fun y => ?_) hp)
      have := wc_bg_lt y
      omega
    · exact br_f (nI_ge (by omega) (by omega)) (ys_rest x o rfl rfl ho (by omega) (by omega) (yg_46 hd hR ho ho2 hx hx7 h0 (fun _ => rfl) hp))
theorem yh_in {post : Int32 → SY → Prop} {J1 J2 : Int32 → Int32 → Int32 → Int32 → wc_A4} {x2 : Int32} {d : Nat → Nat} {o b : Nat} (hs : wc_Set w c) (hA : wc_YA w c yw) (hd : wc_Bd d) (ho : 2 ≤ o) (ho2 : o < 64) (h0 : d o ≠ 0) (hb : b ≤ 999)
    (hJ : ∀ yh', wc_YR (wc_vk w o c d) yh' → J2 (nI (wc_bk w o d b c)) (nI (o + 1)) (nI c) yr yw ya ye yh') :
    ∀ m k f yh, k + m = c → m < f → wc_YR (wc_vk w o k d) yh → wY_shortestBits_151 post J1 J2 x2 (nI o) f (nI (wc_bk w o d b k)) (nI k) (nI c) yr yw ya ye yh := by
  have h6 := hs.1
  intro m
  induction m with
  | zero =>
    intro k f yh hk hf hR
    obtain ⟨g, rfl, _⟩ := wn_fuel hf
    have e : k = c := by omega
    subst e
    exact br_t (nI_le (Nat.le_refl _) (by omega)) (nm_r (nI_1 o) (hJ yh hR))
  | succ m ih =>
    intro k f yh hk hf hR
    obtain ⟨g, rfl, _⟩ := wn_fuel hf
    have hkc : k < c := by omega
    have hw := hs.2.2 k hkc
    have own := wc_vk_own (w := w) h0 k
    have bd := wc_vk_bd hs.2.2 ho ho2 hd h0 k (by omega)
    have bo := wc_bd_in hd (j := o) (by omega) ho2
    have bk := wc_bk_le (w := w) (o := o) (b := b) (d := d) k
    have sB := wc_bk_s (w := w) (o := o) (b := b) (k := k) (d := d)
    refine br_f (nI_ge hkc (by omega)) ⟨vp_in_nI ho2 (by decide), ?_⟩
    rw [yr_at hR ho2, own, wc_v9_n h0]
    refine br_f (nI_ge (b := 999) (by omega) (by decide)) ⟨vp_in_nI (by omega) (by decide), ys_follow (ya_w hA h6 hkc) bd hR ho ho2 hw.1 hw.2 (by rw [own]; exact h0) (fun yh' q => ?_)⟩
    rw [← wc_vk_s] at q
    have nx := ih (k + 1) g yh' (by omega) (by omega) q
    rw [sB] at nx
    rw [own]
    by_cases e : w k = o
    · rw [if_pos e]
      refine pk_le (wc_bk w o d b k) (d o) (fun y => ?_) (fun y => ?_)
      · rw [if_neg (by omega)] at nx
        exact nm_r (nI_1 k) nx
      · rw [if_pos ⟨e, y⟩] at nx
        exact nm_r (nI_1 k) nx
    · rw [if_neg e]
      rw [if_neg (fun y => e y.1)] at nx
      exact br_t (nI_le (b := 999) (by omega) (by decide)) (nm_r (nI_1 k) nx)
theorem yh_vis {post : Int32 → SY → Prop} {J1 J2 : Int32 → Int32 → Int32 → Int32 → wc_A4} {x2 : Int32} {d : Nat → Nat} {o b : Nat} (hs : wc_Set w c) (hA : wc_YA w c yw) (hd : wc_Bd d) (hR : wc_YR d yh) (ho : 2 ≤ o) (ho2 : o < 64) (hb : b ≤ 999)
    (hJ : ∀ yh', wc_YR (wc_vis w c o d) yh' → J2 (nI (wc_bv w c o d b)) (nI (o + 1)) (nI c) yr yw ya ye yh') : wY_shortestBits_151 post J1 J2 x2 (nI o) (c + 1) (nI b) (nI 0) (nI c) yr yw ya ye yh := by
  have h6 := hs.1
  by_cases z : d o = 0
  · have E : wc_vis w c o d = d := if_pos z
    have F : wc_bv w c o d b = b := if_pos z
    rw [E, F] at hJ
    have H := hJ yh hR
    refine br_c (fun _ => nm_r (nI_1 o) H) (fun _ => ⟨vp_in_nI ho2 (by decide), ?_⟩)
    rw [yr_at hR ho2, z, wc_v9_0]
    exact br_t (by decide) (nm_r (nI_1 o) H)
  · have E : wc_vis w c o d = wc_vk w o c d := if_neg z
    have F : wc_bv w c o d b = wc_bk w o d b c := if_neg z
    rw [E, F] at hJ
    exact yh_in hs hA hd ho ho2 z hb hJ c 0 (c + 1) yh (by omega) (by omega) hR
theorem yh_142 {post : Int32 → SY → Prop} {J1 : Int32 → Int32 → Int32 → Int32 → wc_A4} {r : Nat} {D : Nat → Nat} {b : Nat} (hs : wc_Set w c) (hA : wc_YA w c yw) (hd : wc_Bd D) (hb : b ≤ 999)
    (hJ : ∀ yh', wc_YR (wc_rd w c 62 D) yh' → J1 (nI (wc_br w c D b 62)) (nI (r + 1)) (nI c) yr yw ya ye yh') :
    ∀ e m f yh, m + e = 62 → e < f → wc_YR (wc_rd w c m D) yh → wY_shortestBits_142 post J1 (nI r) f (nI (wc_br w c D b m)) (nI (m + 2)) (nI c) yr yw ya ye yh := by
  intro e
  induction e with
  | zero =>
    intro m f yh hm hf hR
    obtain ⟨g, rfl, _⟩ := wn_fuel hf
    have e : m = 62 := by omega
    subst e
    exact br_t (by decide) (nm_r (nI_1 r) (hJ yh hR))
  | succ e ih =>
    intro m f yh hm hf hR
    obtain ⟨g, rfl, _⟩ := wn_fuel hf
    have hb2 := wc_br_le (w := w) (c := c) (b := b) (d := D) m
    refine br_f (nI_ge (b := 64) (by omega) (by decide)) ⟨c + 1, yh_vis hs hA (wc_rd_bd hs.2.2 hd (by omega)) hR (by omega) (by omega) (by omega) (fun yh' q => ?_)⟩
    rw [← wc_rd_s] at q
    exact ih (m + 1) g yh' (by omega) (by omega) q
theorem yh_134 {post : Int32 → SY → Prop} {D : Nat → Nat} {V : Nat} (hs : wc_Set w c) (hA : wc_YA w c yw) (hd : wc_Bd D) (hV : V = wc_bi w c D 64) (hp : ∀ yh', post (nI V) (nI c, yr, yw, ya, ye, yh')) :
    ∀ e r f yh, r + e = 64 → e < f → wc_YR (wc_it w c r D) yh → wY_shortestBits_134 post f (nI (wc_bi w c D r)) (nI r) (nI c) yr yw ya ye yh := by
  intro e
  induction e with
  | zero =>
    intro r f yh hr hf hR
    obtain ⟨g, rfl, _⟩ := wn_fuel hf
    have er : r = 64 := by omega
    have E : wc_bi w c D r = V := by rw [er, hV]
    rw [E]
    exact br_t (nI_le (a := 64) (by omega) (by omega)) (hp yh)
  | succ e ih =>
    intro r f yh hr hf hR
    obtain ⟨g, rfl, _⟩ := wn_fuel hf
    have hb := (wc_bi_B1 (w := w) (c := c) (d := D) r).2
    refine br_f (nI_ge (b := 64) (by omega) (by decide)) ⟨63, yh_142 hs hA (wc_it_step hs.2.2 hd r).1 hb (fun yh' q => ?_) 62 0 63 yh (by omega) (by omega) hR⟩
    rw [← wc_it_s] at q
    exact ih (r + 1) g yh' (by omega) (by omega) q
/-! the start -/
theorem yz_35 {post : Int32 → SY → Prop} {J : Int32 → Int32 → Int32 → wc_A4} {i : Nat} {D : Nat → Nat} (hs : wc_Set w c) (hA : wc_YA w c yw) (hd : wc_Bd D) (hi : i < c)
    (hJ : ∀ yh', wc_YR (wc_s0 w i D c) yh' → J (nI (i + 1)) (nI c) yr yw ya ye yh') :
    ∀ m j f yh, j + m = c → m < f → wc_YR (wc_s0 w i D j) yh → wY_shortestBits_35 post J (nI i) f (nI j) (nI c) yr yw ya ye yh := by
  have h6 := hs.1
  intro m
  induction m with
  | zero =>
    intro j f yh hj hf hR
    obtain ⟨g, rfl, _⟩ := wn_fuel hf
    have e : j = c := by omega
    subst e
    exact br_t (nI_le (Nat.le_refl _) (by omega)) (nm_r (nI_1 i) (hJ yh hR))
  | succ m ih =>
    intro j f yh hj hf hR
    obtain ⟨g, rfl, _⟩ := wn_fuel hf
    have hjc : j < c := by omega
    have hwi := hs.2.2 i hi
    have hwj := hs.2.2 j hjc
    have hm := wc_lg7 hwj.1 hwj.2
    have hn := wc_lg7 hwi.1 hwi.2
    have vi : vp_in (nI i) 7 := vp_in_nI (by omega) (by decide)
    have vj : vp_in (nI j) 7 := vp_in_nI (by omega) (by decide)
    have bd := wc_s0_bd hs.2.2 hi hd j (by omega)
    have sE := wc_s0_s (w := w) (i := i) (j := j) (d := D)
    have key : ∀ z0 : Int32, (wc_bg (w i) (w j) = true → z0 = nI (wc_rs (w i) (w j))) → wY_shortestBits_87 post J (wY_shortestBits_35 post J (nI i) g) (nI i) (nI j) (nI (Nat.log2 (w j))) z0 (nI c) yr yw ya ye yh := by
      intro z0 hz0
      unfold wY_shortestBits_87
      refine ⟨vi, vj, ys_begin (w i) (w j) (ya_w hA h6 hi) (ya_w hA h6 hjc) hwi.1 hwi.2 hwj.1 hwj.2 (fun z => ?_) (fun z => ?_)⟩
      · have rin := wc_rs_in hwi.1 hwj.1 hwj.2 (wc_bg_lt z)
        rw [if_pos z] at sE
        refine br_f (by decide) (ys_meet (hz0 z) rfl bd hR (by omega) rin.2.1 (by omega) (by omega) (fun yh' q => ?_))
        rw [← sE] at q
        exact nm_r (nI_1 j) (ih (j + 1) g yh' (by omega) (by omega) q)
      · rw [if_neg z] at sE
        rw [← sE] at hR
        exact br_t rfl (nm_r (nI_1 j) (ih (j + 1) g yh (by omega) (by omega) hR))
    refine br_f (nI_ge hjc (by omega)) ⟨vi, ys_len (w i) (ya_w hA h6 hi) (by omega) ⟨vj, ys_len (w j) (ya_w hA h6 hjc) (by omega) ?_⟩⟩
    by_cases h : Nat.log2 (w j) ≤ Nat.log2 (w i)
    · refine br_t (nI_le h (by omega)) (key 0 (fun y => ?_))
      have := wc_bg_lt y
      omega
    · exact br_f (nI_ge (by omega) (by omega)) ⟨vj, ys_rest (w i) (w j) (ya_w hA h6 hjc) rfl hwj.1 hwj.2 (by omega) (key _ (fun _ => rfl))⟩
theorem yz_25 {post : Int32 → SY → Prop} (hs : wc_Set w c) (hA : wc_YA w c yw) (hp : ∀ yh', wc_YR (wc_s1 w c c) yh' → ∃ n134 : Nat, wY_shortestBits_134 post n134 999 0 (nI c) yr yw ya ye yh') :
    ∀ m i f yh, i + m = c → m < f → wc_YR (wc_s1 w c i) yh → wY_shortestBits_25 post f (nI i) (nI c) yr yw ya ye yh := by
  have h6 := hs.1
  intro m
  induction m with
  | zero =>
    intro i f yh hi hf hR
    obtain ⟨g, rfl, _⟩ := wn_fuel hf
    have e : i = c := by omega
    subst e
    exact br_t (nI_le (Nat.le_refl _) (by omega)) (hp yh hR)
  | succ m ih =>
    intro i f yh hi hf hR
    obtain ⟨g, rfl, _⟩ := wn_fuel hf
    exact br_f (nI_ge (by omega) (by omega)) ⟨c + 1, yz_35 hs hA (wc_s1_bd hs.2.2 i (by omega)) (by omega) (fun yh' q => ih (i + 1) g yh' (by omega) (by omega) q) c 0 (c + 1) yh (by omega) (by omega) hR⟩
theorem yz_2 {post : Int32 → SY → Prop} (hs : wc_Set w c) (hA : wc_YA w c yw) (hp : ∀ yh', wc_YR (wc_s1 w c c) yh' → ∃ n134 : Nat, wY_shortestBits_134 post n134 999 0 (nI c) yr yw ya ye yh') :
    ∀ e j f yh, j + e = 64 → e < f → (∀ i, i < j → yh i = 999) → wY_shortestBits_2 post (nI c) yr f (nI j) yw ya ye yh := by
  intro e
  induction e with
  | zero =>
    intro j f yh hj hf h
    obtain ⟨g, rfl, _⟩ := wn_fuel hf
    refine br_t (nI_le (a := 64) (by omega) (by omega)) ⟨c + 1, yz_25 hs hA hp c 0 (c + 1) yh (by omega) (by omega) (fun i hi => ?_)⟩
    rw [h i (by omega)]
    rfl
  | succ e ih =>
    intro j f yh hj hf h
    obtain ⟨g, rfl, _⟩ := wn_fuel hf
    refine br_f (nI_ge (b := 64) (by omega) (by decide)) ⟨vp_in_nI (by omega) (by decide), ?_⟩
    rw [nI_clamp (by omega)]
    refine nm_e (nm_r (nI_1 j) (ih (j + 1) g _ (by omega) (by omega) (fun i hi => ?_)))
    by_cases e : i = j
    · rw [e, pk_us]
    · rw [pk_un e]
      exact h i (by omega)
theorem ys_short {post : Int32 → SY → Prop} (hs : wc_Set w c) (hA : wc_YA w c yw) (hp : ∀ yh', post (nI (wc_bi w c (wc_s1 w c c) 64)) (nI c, yr, yw, ya, ye, yh')) : wpY_shortestBits post (nI c, yr, yw, ya, ye, yh) := by
  unfold wpY_shortestBits
  dsimp only
  refine ⟨65, yz_2 hs hA (fun yh' q => ?_) 64 0 65 yh (by omega) (by omega) (fun i hi => absurd hi (Nat.not_lt_zero i))⟩
  exact ⟨65, yh_134 hs hA (wc_s1_bd hs.2.2 c (Nat.le_refl c)) rfl hp 64 0 65 yh' (by omega) (by omega) q⟩
end
