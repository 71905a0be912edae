/-! isClear and shortest, X's side -/
abbrev wc_A8 : Type := (Nat → Int32) → (Nat → Int32) → (Nat → Int32) → (Nat → Int32) → (Nat → Int32) → (Nat → Int32) → (Nat → Int32) → (Nat → Int32) → Prop
theorem wc_ed_bd {o x : Nat} {d : Nat → Nat} (ho : 2 ≤ o) (ho2 : o < 64) (hx : 2 ≤ x) (hx2 : x < 128) (hb : wc_Bd d) (h0 : d o ≠ 0) : wc_Bd (wc_ed o x d) :=
  (wc_Vv_step (w := fun _ => x) (c := 1) (r := 0) (k := 0) (fun _ _ => ⟨hx, hx2⟩) ho ho2 (by omega) ⟨hb, h0, Nat.zero_le _, fun i hi => absurd hi (Nat.not_lt_zero i), fun o' q1 q2 _ q4 => Or.inr (Or.inr (wc_ct_self q4 (by omega) q2))⟩).1
theorem wc_vk_bd {w : Nat → Nat} {c o : Nat} {d : Nat → Nat} (hw : ∀ k, k < c → 2 ≤ w k ∧ w k < 128) (ho : 2 ≤ o) (ho2 : o < 64) (hb : wc_Bd d) (h0 : d o ≠ 0) : ∀ k, k ≤ c → wc_Bd (wc_vk w o k d)
  | 0, _ => hb
  | k + 1, hk => wc_ed_bd ho ho2 (hw k (by omega)).1 (hw k (by omega)).2 (wc_vk_bd hw ho ho2 hb h0 k (by omega)) (by rw [wc_vk_own h0 k]; exact h0)
theorem wc_rd_bd {w : Nat → Nat} {c : Nat} {d : Nat → Nat} (hw : ∀ k, k < c → 2 ≤ w k ∧ w k < 128) (hb : wc_Bd d) {m : Nat} (hm : m ≤ 62) : wc_Bd (wc_rd w c m d) :=
  (wc_rd_step (r := 0) hw hb (fun _ h1 h2 h3 => Or.inr (Or.inr (wc_ct_self h3 (by omega) h2))) m hm).1
def wc_XR (d : Nat → Nat) (rh : Nat → Int32) : Prop := ∀ j, j < 64 → rh j = nI (d j)
theorem xr_at {d : Nat → Nat} {rh : Nat → Int32} (h : wc_XR d rh) {j : Nat} (hj : j < 64) : rh (nI j).toNatClampNeg = nI (d j) := by
  rw [nI_clamp (by omega)]
  exact h j hj
theorem xr_set {d : Nat → Nat} {rh : Nat → Int32} (h : wc_XR d rh) (t b : Nat) : wc_XR (wc_set d t b) (upd rh t (nI b)) := by
  intro j hj
  by_cases e : j = t
  · rw [e, pk_us, wc_set_s]
  · rw [pk_un e, wc_set_n e]
    exact h j hj
section
variable {rc rs : Int32} {cd sz tn wy fw sq rd rh : Nat → Int32} {w : Nat → Nat} {c : Nat}
theorem xs_lower {post : Int32 → SX → Prop} {d : Nat → Nat} {t b : Nat} {xt xb : Int32} (et : xt = nI t) (eb : xb = nI b) (hd : wc_Bd d) (hR : wc_XR d rh) (ht : 1 ≤ t) (ht2 : t < 64) (hb : b < 999)
    (hp : ∀ r rh', wc_XR (wc_rx d t b) rh' → (r = 0 → wc_rx d t b = d) → (r = 0 ∨ r = 1) → post r (nI c, rc, rs, cd, sz, tn, wy, fw, sq, rd, rh')) :
    wpX_lowerReach post (nI c, rc, rs, cd, sz, tn, wy, fw, sq, rd, rh) xt xb := by
  subst et eb
  have bd := wc_bd_in hd ht ht2
  have vt : vp_in (nI t) 64 := vp_in_nI ht2 (by decide)
  unfold wpX_lowerReach
  dsimp only
  rw [xr_at hR ht2, nI_clamp (n := t) (by omega)]
  have up : ¬ wc_ok d t b → post 1 (nI c, rc, rs, cd, sz, tn, wy, fw, sq, rd, upd rh t (nI b)) := fun h => by
    refine hp 1 _ ?_ (fun z => absurd z (by decide)) (Or.inr rfl)
    rw [wc_rx_no h]
    exact xr_set hR t b
  refine ⟨vt, pk_eq (d t) 0 (fun e => ⟨vt, nm_e (up (fun z => z.1 e))⟩) (fun e => ⟨vt, pk_lt b (d t) (fun z => ⟨vt, nm_e (up (fun y => ?_))⟩) (fun z => ?_)⟩)⟩
  · have := y.2
    omega
  · refine hp 0 rh ?_ (fun _ => wc_rx_ok ⟨e, z⟩) (Or.inl rfl)
    rw [wc_rx_ok ⟨e, z⟩]
    exact hR
theorem wn_bool {r : Int32} (h : r = 0 ∨ r = 1) : narrow .boolean (.int r) = .int r := by
  rcases h with h | h
  · rw [h]
    rfl
  · rw [h]
    rfl
theorem xs_grow1 {post : Int32 → SX → Prop} {d : Nat → Nat} {o k : Nat} (hs : wc_Set w c) (hA : wc_XA w c cd sz) (hd : wc_Bd d) (hR : wc_XR d rh) (ho : 2 ≤ o) (ho2 : o < 64) (hk : k < c)
    (hp : ∀ r rh', wc_XR (wc_ed o (w k) d) rh' → (r = 0 → wc_ed o (w k) d = d) → (r = 0 ∨ r = 1) → post r (nI c, rc, rs, cd, sz, tn, wy, fw, sq, rd, rh')) :
    wpX_growOverhang post (nI c, rc, rs, cd, sz, tn, wy, fw, sq, rd, rh) (nI o) (nI k) := by
  have h6 := hs.1
  have hw := hs.2.2 k hk
  have vk : vp_in (nI k) 6 := vp_in_nI (by omega) (by decide)
  have vo : vp_in (nI o) 64 := vp_in_nI ho2 (by decide)
  have bo := wc_bd_in hd (j := o) (by omega) ho2
  have hm := wc_lg7 hw.1 hw.2
  have hl := wc_lg7 ho (show o < 128 by omega)
  unfold wpX_growOverhang
  dsimp only
  refine ⟨vk, xs_begin (w k) o (xa_c hA h6 hk) rfl hw.1 hw.2 ho (by omega) (fun z => ?_) (fun z => ?_)⟩
  · have rin := wc_rs_in hw.1 ho (by omega) (wc_bg_lt z)
    have E : wc_ed o (w k) d = wc_rx d (wc_rs (w k) o) (d o + 0) := wc_ed_some (by unfold wc_et; rw [if_pos z])
    rw [Nat.add_zero] at E
    rw [E] at hp
    refine br_f (by decide) ⟨vk, xs_rest (w k) o (xa_c hA h6 hk) rfl hw.1 hw.2 ho (by omega) (wc_bg_lt z) ⟨vo, xs_lower rfl (xr_at hR ho2) hd hR (by omega) rin.2.1 (by omega) (fun r rh' q1 q2 q3 => ⟨wn_bool q3, hp r rh' q1 q2 q3⟩)⟩⟩
  · refine br_t rfl ⟨vk, xs_begin o (w k) rfl (xa_c hA h6 hk) ho (by omega) hw.1 hw.2 (fun y => ?_) (fun y => ?_)⟩
    · have rin := wc_rs_in ho hw.1 hw.2 (wc_bg_lt y)
      have E : wc_ed o (w k) d = wc_rx d (wc_rs o (w k)) (d o + (Nat.log2 (w k) - Nat.log2 o)) := wc_ed_some (by unfold wc_et; rw [if_neg z, if_pos y])
      rw [E] at hp
      refine br_f (by decide) ⟨vk, xs_rest o (w k) rfl (xa_c hA h6 hk) ho (by omega) hw.1 hw.2 (wc_bg_lt y) (xs_size (wc_rs o (w k)) rfl (by omega) (by omega) ⟨vo, xs_lower rfl ?_ hd hR (by omega) rin.2.1 (by omega) (fun r rh' q1 q2 q3 => ⟨wn_bool q3, hp r rh' q1 q2 q3⟩)⟩)⟩
      rw [xr_at hR ho2, rin.2.2, nI_add]
    · have E : wc_ed o (w k) d = d := wc_ed_none (by unfold wc_et; rw [if_neg z, if_neg y])
      refine br_t rfl (hp 0 rh ?_ (fun _ => E) (Or.inl rfl))
      rw [E]
      exact hR
theorem xo_in {post : Int32 → SX → Prop} {J : Int32 → Int32 → Int32 → Int32 → Int32 → wc_A8} {d D : Nat → Nat} {o : Nat} (hs : wc_Set w c) (hA : wc_XA w c cd sz) (hd : wc_Bd d) (ho : 2 ≤ o) (ho2 : o < 64) (h0 : d o ≠ 0)
    (hJ : ∀ ch rh', wc_XR (wc_vk w o c d) rh' → (ch = 0 ∨ ch = 1) → (ch = 0 → wc_vk w o c d = D) → J ch (nI (o + 1)) (nI c) rc rs cd sz tn wy fw sq rd rh') :
    ∀ m k f ch rh, k + m = c → m < f → wc_XR (wc_vk w o k d) rh → (ch = 0 ∨ ch = 1) → (ch = 0 → wc_vk w o k d = D) → wX_growOverhangs_12 post J (nI o) f ch (nI k) (nI c) rc rs cd sz tn wy fw sq rd rh := by
  have h6 := hs.1
  intro m
  induction m with
  | zero =>
    intro k f ch rh hk hf hR hc hD
    obtain ⟨g, rfl, _⟩ := wn_fuel hf
    have e : k = c := by omega
    subst e
    exact br_t (nI_le (Nat.le_refl _) (by omega)) (nm_r (nI_1 o) (hJ ch rh hR hc hD))
  | succ m ih =>
    intro k f ch rh hk hf hR hc hD
    obtain ⟨g, rfl, _⟩ := wn_fuel hf
    have hkc : k < c := by omega
    have own := wc_vk_own (w := w) h0 k
    have bd := wc_vk_bd hs.2.2 ho ho2 hd h0 k (by omega)
    have bo := wc_bd_in hd (j := o) (by omega) ho2
    refine br_f (nI_ge hkc (by omega)) ⟨vp_in_nI ho2 (by decide), ?_⟩
    rw [xr_at hR ho2, own]
    refine br_f (nI_ne0 (by omega) (by omega)) (xs_grow1 hs hA bd hR ho ho2 hkc (fun r rh' q1 q2 q3 => ?_))
    rw [← wc_vk_s] at q1 q2
    rcases q3 with q3 | q3
    · subst q3
      refine br_t rfl (nm_r (nI_1 k) (ih (k + 1) g ch rh' (by omega) (by omega) q1 hc (fun z => ?_)))
      rw [q2 rfl]
      exact hD z
    · subst q3
      exact br_f (by decide) (nm_r (nI_1 k) (ih (k + 1) g 1 rh' (by omega) (by omega) q1 (Or.inr rfl) (fun z => absurd z (by decide))))
theorem xo_vis {post : Int32 → SX → Prop} {J : Int32 → Int32 → Int32 → Int32 → Int32 → wc_A8} {d D : Nat → Nat} {o : Nat} {ch : Int32} (hs : wc_Set w c) (hA : wc_XA w c cd sz) (hd : wc_Bd d) (hR : wc_XR d rh) (ho : 2 ≤ o) (ho2 : o < 64) (hc : ch = 0 ∨ ch = 1) (hD : ch = 0 → d = D)
    (hJ : ∀ ch rh', wc_XR (wc_vis w c o d) rh' → (ch = 0 ∨ ch = 1) → (ch = 0 → wc_vis w c o d = D) → J ch (nI (o + 1)) (nI c) rc rs cd sz tn wy fw sq rd rh') :
    wX_growOverhangs_12 post J (nI o) (c + 1) ch (nI 0) (nI c) rc rs cd sz tn wy fw sq rd rh := by
  have h6 := hs.1
  by_cases z : d o = 0
  · have E : wc_vis w c o d = d := if_pos z
    rw [E] at hJ
    have H := hJ ch rh hR hc hD
    refine br_c (fun _ => nm_r (nI_1 o) H) (fun _ => ⟨vp_in_nI ho2 (by decide), ?_⟩)
    rw [xr_at hR ho2, z]
    exact br_t rfl (nm_r (nI_1 o) H)
  · have E : wc_vis w c o d = wc_vk w o c d := if_neg z
    rw [E] at hJ
    exact xo_in hs hA hd ho ho2 z hJ c 0 (c + 1) ch rh (by omega) (by omega) hR hc hD
theorem xo_out {post : Int32 → SX → Prop} {D : Nat → Nat} (hs : wc_Set w c) (hA : wc_XA w c cd sz) (hd : wc_Bd D)
    (hp : ∀ ch rh', wc_XR (wc_rd w c 62 D) rh' → (ch = 0 ∨ ch = 1) → (ch = 0 → wc_rd w c 62 D = D) → post ch (nI c, rc, rs, cd, sz, tn, wy, fw, sq, rd, rh')) :
    ∀ e m f ch rh, m + e = 62 → e < f → wc_XR (wc_rd w c m D) rh → (ch = 0 ∨ ch = 1) → (ch = 0 → wc_rd w c m D = D) → wX_growOverhangs_4 post f ch (nI (m + 2)) (nI c) rc rs cd sz tn wy fw sq rd rh := by
  intro e
  induction e with
  | zero =>
    intro m f ch rh hm hf hR hc hD
    obtain ⟨g, rfl, _⟩ := wn_fuel hf
    have e : m = 62 := by omega
    subst e
    exact br_t (by decide) ⟨wn_bool hc, hp ch rh hR hc hD⟩
  | succ e ih =>
    intro m f ch rh hm hf hR hc hD
    obtain ⟨g, rfl, _⟩ := wn_fuel hf
    refine br_f (nI_ge (b := 64) (by omega) (by decide)) ⟨c + 1, xo_vis (d := wc_rd w c m D) (D := D) hs hA (wc_rd_bd hs.2.2 hd (by omega)) hR (by omega) (by omega) hc hD (fun ch' rh' q1 q2 q3 => ?_)⟩
    rw [← wc_rd_s] at q1 q3
    exact ih (m + 1) g ch' rh' (by omega) (by omega) q1 q2 q3
theorem xs_grow {post : Int32 → SX → Prop} {D : Nat → Nat} (hs : wc_Set w c) (hA : wc_XA w c cd sz) (hd : wc_Bd D) (hR : wc_XR D rh)
    (hp : ∀ ch rh', wc_XR (wc_rd w c 62 D) rh' → (ch = 0 ∨ ch = 1) → (ch = 0 → wc_rd w c 62 D = D) → post ch (nI c, rc, rs, cd, sz, tn, wy, fw, sq, rd, rh')) :
    wpX_growOverhangs post (nI c, rc, rs, cd, sz, tn, wy, fw, sq, rd, rh) := by
  unfold wpX_growOverhangs
  dsimp only
  exact ⟨63, xo_out hs hA hd hp 62 0 63 0 rh (by omega) (by omega) hR (Or.inl rfl) (fun _ => rfl)⟩
def wc_xr (v : Nat) : Int32 := if v = 999 then -4 else nI v
theorem wc_xr_9 : wc_xr 999 = -4 := rfl
theorem wc_xr_n {v : Nat} (h : v ≠ 999) : wc_xr v = nI v := if_neg h
theorem xd_68 {post : Int32 → SX → Prop} {J : Int32 → Int32 → Prop} {v z k : Nat} {zz : Int32} (ez : zz = nI z) (hv : v ≤ 999) (hz : z < 999) (hJ : J (wc_xr (if z ≠ 0 ∧ z < v then z else v)) (nI (k + 1))) :
    wX_leastDoubtfulBits_68 post J (wc_xr v) (nI k) zz (nI c) rc rs cd sz tn wy fw sq rd rh := by
  subst ez
  unfold wX_leastDoubtfulBits_68
  refine pk_eq z 0 (fun e => ?_) (fun e => ?_)
  · rw [if_neg (by omega)] at hJ
    exact nm_r (nI_1 k) hJ
  · by_cases v9 : v = 999
    · subst v9
      rw [if_pos (by omega), wc_xr_n (by omega)] at hJ
      exact br_t rfl (nm_r (nI_1 k) hJ)
    · rw [wc_xr_n v9]
      refine br_f (wn_4 (by omega)) (pk_le v z (fun y => ?_) (fun y => ?_))
      · rw [if_neg (by omega), wc_xr_n v9] at hJ
        exact nm_r (nI_1 k) hJ
      · rw [if_pos (by omega), wc_xr_n (by omega)] at hJ
        exact nm_r (nI_1 k) hJ
theorem xd_34 {post : Int32 → SX → Prop} {d : Nat → Nat} (hs : wc_Set w c) (hA : wc_XA w c cd sz) (hd : wc_Bd d) (hR : wc_XR d rh) (hp : post (wc_xr (wc_xl w d c)) (nI c, rc, rs, cd, sz, tn, wy, fw, sq, rd, rh)) :
    ∀ m k f, k + m = c → m < f → wX_leastDoubtfulBits_34 post (nI c) rc rs cd sz tn wy fw sq rd rh f (wc_xr (wc_xl w d k)) (nI k) := by
  have h6 := hs.1
  intro m
  induction m with
  | zero =>
    intro k f hk hf
    obtain ⟨g, rfl, _⟩ := wn_fuel hf
    have e : k = c := by omega
    subst e
    exact br_t (nI_le (Nat.le_refl _) (by omega)) hp
  | succ m ih =>
    intro k f hk hf
    obtain ⟨g, rfl, _⟩ := wn_fuel hf
    have hkc : k < c := by omega
    have hw := hs.2.2 k hkc
    have vk : vp_in (nI k) 6 := vp_in_nI (by omega) (by decide)
    have x9 := (wc_xl_ex (w := w) (d := d) k).1
    have nx := ih (k + 1) g (by omega) (by omega)
    rw [wc_xl_s] at nx
    refine br_f (nI_ge hkc (by omega)) ⟨vk, ?_⟩
    rw [xa_c hA h6 hkc]
    by_cases h : w k < 64
    · have rv : wc_rv w d k = d (w k) := if_pos h
      have bd := wc_bd_in hd (j := w k) (by omega) h
      rw [rv] at nx
      exact br_f (nI_ge (b := 64) h (by decide)) ⟨vk, vp_in_nI h (by decide), xd_68 (xr_at hR h) x9 (by omega) nx⟩
    · have rv : wc_rv w d k = 0 := if_neg h
      rw [rv] at nx
      exact br_t (nI_le (a := 64) (by omega) (by omega)) (xd_68 (z := 0) rfl x9 (by omega) nx)
theorem xd_8 {post : Int32 → SX → Prop} {D Z : Nat → Nat} (hs : wc_Set w c) (hA : wc_XA w c cd sz) (hd : wc_Bd D) (hZ : Z = wc_it w c 64 D) (hp : ∀ rh', post (wc_xr (wc_xl w Z c)) (nI c, rc, rs, cd, sz, tn, wy, fw, sq, rd, rh')) :
    ∀ e r f ch rh, r + e = 64 → e < f → wc_XR (wc_it w c r D) rh → (ch = 0 → Z = wc_it w c r D) → wX_leastDoubtfulBits_8 post f ch (nI r) (nI c) rc rs cd sz tn wy fw sq rd rh := by
  have bdr : ∀ r, wc_Bd (wc_it w c r D) := fun r => (wc_it_step hs.2.2 hd r).1
  have fin : ∀ r rh, Z = wc_it w c r D → wc_XR (wc_it w c r D) rh → ∃ n34 : Nat, wX_leastDoubtfulBits_34 post (nI c) rc rs cd sz tn wy fw sq rd rh n34 (-4) 0 := fun r rh e hR => by
    rw [e] at hp
    exact ⟨c + 1, xd_34 hs hA (bdr r) hR (hp rh) c 0 (c + 1) (by omega) (by omega)⟩
  intro e
  induction e with
  | zero =>
    intro r f ch rh hr hf hR hc
    obtain ⟨g, rfl, _⟩ := wn_fuel hf
    have er : r = 64 := by omega
    refine br_t (nI_le (a := 64) (by omega) (by omega)) (fin r rh ?_ hR)
    rw [er]
    exact hZ
  | succ e ih =>
    intro r f ch rh hr hf hR hc
    obtain ⟨g, rfl, _⟩ := wn_fuel hf
    refine br_f (nI_ge (b := 64) (by omega) (by decide)) (br_c (fun z => fin r rh (hc z) hR) (fun z => xs_grow hs hA (bdr r) hR (fun ch' rh' q1 q2 q3 => ?_)))
    rw [← wc_it_s] at q1 q3
    refine nm_r (nI_1 r) (ih (r + 1) g ch' rh' (by omega) (by omega) q1 (fun y => ?_))
    have fx := wc_it_fix (q3 y) (e + 1)
    rw [show r + (e + 1) = 64 by omega] at fx
    rw [q3 y, hZ]
    exact fx
/-! the start -/
theorem xz_33 {post : SX → Prop} {J : Int32 → Int32 → Int32 → Int32 → wc_A8} {i : Nat} {D : Nat → Nat} (hs : wc_Set w c) (hA : wc_XA w c cd sz) (hd : wc_Bd D) (hi : i < c)
    (hJ : ∀ rh', wc_XR (wc_s0 w i D c) rh' → J (nI (i + 1)) (nI c) rc rs cd sz tn wy fw sq rd rh') :
    ∀ m j f rh, j + m = c → m < f → wc_XR (wc_s0 w i D j) rh → wX_startOverhangs_33 post J (nI i) f (nI j) (nI c) rc rs cd sz tn wy fw sq rd rh := by
  have h6 := hs.1
  intro m
  induction m with
  | zero =>
    intro j f rh hj hf hR
    obtain ⟨g, rfl, _⟩ := wn_fuel hf
    have e : j = c := by omega
    subst e
    exact br_t (nI_le (Nat.le_refl _) (by omega)) (nm_r (nI_1 i) (hJ rh hR))
  | succ m ih =>
    intro j f rh hj hf hR
    obtain ⟨g, rfl, _⟩ := wn_fuel hf
    have hjc : j < c := by omega
    have hwi := hs.2.2 i hi
    have hwj := hs.2.2 j hjc
    have hm := wc_lg7 hwj.1 hwj.2
    have vi : vp_in (nI i) 6 := vp_in_nI (by omega) (by decide)
    have vj : vp_in (nI j) 6 := vp_in_nI (by omega) (by decide)
    have bd := wc_s0_bd hs.2.2 hi hd j (by omega)
    have sE := wc_s0_s (w := w) (i := i) (j := j) (d := D)
    refine br_f (nI_ge hjc (by omega)) ⟨vi, vj, xs_begin (w i) (w j) (xa_c hA h6 hi) (xa_c hA h6 hjc) hwi.1 hwi.2 hwj.1 hwj.2 (fun z => ?_) (fun z => ?_)⟩
    · have rin := wc_rs_in hwi.1 hwj.1 hwj.2 (wc_bg_lt z)
      rw [if_pos z] at sE
      refine br_f (by decide) ⟨vi, vj, xs_rest (w i) (w j) (xa_c hA h6 hi) (xa_c hA h6 hjc) hwi.1 hwi.2 hwj.1 hwj.2 (wc_bg_lt z) ⟨vj, xs_lower rfl (xa_s hA h6 hjc) bd hR (by omega) rin.2.1 (by omega) (fun r rh' q1 _ _ => ?_)⟩⟩
      rw [← sE] at q1
      exact nm_r (nI_1 j) (ih (j + 1) g rh' (by omega) (by omega) q1)
    · rw [if_neg z] at sE
      rw [← sE] at hR
      exact br_t rfl (nm_r (nI_1 j) (ih (j + 1) g rh (by omega) (by omega) hR))
theorem xz_23 {post : SX → Prop} (hs : wc_Set w c) (hA : wc_XA w c cd sz) (hp : ∀ rh', wc_XR (wc_s1 w c c) rh' → post (nI c, rc, rs, cd, sz, tn, wy, fw, sq, rd, rh')) :
    ∀ m i f rh, i + m = c → m < f → wc_XR (wc_s1 w c i) rh → wX_startOverhangs_23 post f (nI i) (nI c) rc rs cd sz tn wy fw sq rd rh := by
  have h6 := hs.1
  intro m
  induction m with
  | zero =>
    intro i f rh hi hf hR
    obtain ⟨g, rfl, _⟩ := wn_fuel hf
    have e : i = c := by omega
    subst e
    exact br_t (nI_le (Nat.le_refl _) (by omega)) (hp rh hR)
  | succ m ih =>
    intro i f rh hi hf hR
    obtain ⟨g, rfl, _⟩ := wn_fuel hf
    exact br_f (nI_ge (by omega) (by omega)) ⟨c + 1, xz_33 hs hA (wc_s1_bd hs.2.2 i (by omega)) (by omega) (fun rh' q => ih (i + 1) g rh' (by omega) (by omega) q) c 0 (c + 1) rh (by omega) (by omega) hR⟩
theorem xz_2 {post : SX → Prop} (hs : wc_Set w c) (hA : wc_XA w c cd sz) (hp : ∀ rh', wc_XR (wc_s1 w c c) rh' → post (nI c, rc, rs, cd, sz, tn, wy, fw, sq, rd, rh')) :
    ∀ e j f rh, j + e = 64 → e < f → (∀ i, i < j → rh i = 0) → wX_startOverhangs_2 post (nI c) rc rs f (nI j) cd sz tn wy fw sq rd rh := by
  intro e
  induction e with
  | zero =>
    intro j f rh hj hf h
    obtain ⟨g, rfl, _⟩ := wn_fuel hf
    refine br_t (nI_le (a := 64) (by omega) (by omega)) ⟨c + 1, xz_23 hs hA hp c 0 (c + 1) rh (by omega) (by omega) (fun i hi => ?_)⟩
    rw [h i (by omega)]
    rfl
  | succ e ih =>
    intro j f rh hj hf h
    obtain ⟨g, rfl, _⟩ := wn_fuel hf
    refine br_f (nI_ge (b := 64) (by omega) (by decide)) ⟨vp_in_nI (by omega) (by decide), ?_⟩
    rw [nI_clamp (by omega)]
    refine nm_e (nm_r (nI_1 j) (ih (j + 1) g _ (by omega) (by omega) (fun i hi => ?_)))
    by_cases e : i = j
    · rw [e, pk_us]
    · rw [pk_un e]
      exact h i (by omega)
theorem xs_least {post : Int32 → SX → Prop} (hs : wc_Set w c) (hA : wc_XA w c cd sz) (hp : ∀ rh', post (wc_xr (wc_xl w (wc_it w c 64 (wc_s1 w c c)) c)) (nI c, rc, rs, cd, sz, tn, wy, fw, sq, rd, rh')) :
    wpX_leastDoubtfulBits post (nI c, rc, rs, cd, sz, tn, wy, fw, sq, rd, rh) := by
  unfold wpX_leastDoubtfulBits wpX_startOverhangs
  dsimp only
  refine ⟨65, xz_2 hs hA (fun rh' q => ?_) 64 0 65 rh (by omega) (by omega) (fun i hi => absurd hi (Nat.not_lt_zero i))⟩
  exact ⟨65, xd_8 hs hA (wc_s1_bd hs.2.2 c (Nat.le_refl c)) rfl hp 64 0 65 1 rh' (by omega) (by omega) q (fun z => absurd z (by decide))⟩
end
