/-! fewest, messages, doubtful, total -/
def wc_xv (g : Nat) : Int32 := if g = 99 then -4 else nI g
theorem wc_xv_99 : wc_xv 99 = -4 := rfl
theorem wc_xv_n {g : Nat} (h : g ≠ 99) : wc_xv g = nI g := if_neg h
section
variable {rc rs : Int32} {cd sz tn wy fw sq rd rh : Nat → Int32} {yr : Int32} {yw ya ye yh : Nat → Int32} {w : Nat → Nat} {c : Nat}
theorem xg_in {post : Int32 → Prop} {code n p : Nat} {G : Nat → Nat} (hs : wc_Set w c) (hA : wc_XA w c cd sz) (hcode : code < 2 ^ 31) (hn : n ≤ 16) (hp : p < n)
    (hG : ∀ j, j ≤ n → G j = 99 ∨ G j ≤ 16) (hf : ∀ j, p < j → j ≤ n → fw j = wc_xv (G j)) (h : post (wc_xv (wc_mn (wc_thr w code n G 99 p) c))) :
    ∀ m k f, k + m = c → m < f → wX_fewestWordsFrom_5 post (nI p) (nI c) (nI code) (nI n) cd sz tn wy fw sq rd rh f (wc_xv (wc_mn (wc_thr w code n G 99 p) k)) (nI k) := by
  have h6 := hs.1
  intro m
  induction m with
  | zero =>
    intro k f hk hf
    obtain ⟨g, rfl, _⟩ := wn_fuel hf
    have e : k = c := by omega
    subst e
    exact br_t (nI_le (Nat.le_refl _) (by omega)) h
  | succ m ih =>
    intro k f hk hff
    obtain ⟨g, rfl, _⟩ := wn_fuel hff
    have hkc : k < c := by omega
    have hw := hs.2.2 k hkc
    have hm := wc_lg7 hw.1 hw.2
    have vk : vp_in (nI k) 6 := vp_in_nI (by omega) (by decide)
    have sM := wc_mn_s (T := wc_thr w code n G 99 p) (k := k)
    have nx := ih (k + 1) g (by omega) (by omega)
    refine br_f (nI_ge (by omega) (by omega)) (xs_stands hs hA hcode hn (by omega) hkc (fun z => ?_) (fun z => ?_))
    · have hl := wc_st_le z
      rw [wc_thr_t z] at sM
      rw [xa_s hA h6 hkc, nI_add]
      generalize hx5 : p + Nat.log2 (w k) = x5 at *
      have q5 := hG x5 hl
      refine br_f (by decide) ⟨vk, vp_in_nI (by omega) (by decide), ?_⟩
      rw [nI_clamp (by omega), hf x5 (by omega) hl]
      by_cases g9 : G x5 = 99
      · rw [if_neg (by omega)] at sM
        rw [sM] at nx
        rw [g9, wc_xv_99]
        exact nm_e (br_t rfl (nm_r (nI_1 k) nx))
      · have g16 : G x5 ≤ 16 := by omega
        rw [wc_xv_n g9]
        refine nm_e (br_f (wn_4 (by omega)) ?_)
        have mb := wc_mn_bnd (T := wc_thr w code n G 99 p) (m := 17) (c := k) (fun i hi => by
          by_cases hst : wc_st code n p (w i) = true
          · rw [wc_thr_t hst]
            have := hG _ (wc_st_le hst)
            omega
          · rw [wc_thr_f hst]
            exact Or.inl rfl)
        by_cases m9 : wc_mn (wc_thr w code n G 99 p) k = 99
        · rw [if_pos (by omega)] at sM
          rw [sM, wc_xv_n (by omega)] at nx
          rw [m9, wc_xv_99]
          exact br_t rfl (nm_r (nI_1 _) (nm_r (nI_1 k) nx))
        · rw [wc_xv_n m9] at *
          refine br_f (wn_4 (by omega)) ?_
          rw [nI_1 (G x5)]
          by_cases hle : wc_mn (wc_thr w code n G 99 p) k ≤ G x5 + 1
          · rw [if_neg (by omega)] at sM
            rw [sM, wc_xv_n m9] at nx
            exact br_t (nI_le hle (by omega)) (nm_r (nI_1 k) nx)
          · rw [if_pos (by omega)] at sM
            rw [sM, wc_xv_n (by omega)] at nx
            exact br_f (nI_ge (by omega) (by omega)) (nm_e (nm_r (nI_1 k) nx))
    · rw [wc_thr_f z, if_neg (by omega)] at sM
      rw [sM] at nx
      exact br_t rfl (nm_r (nI_1 k) nx)
theorem xg_out {post : Int32 → SX → Prop} {code n : Nat} {G : Nat → Nat} (hs : wc_Set w c) (hA : wc_XA w c cd sz) (hcode : code < 2 ^ 31) (hn : n ≤ 16) (hG : wc_G w c code n G)
    (hp : ∀ fw', post (wc_xv (G 0)) (nI c, nI code, nI n, cd, sz, tn, wy, fw', sq, rd, rh)) :
    ∀ q f fw, q ≤ n → q < f → (∀ j, q ≤ j → j ≤ n → fw j = wc_xv (G j)) → wX_fewest_17 post (nI c) (nI code) (nI n) f (nI q - 1) cd sz tn wy fw sq rd rh := by
  have hb : ∀ j, j ≤ n → G j = 99 ∨ G j ≤ 16 := fun j hj => by
    have := wc_G_bnd hs hG (n - j) j (by omega)
    omega
  intro q
  induction q with
  | zero =>
    intro f fw hq hf h
    obtain ⟨g, rfl, _⟩ := wn_fuel hf
    refine br_t (by decide) ?_
    rw [h 0 (Nat.le_refl _) hq]
    exact hp fw
  | succ q ih =>
    intro f fw hq hf h
    obtain ⟨g, rfl, _⟩ := wn_fuel hf
    rw [nI_pred]
    refine br_f (nI_pos (by omega)) ?_
    unfold wpX_fewestWordsFrom
    dsimp only
    refine ⟨c + 1, xg_in hs hA hcode hn (by omega) hb (fun j h1 h2 => h j (by omega) h2) ⟨vp_in_nI (by omega) (by decide), ?_⟩ c 0 (c + 1) (by omega) (by omega)⟩
    rw [nI_clamp (by omega), wn_m1, ← hG.2 q (by omega)]
    refine nm_e (nm_e (ih g _ (by omega) (by omega) (fun j h1 h2 => ?_)))
    by_cases e : j = q
    · rw [e, pk_us]
    · rw [pk_un e]
      exact h j (by omega) h2
/-! messages and doubtful: rows with at least so many readings -/
def wc_rw (w : Nat → Nat) (c n lo : Nat) (b : Nat) : Nat → Nat
  | 0 => 0
  | d + 1 => wc_rw w c n lo b d + (if b ≤ wc_wf w c (lo + d) n n 0 then 1 else 0)
theorem wc_lgr {n d : Nat} (h : d < 2 ^ n) : Nat.log2 (2 ^ n + d) = n := wc_lgq (by omega) (by omega)
theorem wc_rw_le {n lo b : Nat} : ∀ d, wc_rw w c n lo b d ≤ d
  | 0 => Nat.le_refl 0
  | d + 1 => by
    have ih := wc_rw_le (n := n) (lo := lo) (b := b) d
    show wc_rw w c n lo b d + (if b ≤ wc_wf w c (lo + d) n n 0 then 1 else 0) ≤ d + 1
    split <;> omega
theorem xm_L {post : Int32 → SX → Prop} {n b : Nat} (hs : wc_Set w c) (hA : wc_XA w c cd sz) (hn : n ≤ 10) (hb : b ≤ 2) (hp : ∀ wy', post (nI (wc_rw w c n (2 ^ n) b (2 ^ n))) (nI c, rc, rs, cd, sz, tn, wy', fw, sq, rd, rh)) :
    ∀ m d f wy, d + m = 2 ^ n → m < f → wX_countRows_10 post (nI n) (nI b) (nI (2 ^ n)) f (nI (wc_rw w c n (2 ^ n) b d)) (nI (2 ^ n + d)) (nI c) rc rs cd sz tn wy fw sq rd rh := by
  have p10 : 2 ^ n ≤ 2 ^ 10 := wc_p2 hn
  have e10 : 2 ^ 10 = 1024 := by decide
  have e2 : (2 : Int32) * nI (2 ^ n) = nI (2 * 2 ^ n) := pk_mul 2 (2 ^ n)
  intro m
  induction m with
  | zero =>
    intro d f wy hd hf
    obtain ⟨g, rfl, _⟩ := wn_fuel hf
    have e : d = 2 ^ n := by omega
    refine br_t ?_ ?_
    · rw [e2]
      exact nI_le (by omega) (by omega)
    · rw [e]
      exact hp wy
  | succ m ih =>
    intro d f wy hd hf
    obtain ⟨g, rfl, _⟩ := wn_fuel hf
    refine br_f ?_ (xs_count hs hA (by omega) (by omega) (wc_wf_W hs) (fun wy' _ => ?_))
    · rw [e2]
      exact nI_ge (by omega) (by omega)
    · have nx := ih (d + 1) g wy' (by omega) (by omega)
      have hB := wc_W_16 hs (wc_wf_W (code := 2 ^ n + d) (n := n) hs) (by omega) (Nat.zero_le n)
      have sR : wc_rw w c n (2 ^ n) b (d + 1) = wc_rw w c n (2 ^ n) b d + (if b ≤ wc_wf w c (2 ^ n + d) n n 0 then 1 else 0) := rfl
      rw [sR] at nx
      by_cases h : b ≤ wc_wf w c (2 ^ n + d) n n 0
      · rw [if_pos h] at nx
        exact br_f (nI_nlt h (by omega)) (nm_r (nI_1 _) (nm_r (nI_1 _) nx))
      · rw [if_neg h] at nx
        exact br_t (nI_lt (by omega) (by omega)) (nm_r (nI_1 _) nx)
theorem xs_rows {post : Int32 → SX → Prop} {n b : Nat} (hs : wc_Set w c) (hA : wc_XA w c cd sz) (hn : n ≤ 10) (hb : b ≤ 2) (hp : ∀ wy', post (nI (wc_rw w c n (2 ^ n) b (2 ^ n))) (nI c, rc, rs, cd, sz, tn, wy', fw, sq, rd, rh)) :
    wpX_countRows post (nI c, rc, rs, cd, sz, tn, wy, fw, sq, rd, rh) (nI n) (nI b) := by
  unfold wpX_countRows
  dsimp only
  exact nm_r (wc_mk (by omega)) ⟨2 ^ n + 1, xm_L hs hA hn hb hp (2 ^ n) 0 (2 ^ n + 1) wy (by omega) (by omega)⟩
theorem ym_L {post : Int32 → SY → Prop} {n b : Nat} (hs : wc_Set w c) (hA : wc_YA w c yw) (hn : n ≤ 10) (hb : b ≤ 2) (hp : ∀ ya' ye', post (nI (wc_rw w c n (2 ^ n) b (2 ^ n))) (nI c, yr, yw, ya', ye', yh)) :
    ∀ m d f ya ye, d + m = 2 ^ n → m < f → wY_rowsWith_7 post (nI n) (nI b) f (nI (wc_rw w c n (2 ^ n) b d)) (nI (2 ^ n + d)) (nI c) yr yw ya ye yh := by
  have p10 : 2 ^ n ≤ 2 ^ 10 := wc_p2 hn
  have e10 : 2 ^ 10 = 1024 := by decide
  have e2 : (2 : Int32) <<< (nI n &&& 31) = nI (2 * 2 ^ n) := wc_shl (n := 2) (by omega) (by omega)
  intro m
  induction m with
  | zero =>
    intro d f ya ye hd hf
    obtain ⟨g, rfl, _⟩ := wn_fuel hf
    have e : d = 2 ^ n := by omega
    refine br_t ?_ ?_
    · rw [e2]
      exact nI_le (by omega) (by omega)
    · rw [e]
      exact hp ya ye
  | succ m ih =>
    intro d f ya ye hd hf
    obtain ⟨g, rfl, _⟩ := wn_fuel hf
    refine br_f ?_ (ys_count hs hA (by omega) (by omega) (wc_lgr (by omega)) (wc_wf_W hs) (wc_gf_G hs) (fun ya' ye' _ => ?_))
    · rw [e2]
      exact nI_ge (by omega) (by omega)
    · have nx := ih (d + 1) g ya' ye' (by omega) (by omega)
      have hB := wc_W_16 hs (wc_wf_W (code := 2 ^ n + d) (n := n) hs) (by omega) (Nat.zero_le n)
      have sR : wc_rw w c n (2 ^ n) b (d + 1) = wc_rw w c n (2 ^ n) b d + (if b ≤ wc_wf w c (2 ^ n + d) n n 0 then 1 else 0) := rfl
      rw [sR] at nx
      by_cases h : b ≤ wc_wf w c (2 ^ n + d) n n 0
      · rw [if_pos h] at nx
        exact br_f (nI_nlt h (by omega)) (nm_r (nI_1 _) (nm_r (nI_1 _) nx))
      · rw [if_neg h] at nx
        exact br_t (nI_lt (by omega) (by omega)) (nm_r (nI_1 _) nx)
theorem ys_rows {post : Int32 → SY → Prop} {n b : Nat} (hs : wc_Set w c) (hA : wc_YA w c yw) (hn : n ≤ 10) (hb : b ≤ 2) (hp : ∀ ya' ye', post (nI (wc_rw w c n (2 ^ n) b (2 ^ n))) (nI c, yr, yw, ya', ye', yh)) :
    wpY_rowsWith post (nI c, yr, yw, ya, ye, yh) (nI n) (nI b) := by
  unfold wpY_rowsWith
  dsimp only
  exact nm_r (wc_mk (by omega)) ⟨2 ^ n + 1, ym_L hs hA hn hb hp (2 ^ n) 0 (2 ^ n + 1) ya ye (by omega) (by omega)⟩
end
theorem i_vc_fewest {k : Nat} {u : SX} {v : SY} (I : i_Rel k u v) (hk : k + 3 ≤ 1536) : wpX_fewest (fun r u' => wpY_fewest (fun r' v' => r' = r ∧ i_Rel (k + 3) u' v') v) u := by
  obtain ⟨c, R, w, cd, sz, tn, wy, fw, sq, rd, rh, yw, ya, ye, yh, rfl, rfl, hs, hX, hY, h0, h1⟩ := I
  have h16 := wn_r16 h0 h1
  have hF : wc_W w c R (Nat.log2 R) (wc_wf w c R (Nat.log2 R) (Nat.log2 R)) := wc_wf_W hs
  have hG : wc_G w c R (Nat.log2 R) (wc_gf w c R (Nat.log2 R) (Nat.log2 R)) := wc_gf_G hs
  have q := wc_FG hs h16 hF hG 0 (Nat.zero_le _)
  unfold wpX_fewest wpY_fewest
  dsimp only
  refine ⟨vp_in_nI (by omega) (by decide), ?_⟩
  rw [nI_clamp (by omega)]
  refine nm_e (nm_e ⟨Nat.log2 R + 1, xg_out hs hX (by omega) h16 hG (fun fw' => ?_) (Nat.log2 R) (Nat.log2 R + 1) _ (Nat.le_refl _) (by omega) (fun j h2 h3 => ?_)⟩)
  · refine ys_count hs hY (by omega) h16 rfl hF hG (fun ya' ye' hr => ?_)
    have r0 := hr 0 (Nat.zero_le _)
    dsimp only
    rw [r0.2]
    generalize wc_wf w c R (Nat.log2 R) (Nat.log2 R) 0 = f0 at *
    generalize wc_gf w c R (Nat.log2 R) (Nat.log2 R) 0 = g0 at *
    refine pk_eq f0 0 (fun e => ⟨?_, i_mk hs hX hY h0 h1⟩) (fun e => ⟨?_, i_mk hs hX hY h0 h1⟩)
    · rw [q.1.mp e, wc_xv_99]
    · rw [wc_xv_n (fun z => e (q.1.mpr z))]
  · have e : j = Nat.log2 R := by omega
    rw [e, pk_us, hG.1]
    rfl
theorem wn_0t {x : Int32} {b : Nat} (hb : b < 2 ^ 31) (h1 : ¬ x < 0) (h2 : x ≤ nI b) : ∃ n, x = nI n ∧ n ≤ b := by
  obtain ⟨j, hj, rfl⟩ := nI_of h1
  exact ⟨j, rfl, (nI_leI hj hb).mp h2⟩
theorem i_vc_messages {k : Nat} {u : SX} {v : SY} (I : i_Rel k u v) (hk : k + 3 ≤ 1536) (v1 : Int32) : wpX_messages (fun r u' => wpY_messages (fun r' v' => r' = r ∧ i_Rel (k + 3) u' v') v v1) u v1 := by
  obtain ⟨c, R, w, cd, sz, tn, wy, fw, sq, rd, rh, yw, ya, ye, yh, rfl, rfl, hs, hX, hY, h0, h1⟩ := I
  have J : i_Rel (k + 3) (nI c, nI R, nI (Nat.log2 R), cd, sz, tn, wy, fw, sq, rd, rh) (nI c, nI R, yw, ya, ye, yh) := i_mk hs hX hY h0 h1
  unfold wpX_messages wpY_messages
  dsimp only
  by_cases a : v1 < 0
  · exact br_t a (br_t a ⟨rfl, J⟩)
  by_cases b : v1 ≤ 10
  · obtain ⟨n, rfl, hn⟩ := wn_0t (b := 10) (by decide) a b
    refine br_f a (br_t b (xs_rows (b := 1) hs hX hn (by omega) (fun wy' => ?_)))
    exact br_f a (br_t b (ys_rows (b := 1) hs hY hn (by omega) (fun ya' ye' => ⟨rfl, i_mk hs hX hY h0 h1⟩)))
  · exact br_f a (br_f b (br_f a (br_f b ⟨rfl, J⟩)))
theorem i_vc_doubtful {k : Nat} {u : SX} {v : SY} (I : i_Rel k u v) (hk : k + 3 ≤ 1536) (v1 : Int32) : wpX_doubtful (fun r u' => wpY_doubtful (fun r' v' => r' = r ∧ i_Rel (k + 3) u' v') v v1) u v1 := by
  obtain ⟨c, R, w, cd, sz, tn, wy, fw, sq, rd, rh, yw, ya, ye, yh, rfl, rfl, hs, hX, hY, h0, h1⟩ := I
  have J : i_Rel (k + 3) (nI c, nI R, nI (Nat.log2 R), cd, sz, tn, wy, fw, sq, rd, rh) (nI c, nI R, yw, ya, ye, yh) := i_mk hs hX hY h0 h1
  unfold wpX_doubtful wpY_doubtful
  dsimp only
  by_cases a : v1 < 0
  · exact br_t a (br_t a ⟨rfl, J⟩)
  by_cases b : v1 ≤ 10
  · obtain ⟨n, rfl, hn⟩ := wn_0t (b := 10) (by decide) a b
    refine br_f a (br_t b (xs_rows (b := 2) hs hX hn (by omega) (fun wy' => ?_)))
    exact br_f a (br_t b (ys_rows (b := 2) hs hY hn (by omega) (fun ya' ye' => ⟨rfl, i_mk hs hX hY h0 h1⟩)))
  · exact br_f a (br_f b (br_f a (br_f b ⟨rfl, J⟩)))
