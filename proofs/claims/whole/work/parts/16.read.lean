/-! read: the n-th reading, word by word -/
def wc_at : List Nat → Nat → Nat
  | [], _ => 0
  | k :: _, 0 => k
  | _ :: l, i + 1 => wc_at l i
section
variable {cd sz tn wy fw sq rd rh : Nat → Int32} {yw ya ye yh : Nat → Int32} {w : Nat → Nat} {c code n : Nat} {F : Nat → Nat}
theorem xk_in {post : Int32 → SX → Prop} {J : Int32 → Int32 → Int32 → Int32 → (Nat → Int32) → (Nat → Int32) → (Nat → Int32) → (Nat → Int32) → (Nat → Int32) → (Nat → Int32) → (Nat → Int32) → (Nat → Int32) → Prop} {p b b' k' : Nat} {x5 : Int32}
    (hs : wc_Set w c) (hA : wc_XA w c cd sz) (hcode : code < 2 ^ 31) (hn : n ≤ 16) (hp : p < n) (hW : ∀ j, p < j → j ≤ n → wy j = nI (F j)) (hB : ∀ j, j ≤ n → F j ≤ 65536)
    (hb : b ≤ 65536) (hk' : k' < c) (e : b = wc_sum (wc_thr w code n F 0 p) k' + b') (hb' : b' < wc_thr w code n F 0 p k')
    (hend : wX_takeReading_81 post J (nI b') (nI p) x5 (nI k') (nI c) (nI code) (nI n) cd sz tn wy fw sq rd rh) :
    ∀ m k f, k + m = k' → m < f → wX_takeReading_31 post J (nI p) x5 0 (nI c) (nI code) (nI n) cd sz tn wy fw sq rd rh f (nI (b - wc_sum (wc_thr w code n F 0 p) k)) (nI k) := by
  have h6 := hs.1
  have tb : ∀ k, wc_thr w code n F 0 p k ≤ 65536 := fun k => by
    by_cases hst : wc_st code n p (w k) = true
    · rw [wc_thr_t hst]
      exact hB _ (wc_st_le hst)
    · rw [wc_thr_f hst]
      omega
  intro m
  induction m with
  | zero =>
    intro k f hk hf
    obtain ⟨g, rfl, _⟩ := wn_fuel hf
    have ek : k = k' := by omega
    subst ek
    have eb : b - wc_sum (wc_thr w code n F 0 p) k = b' := by omega
    have t := tb k
    rw [eb]
    exact br_f (nI_ge hk' (by omega)) (xs_ways hs hA hcode hn hp hk' hW (br_f (nI_ge hb' (by omega)) hend))
  | succ m ih =>
    intro k f hk hf
    obtain ⟨g, rfl, _⟩ := wn_fuel hf
    have t := tb k
    have sS : wc_sum (wc_thr w code n F 0 p) (k + 1) = wc_sum (wc_thr w code n F 0 p) k + wc_thr w code n F 0 p k := rfl
    have sl := wc_sum_le (T := wc_thr w code n F 0 p) (a := k + 1) (b := k') (by omega)
    have nx := ih (k + 1) g (by omega) (by omega)
    rw [sS, ← Nat.sub_sub] at nx
    exact br_f (nI_ge (by omega) (by omega)) (xs_ways hs hA hcode hn hp (by omega) hW (br_t (nI_le (by omega) (by omega)) (nm_r (pk_sub (by omega)) (nm_r (nI_1 k) nx))))
theorem xk_out {post : Int32 → SX → Prop} (hs : wc_Set w c) (hA : wc_XA w c cd sz) (hcode : code < 2 ^ 31) (hn : n ≤ 16) (hW : ∀ j, j ≤ n → wy j = nI (F j)) (hB : ∀ j, j ≤ n → F j ≤ 65536) :
    ∀ (l : List Nat) (p b pl f : Nat) (rd : Nat → Int32), wc_path w c code n F l p b → p ≤ n → b ≤ 65536 → pl + l.length ≤ 16 → l.length < f →
    (∀ rd', (∀ i, i < pl → rd' i = rd i) → (∀ i, i < l.length → rd' (pl + i) = nI (wc_at l i)) → post (nI (pl + l.length)) (nI c, nI code, nI n, cd, sz, tn, wy, fw, sq, rd', rh)) →
    wX_takeReading_10 post (nI c) (nI code) (nI n) f (nI b) (nI p) (nI pl) (nI pl) cd sz tn wy fw sq rd rh := by
  have h6 := hs.1
  intro l
  induction l with
  | nil =>
    intro p b pl f rd hP hp hb hl hf h
    obtain ⟨g, rfl, _⟩ := wn_fuel hf
    have e : p = n := hP
    have H := h rd (fun _ _ => rfl) (fun i hi => absurd hi (Nat.not_lt_zero i))
    exact br_c (fun _ => H) (fun _ => br_t (nI_le (by omega) (by omega)) H)
  | cons k l ih =>
    intro p b pl f rd hP hp hb hl hf h
    obtain ⟨g, rfl, hg⟩ := wn_fuel hf
    obtain ⟨h1, h2, h3, b', h4, h5, h7⟩ := hP
    have hw := hs.2.2 k h2
    have hm := wc_lg7 hw.1 hw.2
    have hle := wc_st_le h3
    have hl2 : pl + (l.length + 1) ≤ 16 := hl
    have hg2 : l.length + 1 ≤ g := hg
    have b6 := hB _ hle
    have T := wc_thr_t (F := F) (z := 0) h3
    refine br_f (nI_ge (b := 16) (by omega) (by decide)) (br_f (nI_ge h1 (by omega)) ⟨c + 1, xk_in (b := b) (b' := b') (k' := k) hs hA hcode hn h1 (fun j _ q => hW j q) hB hb h2 h4 (by rw [T]; exact h5) ?_ k 0 (c + 1) (by omega) (by omega)⟩)
    unfold wX_takeReading_81
    refine ⟨vp_in_nI (by omega) (by decide), ?_⟩
    rw [nI_clamp (n := pl) (by omega), xa_s hA h6 h2]
    refine nm_e ⟨vp_in_nI (by omega) (by decide), nm_r (nI_add _ _) (nm_r (nI_1 pl) (nm_r (nI_1 pl) (ih _ b' (pl + 1) g _ h7 hle (by omega) (by omega) (by omega) (fun rd' q1 q2 => ?_))))⟩
    have E : pl + (k :: l).length = pl + 1 + l.length := by
      show pl + (l.length + 1) = pl + 1 + l.length
      omega
    have H := h rd' (fun i hi => by rw [q1 i (by omega), pk_un (by omega)]) (fun i hi => ?_)
    · rw [E] at H
      exact H
    · cases i with
      | zero =>
        rw [Nat.add_zero, q1 pl (by omega), pk_us]
        rfl
      | succ i =>
        have hi : i + 1 < l.length + 1 := hi
        have := q2 i (by omega)
        rw [show pl + (i + 1) = pl + 1 + i by omega, this]
        rfl
theorem yk_in {post : Int32 → SY → Prop} {J : Int32 → Int32 → Int32 → Prop} {p b b' k' : Nat} {x2 x7 : Int32}
    (hs : wc_Set w c) (hA : wc_YA w c yw) (hcode : code < 2 ^ 31) (hn : n ≤ 16) (hp : p < n) (hW : ∀ j, j ≤ n → ya j = nI (F j)) (hB : ∀ j, j ≤ n → F j ≤ 65536)
    (hb : b ≤ 65536) (hk' : k' < c) (e : b = wc_sum (wc_thr w code n F 0 p) k' + b') (hb' : b' < wc_thr w code n F 0 p k')
    (hend : wY_read_141 post J x2 (nI n) (nI p) (nI b') x7 (nI k') (nI c) (nI code) yw ya ye yh) :
    ∀ m k f, k + m = k' → m + 1 < f → wY_read_57 post J x2 (nI n) (nI p) x7 (nI c) (nI code) yw ya ye yh f (nI (b - wc_sum (wc_thr w code n F 0 p) k)) (-1) (nI k) := by
  have h6 := hs.1
  intro m
  induction m with
  | zero =>
    intro k f hk hf
    obtain ⟨g, rfl, hg⟩ := wn_fuel hf
    obtain ⟨g, rfl, _⟩ := wn_fuel hg
    have ek : k = k' := by omega
    subst ek
    have eb : b - wc_sum (wc_thr w code n F 0 p) k = b' := by omega
    have hw := hs.2.2 k hk'
    have hm := wc_lg7 hw.1 hw.2
    rw [eb]
    refine br_f (nI_ge hk' (by omega)) (br_f (by decide) ⟨vp_in_nI (by omega) (by decide), ys_stands (w k) (ya_w hA h6 hk') hw.1 hw.2 hcode hn (by omega) (fun z => ?_) (fun z => ?_)⟩)
    · have hle := wc_st_le z
      have b6 := hB _ hle
      rw [wc_thr_t z] at hb'
      refine br_f (by decide) ⟨vp_in_nI (by omega) (by decide), ys_len (w k) (ya_w hA h6 hk') (by omega) ?_⟩
      rw [nI_add]
      refine ⟨vp_in_nI (by omega) (by decide), ?_⟩
      rw [nI_clamp (n := p + Nat.log2 (w k)) (by omega), hW _ hle]
      exact nm_e (br_f (nI_ge hb' (by omega)) (nm_r (nI_1 k) (br_c (fun _ => hend) (fun _ => br_t (nI_pos' (by omega)) hend))))
    · rw [wc_thr_f z] at hb'
      omega
  | succ m ih =>
    intro k f hk hf
    obtain ⟨g, rfl, hg⟩ := wn_fuel hf
    have hkc : k < c := by omega
    have hw := hs.2.2 k hkc
    have hm := wc_lg7 hw.1 hw.2
    have sS : wc_sum (wc_thr w code n F 0 p) (k + 1) = wc_sum (wc_thr w code n F 0 p) k + wc_thr w code n F 0 p k := rfl
    have sl := wc_sum_le (T := wc_thr w code n F 0 p) (a := k + 1) (b := k') (by omega)
    have nx := ih (k + 1) g (by omega) (by omega)
    rw [sS, ← Nat.sub_sub] at nx
    refine br_f (nI_ge hkc (by omega)) (br_f (by decide) ⟨vp_in_nI (by omega) (by decide), ys_stands (w k) (ya_w hA h6 hkc) hw.1 hw.2 hcode hn (by omega) (fun z => ?_) (fun z => ?_)⟩)
    · have hle := wc_st_le z
      have b6 := hB _ hle
      rw [wc_thr_t z] at nx sS
      refine br_f (by decide) ⟨vp_in_nI (by omega) (by decide), ys_len (w k) (ya_w hA h6 hkc) (by omega) ?_⟩
      rw [nI_add]
      refine ⟨vp_in_nI (by omega) (by decide), ?_⟩
      rw [nI_clamp (n := p + Nat.log2 (w k)) (by omega), hW _ hle]
      exact nm_e (br_t (nI_le (by omega) (by omega)) (nm_r (pk_sub (by omega)) (nm_r (nI_1 k) nx)))
    · rw [wc_thr_f z, Nat.sub_zero] at nx
      exact br_t rfl (nm_r (nI_1 k) nx)
theorem yk_out {post : Int32 → SY → Prop} {i : Nat} (hi : i < 2 ^ 31) (hs : wc_Set w c) (hA : wc_YA w c yw) (hcode : code < 2 ^ 31) (hn : n ≤ 16) (hW : ∀ j, j ≤ n → ya j = nI (F j)) (hB : ∀ j, j ≤ n → F j ≤ 65536) :
    ∀ (l : List Nat) (p b dn f : Nat), wc_path w c code n F l p b → p ≤ n → b ≤ 65536 → dn ≤ i → l.length < f →
    (i - dn < l.length → post (nI (wc_at l (i - dn))) (nI c, nI code, yw, ya, ye, yh)) → (l.length ≤ i - dn → post (-4) (nI c, nI code, yw, ya, ye, yh)) →
    wY_read_44 post (nI i) (nI n) (nI c) (nI code) yw ya ye yh f (nI p) (nI b) (nI dn) := by
  have h6 := hs.1
  intro l
  induction l with
  | nil =>
    intro p b dn f hP hp hb hd hf ha hz
    obtain ⟨g, rfl, _⟩ := wn_fuel hf
    have e : p = n := hP
    exact br_t (nI_le (by omega) (by omega)) (hz (Nat.zero_le _))
  | cons k l ih =>
    intro p b dn f hP hp hb hd hf ha hz
    obtain ⟨g, rfl, hg⟩ := wn_fuel hf
    obtain ⟨h1, h2, h3, b', h4, h5, h7⟩ := hP
    have hw := hs.2.2 k h2
    have hm := wc_lg7 hw.1 hw.2
    have hle := wc_st_le h3
    have hg2 : l.length + 1 ≤ g := hg
    have b6 := hB _ hle
    have T := wc_thr_t (F := F) (z := 0) h3
    refine br_f (nI_ge h1 (by omega)) ⟨k + 2, yk_in (b := b) (b' := b') (k' := k) hs hA hcode hn h1 hW hB hb h2 h4 (by rw [T]; exact h5) ?_ k 0 (k + 2) (by omega) (by omega)⟩
    unfold wY_read_141
    refine pk_eq dn i (fun e => ?_) (fun e => ?_)
    · have H := ha (by show i - dn < l.length + 1; omega)
      rw [show i - dn = 0 by omega] at H
      exact H
    · refine nm_r (nI_1 dn) ⟨vp_in_nI (by omega) (by decide), ys_len (w k) (ya_w hA h6 h2) (by omega) (nm_r (nI_add _ _) (ih _ b' (dn + 1) g h7 hle (by omega) (by omega) (by omega) (fun q => ?_) (fun q => ?_)))⟩
      · have H := ha (by show i - dn < l.length + 1; omega)
        rw [show i - dn = i - (dn + 1) + 1 by omega] at H
        exact H
      · exact hz (by show l.length + 1 ≤ i - dn; omega)
end
theorem ys_read0 {yw ya ye yh : Nat → Int32} {w : Nat → Nat} {c R : Nat} {F G : Nat → Nat} {post : Int32 → SY → Prop} {x1 x2 : Int32} (hs : wc_Set w c) (hY : wc_YA w c yw) (h1 : R < 131072) (h16 : Nat.log2 R ≤ 16) (hF : wc_W w c R (Nat.log2 R) F) (hG : wc_G w c R (Nat.log2 R) G)
    (hb : x1 < 0 ∨ nI (F 0) ≤ x1 ∨ x2 < 0) (hp : ∀ ya' ye', post (-4) (nI c, nI R, yw, ya', ye', yh)) : wpY_read post (nI c, nI R, yw, ya, ye, yh) x1 x2 := by
  unfold wpY_read
  dsimp only
  refine ys_count hs hY (by omega) h16 rfl hF hG (fun ya' ye' _ => ?_)
  have H := hp ya' ye'
  refine br_c (fun _ => H) (fun a => br_c (fun _ => H) (fun b => ?_))
  rcases hb with z | z | z
  · exact absurd z a
  · exact absurd z b
  · exact br_f (Int32.not_le.mpr z) H
theorem ys_read1 {yw ya ye yh : Nat → Int32} {w : Nat → Nat} {c R b i : Nat} {F G : Nat → Nat} {l : List Nat} {post : Int32 → SY → Prop} (hs : wc_Set w c) (hY : wc_YA w c yw) (h1 : R < 131072) (h16 : Nat.log2 R ≤ 16) (hF : wc_W w c R (Nat.log2 R) F) (hG : wc_G w c R (Nat.log2 R) G)
    (hB : ∀ j, j ≤ Nat.log2 R → F j ≤ 65536) (lt : b < F 0) (hi : i < 2 ^ 31) (hP : wc_path w c R (Nat.log2 R) F l 0 b) (hl : l.length ≤ 16)
    (hp1 : i < l.length → ∀ ya' ye', post (nI (wc_at l i)) (nI c, nI R, yw, ya', ye', yh)) (hp0 : l.length ≤ i → ∀ ya' ye', post (-4) (nI c, nI R, yw, ya', ye', yh)) : wpY_read post (nI c, nI R, yw, ya, ye, yh) (nI b) (nI i) := by
  have b0 := hB 0 (Nat.zero_le _)
  unfold wpY_read
  dsimp only
  refine ys_count hs hY (by omega) h16 rfl hF hG (fun ya' ye' hr => ?_)
  refine br_f (nI_pos (by omega)) (br_f (nI_ge lt (by omega)) (br_t (nI_pos' hi) (ys_len R rfl (by omega) ⟨17, ?_⟩)))
  exact yk_out hi hs hY (by omega) h16 (fun j hj => (hr j hj).1) hB l 0 b 0 17 hP (Nat.zero_le _) (by omega) (Nat.zero_le _) (by omega) (fun z => hp1 z ya' ye') (fun z => hp0 z ya' ye')
theorem i_vc_read {k : Nat} {u : SX} {v : SY} (I : i_Rel k u v) (hk : k + 3 ≤ 1536) (v1 : Int32) (v2 : Int32) : wpX_read (fun r u' => wpY_read (fun r' v' => r' = r ∧ i_Rel (k + 3) u' v') v v1 v2) u v1 v2 := by
  obtain ⟨c, R, w, cd, sz, tn, wy, fw, sq, rd, rh, yw, ya, ye, yh, rfl, rfl, hs, hX, hY, h0, h1⟩ := I
  have h16 := wn_r16 h0 h1
  have hF : wc_W w c R (Nat.log2 R) (wc_wf w c R (Nat.log2 R) (Nat.log2 R)) := wc_wf_W hs
  have hG : wc_G w c R (Nat.log2 R) (wc_gf w c R (Nat.log2 R) (Nat.log2 R)) := wc_gf_G hs
  have hB : ∀ j, j ≤ Nat.log2 R → wc_wf w c R (Nat.log2 R) (Nat.log2 R) j ≤ 65536 := fun j hj => wc_W_16 hs hF h16 hj
  have ex := wc_path_ex hs hF (Nat.log2 R) 0
  have b0 := hB 0 (Nat.zero_le _)
  unfold wpX_read
  dsimp only
  refine xs_count hs hX (by omega) h16 hF (fun wy' hw' => ?_)
  dsimp only
  generalize wc_wf w c R (Nat.log2 R) (Nat.log2 R) = F at *
  by_cases a : v1 < 0
  · exact br_t a (ys_read0 hs hY h1 h16 hF hG (Or.inl a) (fun ya' ye' => ⟨rfl, i_mk hs hX hY h0 h1⟩))
  obtain ⟨b, hb, rfl⟩ := nI_of a
  by_cases lt : b < F 0
  · obtain ⟨l, hP, hl⟩ := ex b (by omega) lt
    refine br_f a (br_t (nI_lt lt (by omega)) ?_)
    unfold wpX_takeReading
    dsimp only
    refine ⟨17, xk_out hs hX (by omega) h16 hw' hB l 0 b 0 17 rd hP (Nat.zero_le _) (by omega) (by omega) (by omega) (fun rd' _ q2 => ?_)⟩
    rw [Nat.zero_add]
    dsimp only
    by_cases a2 : v2 < 0
    · exact br_t a2 (ys_read0 hs hY h1 h16 hF hG (Or.inr (Or.inr a2)) (fun ya' ye' => ⟨rfl, i_mk hs hX hY h0 h1⟩))
    obtain ⟨i, hi, rfl⟩ := nI_of a2
    by_cases hil : i < l.length
    · refine br_f a2 (br_f (nI_ge hil (by omega)) ⟨vp_in_nI (by omega) (by decide), ?_⟩)
      rw [nI_clamp (by omega)]
      have e := q2 i hil
      rw [Nat.zero_add] at e
      rw [e]
      exact ys_read1 hs hY h1 h16 hF hG hB lt hi hP (by omega) (fun _ ya' ye' => ⟨rfl, i_mk hs hX hY h0 h1⟩) (fun z => absurd z (by omega))
    · exact br_f a2 (br_t (nI_le (by omega) (by omega)) (ys_read1 hs hY h1 h16 hF hG hB lt hi hP (by omega) (fun z => absurd z hil) (fun _ ya' ye' => ⟨rfl, i_mk hs hX hY h0 h1⟩)))
  · exact br_f a (br_f (nI_nlt (by omega) (by omega)) (ys_read0 hs hY h1 h16 hF hG (Or.inr (Or.inl (nI_le (by omega) (by omega)))) (fun ya' ye' => ⟨rfl, i_mk hs hX hY h0 h1⟩)))
