/-! the small methods of both: sizes, lengths, where a word stands, beginnings, rests -/
theorem wn_4 {k : Nat} (h : k < 2 ^ 31) : ¬ nI k = -4 := fun e => by
  have e2 := congrArg Int32.toInt e
  rw [nI_toInt h, show (-4 : Int32).toInt = -4 from by decide] at e2
  omega
theorem wn_1 {k : Nat} (h : k < 2 ^ 31) : ¬ nI k = -1 := fun e => by
  have e2 := congrArg Int32.toInt e
  rw [nI_toInt h, show (-1 : Int32).toInt = -1 from by decide] at e2
  omega
theorem wn_fuel {m f : Nat} (h : m < f) : ∃ g, f = g + 1 ∧ m ≤ g := ⟨f - 1, by omega, by omega⟩
def wc_XA (w : Nat → Nat) (c : Nat) (cd sz : Nat → Int32) : Prop := ∀ k, k < c → cd k = nI (w k) ∧ sz k = nI (Nat.log2 (w k))
def wc_YA (w : Nat → Nat) (c : Nat) (yw : Nat → Int32) : Prop := ∀ k, k < c → yw k = nI (w k)
theorem xa_c {w : Nat → Nat} {c : Nat} {cd sz : Nat → Int32} (h : wc_XA w c cd sz) (hc : c ≤ 6) {k : Nat} (hk : k < c) : cd (nI k).toNatClampNeg = nI (w k) := by
  rw [nI_clamp (by omega)]
  exact (h k hk).1
theorem xa_s {w : Nat → Nat} {c : Nat} {cd sz : Nat → Int32} (h : wc_XA w c cd sz) (hc : c ≤ 6) {k : Nat} (hk : k < c) : sz (nI k).toNatClampNeg = nI (Nat.log2 (w k)) := by
  rw [nI_clamp (by omega)]
  exact (h k hk).2
theorem ya_w {w : Nat → Nat} {c : Nat} {yw : Nat → Int32} (h : wc_YA w c yw) (hc : c ≤ 6) {k : Nat} (hk : k < c) : yw (nI k).toNatClampNeg = nI (w k) := by
  rw [nI_clamp (by omega)]
  exact h k hk
section
variable {rc rs : Int32} {cd sz tn wy fw sq rd rh : Nat → Int32} {cn yr : Int32} {yw ya ye yh : Nat → Int32}
theorem xs_sizeL {post : Int32 → Prop} {n : Nat} (h0 : 0 < n) (h : n < 128) (hp : post (nI (Nat.log2 n))) : ∀ m b f s, b + m = 7 → 1 ≤ b → m < f → (s = if Nat.log2 n < b then Nat.log2 n else b - 1) → wX_sizeOf_4 post (nI n) f (nI s) (nI b) := by
  intro m
  induction m with
  | zero =>
    intro b f s hb h1 hf hs
    obtain ⟨g, rfl, hg⟩ := wn_fuel hf
    have hl : Nat.log2 n < 7 := wc_lgu h0 h
    rw [if_pos (by omega)] at hs
    subst hs
    exact br_t (nI_lt (a := 6) (b := b) (by omega) (by omega)) hp
  | succ m ih =>
    intro b f s hb h1 hf hs
    obtain ⟨g, rfl, hg⟩ := wn_fuel hf
    refine br_f (nI_nlt (a := 6) (b := b) (by omega) (by decide)) ?_
    by_cases hlg : Nat.log2 n < b
    · have e : nI n >>> (nI b &&& 31) = 0 := by
        rw [wc_shr (by omega) (by omega), Nat.div_eq_of_lt ((Nat.log2_lt (by omega)).mp hlg)]
        exact nI_0
      refine br_t e (nm_r (nI_1 b) (ih (b + 1) g s (by omega) (by omega) (by omega) ?_))
      rw [if_pos hlg] at hs
      rw [if_pos (by omega)]
      exact hs
    · have e : ¬ nI n >>> (nI b &&& 31) = 0 := by
        rw [wc_shr (by omega) (by omega)]
        have p : 2 ^ b ≤ n := (Nat.le_log2 (by omega)).mp (by omega)
        have q := Nat.div_pos p (Nat.two_pow_pos b)
        exact nI_ne0 q (Nat.lt_of_le_of_lt (Nat.div_le_self _ _) (by omega))
      refine br_f e (nm_r (nI_1 b) (ih (b + 1) g b (by omega) (by omega) (by omega) ?_))
      split <;> omega
theorem xs_size {post : Int32 → Prop} {x : Int32} (n : Nat) (hx : x = nI n) (h0 : 0 < n) (h : n < 128) (hp : post (nI (Nat.log2 n))) : wpX_sizeOf post x := by
  subst hx
  refine ⟨7, xs_sizeL h0 h hp 6 1 7 0 (by omega) (by omega) (by omega) ?_⟩
  split <;> omega
theorem ys_lenL {post : Int32 → Prop} : ∀ f n s, Nat.log2 n < f → n < 2 ^ 31 → post (nI (s + Nat.log2 n)) → wY_length_4 post cn yr yw ya ye yh f (nI s) (nI n) := by
  intro f
  induction f with
  | zero => intro n s h; omega
  | succ f ih =>
    intro n s h hn hp
    by_cases h1 : n ≤ 1
    · rw [wc_lg0 (by omega)] at hp
      exact br_t (nI_le (a := n) (b := 1) h1 (by decide)) hp
    · have e := wc_lgh (n := n) (by omega)
      rw [e] at hp
      refine br_f (nI_ge (a := 1) (b := n) (by omega) hn) (nm_r (nI_1 s) ⟨by decide, nm_r (pk_div (d := 2) hn (by decide) (by decide)) (ih (n / 2) (s + 1) (by omega) (by omega) ?_)⟩)
      rw [show s + 1 + Nat.log2 (n / 2) = s + (Nat.log2 (n / 2) + 1) by omega]
      exact hp
theorem ys_len {post : Int32 → Prop} {x : Int32} (n : Nat) (hx : x = nI n) (h : n < 2 ^ 31) (hp : post (nI (Nat.log2 n))) : wpY_length post (cn, yr, yw, ya, ye, yh) x := by
  subst hx
  refine ⟨Nat.log2 n + 1, ys_lenL (Nat.log2 n + 1) n 0 (by omega) h ?_⟩
  rw [Nat.zero_add]
  exact hp
theorem xs_stands {post : Int32 → Prop} {w : Nat → Nat} {c code n p k : Nat} (hs : wc_Set w c) (hA : wc_XA w c cd sz) (hcode : code < 2 ^ 31) (hn : n ≤ 16) (hp : p ≤ n) (hk : k < c)
    (h1 : wc_st code n p (w k) = true → post 1) (h0 : ¬ wc_st code n p (w k) = true → post 0) : wpX_standsAt post (cn, rc, rs, cd, sz, tn, wy, fw, sq, rd, rh) (nI code) (nI n) (nI p) (nI k) := by
  have h6 := hs.1
  have hw := hs.2.2 k hk
  have hm := wc_lg7 hw.1 hw.2
  have hi : vp_in (nI k) 6 := vp_in_nI (by omega) (by decide)
  unfold wpX_standsAt
  dsimp only
  rw [xa_s hA h6 hk, xa_c hA h6 hk]
  rw [wc_st_iff] at h1 h0
  generalize hM : Nat.log2 (w k) = m at *
  have hge : 2 ^ m ≤ w k := by rw [← hM]; exact wc_lge (by omega)
  refine ⟨hi, nm_r (nI_add p m) ?_⟩
  by_cases hle : p + m ≤ n
  · refine br_t (nI_le hle (by omega)) ⟨hi, nm_r (wc_mk (by omega)) (nm_r (e' := nI (2 ^ m + code / 2 ^ (n - (p + m)) % 2 ^ m)) ?_ ⟨hi, ?_⟩)⟩
    · rw [pk_sub hle, wc_shr hcode (by omega), wc_mm, wc_low, wc_mark]
    · have q1 := Nat.mod_lt (code / 2 ^ (n - (p + m))) (Nat.two_pow_pos m)
      have q2 : 2 ^ m ≤ 2 ^ 6 := wc_p2 (by omega)
      have q3 : 2 ^ 6 = 64 := by decide
      refine pk_eq (2 ^ m + code / 2 ^ (n - (p + m)) % 2 ^ m) (w k) (fun e => h1 ⟨hle, by omega⟩) (fun e => h0 (fun z => e (by omega)))
  · exact br_f (nI_ge (by omega) (by omega)) (h0 (fun z => hle z.1))
theorem xs_ways {post : Int32 → Prop} {w : Nat → Nat} {c code n p k : Nat} {F : Nat → Nat} (hs : wc_Set w c) (hA : wc_XA w c cd sz) (hcode : code < 2 ^ 31) (hn : n ≤ 16) (hp : p < n) (hk : k < c)
    (hW : ∀ j, p < j → j ≤ n → wy j = nI (F j)) (h : post (nI (wc_thr w code n F 0 p k))) : wpX_waysThrough post (cn, rc, rs, cd, sz, tn, wy, fw, sq, rd, rh) (nI code) (nI n) (nI p) (nI k) := by
  have h6 := hs.1
  have hw := hs.2.2 k hk
  have hm := wc_lg7 hw.1 hw.2
  unfold wpX_waysThrough
  dsimp only
  refine xs_stands hs hA hcode hn (by omega) hk (fun z => ?_) (fun z => ?_)
  · rw [wc_thr_t z] at h
    have hl := wc_st_le z
    refine br_f (by decide) ⟨vp_in_nI (by omega) (by decide), ?_⟩
    rw [xa_s hA h6 hk, nI_add]
    refine ⟨vp_in_nI (by omega) (by decide), ?_⟩
    rw [nI_clamp (by omega), hW _ (by omega) hl]
    exact h
  · rw [wc_thr_f z] at h
    exact br_t rfl h
theorem ys_stands {post : Int32 → Prop} {x : Int32} {code n p : Nat} (b : Nat) (hx : x = nI b) (hb : 2 ≤ b) (hb7 : b < 128) (hcode : code < 2 ^ 31) (hn : n ≤ 16) (hp : p ≤ n)
    (h1 : wc_st code n p b = true → post 1) (h0 : ¬ wc_st code n p b = true → post 0) : wpY_stands post (cn, yr, yw, ya, ye, yh) (nI code) (nI n) (nI p) x := by
  subst hx
  have hm := wc_lg7 hb hb7
  unfold wpY_stands
  dsimp only
  refine ys_len b rfl (by omega) ?_
  rw [wc_st_iff] at h1 h0
  have hge : 2 ^ Nat.log2 b ≤ b := wc_lge (by omega)
  generalize hM : Nat.log2 b = m at *
  rw [nI_add]
  by_cases hle : p + m ≤ n
  · refine br_t (nI_le hle (by omega)) ?_
    rw [pk_sub hp, pk_sub (by omega), wc_shr hcode (by omega), wc_mk (by omega), wc_mm, wc_low, pk_sub hge, Nat.sub_sub]
    have q1 := Nat.mod_lt (code / 2 ^ (n - (p + m))) (Nat.two_pow_pos m)
    have q2 : 2 ^ m ≤ 2 ^ 6 := wc_p2 (by omega)
    have q3 : 2 ^ 6 = 64 := by decide
    exact pk_eq (code / 2 ^ (n - (p + m)) % 2 ^ m) (b - 2 ^ m) (fun e => h1 ⟨hle, e⟩) (fun e => h0 (fun z => e z.2))
  · exact br_f (nI_ge (by omega) (by omega)) (h0 (fun z => hle z.1))
theorem wc_bg_iff {a b : Nat} : wc_bg a b = true ↔ Nat.log2 a < Nat.log2 b ∧ b / 2 ^ (Nat.log2 b - Nat.log2 a) = a := by
  unfold wc_bg
  rw [Bool.and_eq_true, decide_eq_true_eq, decide_eq_true_eq]
theorem xs_begin {post : Int32 → Prop} {x y : Int32} (a b : Nat) (hx : x = nI a) (hy : y = nI b) (ha : 2 ≤ a) (ha7 : a < 128) (hb : 2 ≤ b) (hb7 : b < 128)
    (h1 : wc_bg a b = true → post 1) (h0 : ¬ wc_bg a b = true → post 0) : wpX_isBeginning post x y := by
  subst hx hy
  have hm := wc_lg7 ha ha7
  have hn := wc_lg7 hb hb7
  rw [wc_bg_iff] at h1 h0
  unfold wpX_isBeginning
  refine xs_size b rfl (by omega) hb7 (xs_size a rfl (by omega) ha7 ?_)
  by_cases hlt : Nat.log2 a < Nat.log2 b
  · refine nm_r (pk_sub (by omega)) (br_f (nI_nle (by omega) (by omega)) ?_)
    rw [wc_shr (by omega) (by omega)]
    have q := Nat.div_le_self b (2 ^ (Nat.log2 b - Nat.log2 a))
    exact pk_eq (b / 2 ^ (Nat.log2 b - Nat.log2 a)) a (fun e => h1 ⟨hlt, e⟩) (fun e => h0 (fun z => e z.2))
  · refine nm_e (br_t ?_ (h0 (fun z => hlt z.1)))
    rw [Int32.le_iff_toInt_le, pk_sub_toInt (by omega) (by omega), show (0 : Int32).toInt = 0 from by decide]
    omega
theorem xs_rest {post : Int32 → Prop} {x y : Int32} (a b : Nat) (hx : x = nI a) (hy : y = nI b) (ha : 2 ≤ a) (ha7 : a < 128) (hb : 2 ≤ b) (hb7 : b < 128) (hlt : Nat.log2 a < Nat.log2 b)
    (h : post (nI (wc_rs a b))) : wpX_restBehind post x y := by
  subst hx hy
  have hm := wc_lg7 ha ha7
  have hn := wc_lg7 hb hb7
  unfold wpX_restBehind
  refine xs_size b rfl (by omega) hb7 (xs_size a rfl (by omega) ha7 ?_)
  rw [pk_sub (by omega)]
  refine nm_r (wc_mk (by omega)) ?_
  rw [wc_mm, wc_low, wc_mark]
  exact h
theorem ys_begin {post : Int32 → Prop} {x y : Int32} (a b : Nat) (hx : x = nI a) (hy : y = nI b) (ha : 2 ≤ a) (ha7 : a < 128) (hb : 2 ≤ b) (hb7 : b < 128)
    (h1 : wc_bg a b = true → post 1) (h0 : ¬ wc_bg a b = true → post 0) : wpY_begins post (cn, yr, yw, ya, ye, yh) x y := by
  subst hx hy
  have hm := wc_lg7 ha ha7
  have hn := wc_lg7 hb hb7
  rw [wc_bg_iff] at h1 h0
  unfold wpY_begins
  dsimp only
  refine ys_len a rfl (by omega) (ys_len b rfl (by omega) ?_)
  by_cases hlt : Nat.log2 a < Nat.log2 b
  · refine br_f (nI_ge hlt (by omega)) ?_
    rw [pk_sub (by omega), wc_shr (by omega) (by omega)]
    have q := Nat.div_le_self b (2 ^ (Nat.log2 b - Nat.log2 a))
    exact pk_eq (b / 2 ^ (Nat.log2 b - Nat.log2 a)) a (fun e => h1 ⟨hlt, e⟩) (fun e => h0 (fun z => e z.2))
  · exact br_t (nI_le (by omega) (by omega)) (h0 (fun z => hlt z.1))
theorem ys_rest {post : Int32 → Prop} {x y : Int32} (a b : Nat) (hx : x = nI b) (hy : y = nI (Nat.log2 a)) (hb : 2 ≤ b) (hb7 : b < 128) (hlt : Nat.log2 a < Nat.log2 b)
    (h : post (nI (wc_rs a b))) : wpY_rest post (cn, yr, yw, ya, ye, yh) x y := by
  subst hx hy
  have hn := wc_lg7 hb hb7
  unfold wpY_rest
  dsimp only
  refine ys_len b rfl (by omega) (nm_r (pk_sub (by omega)) ?_)
  rw [wc_mk (by omega), wc_mm, wc_low, nI_add]
  exact h
end
