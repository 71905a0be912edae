/-! finding, inserting, sorting, taking out, turning -/
section
variable {rc rs : Int32} {cd sz tn wy fw sq rd rh : Nat → Int32} {yr : Int32} {yw ya ye yh : Nat → Int32} {w : Nat → Nat} {c : Nat}
theorem xn_L {post : Int32 → Prop} {x : Int32} (h6 : c ≤ 6) (hA : wc_XA w c cd sz) (h1 : ∀ t, t < c → nI (w t) = x → post (nI t)) (h0 : (∀ j, j < c → ¬ nI (w j) = x) → post (-4)) :
    ∀ m k f, k + m = c → m < f → (∀ j, j < k → ¬ nI (w j) = x) → wX_numberOf_2 post x (nI c) rc rs cd sz tn wy fw sq rd rh f (nI k) := by
  intro m
  induction m with
  | zero =>
    intro k f hk hf hn
    obtain ⟨g, rfl, hg⟩ := wn_fuel hf
    exact br_t (nI_le (by omega) (by omega)) (h0 (fun j hj => hn j (by omega)))
  | succ m ih =>
    intro k f hk hf hn
    obtain ⟨g, rfl, hg⟩ := wn_fuel hf
    refine br_f (nI_ge (by omega) (by omega)) ⟨vp_in_nI (by omega) (by decide), ?_⟩
    rw [xa_c hA h6 (by omega)]
    by_cases e : nI (w k) = x
    · exact br_t e (h1 k (by omega) e)
    · refine br_f e (nm_r (nI_1 k) (ih (k + 1) g (by omega) (by omega) (fun j hj => ?_)))
      rcases Nat.lt_or_ge j k with z | z
      · exact hn j z
      · have q : j = k := by omega
        rw [q]
        exact e
theorem xs_number {post : Int32 → Prop} {x : Int32} (h6 : c ≤ 6) (hA : wc_XA w c cd sz) (h1 : ∀ t, t < c → nI (w t) = x → post (nI t)) (h0 : (∀ j, j < c → ¬ nI (w j) = x) → post (-4)) :
    wpX_numberOf post (nI c, rc, rs, cd, sz, tn, wy, fw, sq, rd, rh) x :=
  ⟨c + 1, xn_L h6 hA h1 h0 c 0 (c + 1) (by omega) (by omega) (fun j hj => absurd hj (Nat.not_lt_zero j))⟩
theorem yn_L {post : Int32 → Prop} {x : Int32} (h6 : c ≤ 6) (hA : wc_YA w c yw) (h1 : ∀ t, t < c → nI (w t) = x → post (nI t)) (h0 : (∀ j, j < c → ¬ nI (w j) = x) → post (-1)) :
    ∀ m k f, k + m = c → m < f → (∀ j, j < k → ¬ nI (w j) = x) → wY_find_2 post x (nI c) yr yw ya ye yh f (nI k) := by
  intro m
  induction m with
  | zero =>
    intro k f hk hf hn
    obtain ⟨g, rfl, hg⟩ := wn_fuel hf
    exact br_t (nI_le (by omega) (by omega)) (h0 (fun j hj => hn j (by omega)))
  | succ m ih =>
    intro k f hk hf hn
    obtain ⟨g, rfl, hg⟩ := wn_fuel hf
    refine br_f (nI_ge (by omega) (by omega)) ⟨vp_in_nI (by omega) (by decide), ?_⟩
    rw [ya_w hA h6 (by omega)]
    by_cases e : nI (w k) = x
    · exact br_t e (h1 k (by omega) e)
    · refine br_f e (nm_r (nI_1 k) (ih (k + 1) g (by omega) (by omega) (fun j hj => ?_)))
      rcases Nat.lt_or_ge j k with z | z
      · exact hn j z
      · have q : j = k := by omega
        rw [q]
        exact e
theorem ys_find {post : Int32 → Prop} {x : Int32} (h6 : c ≤ 6) (hA : wc_YA w c yw) (h1 : ∀ t, t < c → nI (w t) = x → post (nI t)) (h0 : (∀ j, j < c → ¬ nI (w j) = x) → post (-1)) :
    wpY_find post (nI c, yr, yw, ya, ye, yh) x :=
  ⟨c + 1, yn_L h6 hA h1 h0 c 0 (c + 1) (by omega) (by omega) (fun j hj => absurd hj (Nat.not_lt_zero j))⟩
theorem xi_end {x q : Nat} (hq : q ≤ c) (lo : ∀ j, j < q → cd j = nI (w j) ∧ sz j = nI (Nat.log2 (w j))) (hi : ∀ j, q < j → j < c + 1 → cd j = nI (w (j - 1)) ∧ sz j = nI (Nat.log2 (w (j - 1)))) :
    wc_XA (wc_in w q x) (c + 1) (upd cd q (nI x)) (upd sz q (nI (Nat.log2 x))) := by
  intro j hj
  rcases Nat.lt_trichotomy j q with z | z | z
  · rw [pk_un (by omega), pk_un (by omega), wc_in_lo z]
    exact lo j z
  · rw [z, pk_us, pk_us, wc_in_at]
    exact ⟨rfl, rfl⟩
  · rw [pk_un (by omega), pk_un (by omega), wc_in_hi z]
    exact hi j z hj
theorem xi_64 {post : Int32 → SX → Prop} {x q : Nat} (hx : 2 ≤ x) (hx7 : x < 128) (hc : c < 6) (hq : q ≤ c) (lo : ∀ j, j < q → cd j = nI (w j) ∧ sz j = nI (Nat.log2 (w j))) (hi : ∀ j, q < j → j < c + 1 → cd j = nI (w (j - 1)) ∧ sz j = nI (Nat.log2 (w (j - 1))))
    (hp : ∀ cd' sz', wc_XA (wc_in w q x) (c + 1) cd' sz' → post (nI q) (nI (c + 1), rc, rs, cd', sz', tn, wy, fw, sq, rd, rh)) :
    wX_insert_64 post (nI x) (nI q) (nI c) rc rs cd sz tn wy fw sq rd rh := by
  have hi6 : vp_in (nI q) 6 := vp_in_nI (by omega) (by decide)
  have e : (nI q).toNatClampNeg = q := nI_clamp (by omega)
  unfold wX_insert_64
  rw [e]
  exact ⟨hi6, nm_e (xs_size x rfl (by omega) hx7 ⟨hi6, nm_e (nm_r (nI_1 c) (hp _ _ (xi_end hq lo hi)))⟩)⟩
theorem xi_L {post : Int32 → SX → Prop} {x : Nat} (hs : wc_Set w c) (hc : c < 6) (hx : 2 ≤ x) (hx7 : x < 128) (hn : ∀ j, j < c → w j ≠ x)
    (hp : ∀ q cd' sz', q ≤ c → (∀ j, j < q → w j < x) → (∀ j, q ≤ j → j < c → x < w j) → wc_XA (wc_in w q x) (c + 1) cd' sz' → post (nI q) (nI (c + 1), rc, rs, cd', sz', tn, wy, fw, sq, rd, rh)) :
    ∀ k f cd sz, k ≤ c → k < f → (∀ j, j < k → cd j = nI (w j) ∧ sz j = nI (Nat.log2 (w j))) → (∀ j, k < j → j < c + 1 → cd j = nI (w (j - 1)) ∧ sz j = nI (Nat.log2 (w (j - 1)))) → (∀ j, k ≤ j → j < c → x < w j) →
    wX_insert_10 post (nI x) (nI c) rc rs f (nI k) (nI k) cd sz tn wy fw sq rd rh := by
  intro k
  induction k with
  | zero =>
    intro f cd sz hk hf lo hi hg
    obtain ⟨g, rfl, _⟩ := wn_fuel hf
    exact br_t (by decide) (xi_64 hx hx7 hc hk lo hi (fun cd' sz' h => hp 0 cd' sz' hk (fun j hj => absurd hj (Nat.not_lt_zero j)) hg h))
  | succ k ih =>
    intro f cd sz hk hf lo hi hg
    obtain ⟨g, rfl, _⟩ := wn_fuel hf
    have hi6 : vp_in (nI k) 6 := vp_in_nI (by omega) (by decide)
    have hi7 : vp_in (nI (k + 1)) 6 := vp_in_nI (by omega) (by decide)
    refine br_f (nI_nle (by omega) (by omega)) ?_
    rw [nI_pred, nI_clamp (n := k) (by omega), nI_clamp (n := k + 1) (by omega), (lo k (by omega)).1, (lo k (by omega)).2]
    have hwk := hs.2.2 k (by omega)
    by_cases h : w k ≤ x
    · refine ⟨hi6, br_t (nI_le h (by omega)) (xi_64 hx hx7 hc hk lo hi (fun cd' sz' h2 => hp (k + 1) cd' sz' hk (fun j hj => ?_) hg h2))⟩
      have a := wc_inc_le hs.2.1 (i := j) (j := k) (by omega) (by omega)
      have b := hn k (by omega)
      omega
    · refine ⟨hi6, br_f (nI_ge (by omega) (by omega)) ⟨hi6, hi7, nm_e ⟨hi6, hi7, nm_e (nm_e (nm_r (pk_m1 k) (ih g _ _ (by omega) (by omega) ?_ ?_ ?_)))⟩⟩⟩
      · intro j hj
        rw [pk_un (by omega), pk_un (by omega)]
        exact lo j (by omega)
      · intro j h1 h2
        by_cases e : j = k + 1
        · rw [e, pk_us, pk_us]
          exact ⟨rfl, rfl⟩
        · rw [pk_un e, pk_un e]
          exact hi j (by omega) h2
      · intro j h1 h2
        by_cases e : j = k
        · rw [e]
          omega
        · exact hg j (by omega) h2
theorem xs_insert {post : Int32 → SX → Prop} {x : Nat} {xx : Int32} (hxx : xx = nI x) (hs : wc_Set w c) (hA : wc_XA w c cd sz) (hc : c < 6) (hx : 2 ≤ x) (hx7 : x < 128) (hn : ∀ j, j < c → w j ≠ x)
    (hp : ∀ q cd' sz', q ≤ c → (∀ j, j < q → w j < x) → (∀ j, q ≤ j → j < c → x < w j) → wc_XA (wc_in w q x) (c + 1) cd' sz' → post (nI q) (nI (c + 1), rc, rs, cd', sz', tn, wy, fw, sq, rd, rh)) :
    wpX_insert post (nI c, rc, rs, cd, sz, tn, wy, fw, sq, rd, rh) xx := by
  subst hxx
  exact ⟨c + 1, xi_L hs hc hx hx7 hn hp c (c + 1) cd sz (Nat.le_refl c) (by omega) hA (fun j h1 h2 => by omega) (fun j h1 h2 => by omega)⟩
theorem wc_in_set {x q : Nat} (hs : wc_Set w c) (hc : c < 6) (hx : 2 ≤ x) (hx7 : x < 128) (hq : q ≤ c) (lo : ∀ j, j < q → w j < x) (hi : ∀ j, q ≤ j → j < c → x < w j) : wc_Set (wc_in w q x) (c + 1) := by
  refine ⟨by omega, wc_in_inc hs.2.1 hq lo hi, fun k hk => ?_⟩
  rcases Nat.lt_trichotomy k q with z | z | z
  · rw [wc_in_lo z]
    exact hs.2.2 k (by omega)
  · rw [z, wc_in_at]
    exact ⟨hx, hx7⟩
  · rw [wc_in_hi z]
    exact hs.2.2 (k - 1) (by omega)
/-- put in at q: the same numbers as put behind -/
theorem wc_in_sub {x q : Nat} {v : Nat → Nat} (hq : q ≤ c) (h : wc_Sub w v c) (h2 : wc_Sub v w c) (hv : v c = x) : wc_Sub (wc_in w q x) v (c + 1) ∧ wc_Sub v (wc_in w q x) (c + 1) := by
  constructor
  · intro i hi
    rcases Nat.lt_trichotomy i q with z | z | z
    · obtain ⟨j, a, b⟩ := h i (by omega)
      exact ⟨j, by omega, by rw [wc_in_lo z]; exact b⟩
    · exact ⟨c, by omega, by rw [z, wc_in_at]; exact hv⟩
    · obtain ⟨j, a, b⟩ := h (i - 1) (by omega)
      exact ⟨j, by omega, by rw [wc_in_hi z]; exact b⟩
  · intro i hi
    by_cases e : i = c
    · exact ⟨q, by omega, by rw [e, wc_in_at]; exact hv.symm⟩
    · obtain ⟨j, a, b⟩ := h2 i (by omega)
      rcases Nat.lt_or_ge j q with z | z
      · exact ⟨j, by omega, by rw [wc_in_lo z]; exact b⟩
      · exact ⟨j + 1, by omega, by rw [wc_in_hi (by omega)]; exact b⟩
/-! Y's sort -/
theorem yo_in {post : SY → Prop} {J : Int32 → (Nat → Int32) → (Nat → Int32) → (Nat → Int32) → (Nat → Int32) → Prop} {w0 : Nat → Nat} {i : Nat} (h7 : c ≤ 6) (hB : ∀ k, k < c → w0 k < 128) (hi : i < c)
    (hJ : ∀ yw' w', wc_So w0 w' c i c → wc_YA w' c yw' → J (nI (i + 1)) yw' ya ye yh) :
    ∀ m j f yw w, j + m = c → i < j → m < f → wc_So w0 w c i j → wc_YA w c yw → wY_sort_14 post J (nI i) (nI c) yr f (nI j) yw ya ye yh := by
  intro m
  induction m with
  | zero =>
    intro j f yw w hj hij hf hS hA
    obtain ⟨g, rfl, _⟩ := wn_fuel hf
    have e : j = c := by omega
    subst e
    exact br_t (nI_le (Nat.le_refl _) (by omega)) (nm_r (nI_1 i) (hJ yw w hS hA))
  | succ m ih =>
    intro j f yw w hj hij hf hS hA
    obtain ⟨g, rfl, _⟩ := wn_fuel hf
    have hjc : j < c := by omega
    have vi : vp_in (nI i) 7 := vp_in_nI (by omega) (by decide)
    have vj : vp_in (nI j) 7 := vp_in_nI (by omega) (by decide)
    have bd : ∀ k, k < c → w k < 128 := fun k hk => by
      obtain ⟨t, a, b⟩ := hS.2.1 k hk
      rw [← b]
      exact hB t a
    have b1 := bd i hi
    have b2 := bd j hjc
    refine br_f (nI_ge (by omega) (by omega)) ⟨vj, vi, ?_⟩
    rw [ya_w hA (by omega) hi, ya_w hA (by omega) hjc]
    by_cases h : w i ≤ w j
    · exact br_t (nI_le h (by omega)) (nm_r (nI_1 j) (ih (j + 1) g yw w (by omega) (by omega) (by omega) (wc_so_keep hS hij hjc (by omega)) hA))
    · rw [nI_clamp (n := i) (by omega), nI_clamp (n := j) (by omega)]
      refine br_f (nI_ge (by omega) (by omega)) ⟨vi, nm_e ⟨vj, vi, nm_e ⟨vj, nm_e (nm_r (nI_1 j) (ih (j + 1) g _ _ (by omega) (by omega) (by omega) (wc_so_swap hS hij hjc (by omega)) ?_))⟩⟩⟩
      intro k hk
      show _ = nI (w (wc_tp i j k))
      by_cases ej : k = j
      · rw [ej, pk_us, wc_tp_j]
      · rw [pk_un ej]
        by_cases ei : k = i
        · rw [ei, pk_us, wc_tp_i]
        · rw [pk_un ei, wc_tp_n ei ej]
          exact hA k hk
theorem yo_out {post : SY → Prop} {w0 : Nat → Nat} (h7 : c ≤ 6) (hB : ∀ k, k < c → w0 k < 128) (hp : ∀ yw' w', wc_Inc w' c → wc_Sub w' w0 c → wc_Sub w0 w' c → wc_YA w' c yw' → post (nI c, yr, yw', ya, ye, yh)) :
    ∀ m i f yw w, i + m = c → m < f → wc_So w0 w c i (i + 1) → wc_YA w c yw → wY_sort_2 post (nI c) yr f (nI i) yw ya ye yh := by
  intro m
  induction m with
  | zero =>
    intro i f yw w hi hf hS hA
    obtain ⟨g, rfl, _⟩ := wn_fuel hf
    exact br_t (nI_le (by omega) (by omega)) (hp yw w (wc_so_inc hS (by omega)) hS.2.1 hS.2.2.1 hA)
  | succ m ih =>
    intro i f yw w hi hf hS hA
    obtain ⟨g, rfl, _⟩ := wn_fuel hf
    refine br_f (nI_ge (by omega) (by omega)) (nm_r (nI_1 i) ⟨c + 1, yo_in h7 hB (by omega) (fun yw' w' hS' hA' => ?_) (c - (i + 1)) (i + 1) (c + 1) yw w (by omega) (by omega) (by omega) hS hA⟩)
    exact ih (i + 1) g yw' w' (by omega) (by omega) (wc_so_next hS') hA'
theorem ys_sort {post : SY → Prop} (h7 : c ≤ 6) (hB : ∀ k, k < c → w k < 128) (hI : wc_Inj w c) (hA : wc_YA w c yw) (hp : ∀ yw' w', wc_Inc w' c → wc_Sub w' w c → wc_Sub w w' c → wc_YA w' c yw' → post (nI c, yr, yw', ya, ye, yh)) :
    wpY_sort post (nI c, yr, yw, ya, ye, yh) :=
  ⟨c + 1, yo_out h7 hB hp c 0 (c + 1) yw w (by omega) (by omega) (wc_so_0 hI) hA⟩
/-! taking out -/
theorem xr_L {post : Int32 → SX → Prop} {t : Nat} (hc : c + 1 ≤ 6) (hp : ∀ cd' sz', wc_XA (wc_rm w t) c cd' sz' → post (nI c) (nI c, rc, rs, cd', sz', tn, wy, fw, sq, rd, rh)) :
    ∀ m k f cd sz, k + m = c → m < f → t ≤ k → (∀ j, j < k → cd j = nI (wc_rm w t j) ∧ sz j = nI (Nat.log2 (wc_rm w t j))) → (∀ j, k ≤ j → j < c + 1 → cd j = nI (w j) ∧ sz j = nI (Nat.log2 (w j))) →
    wX_remove_17 post (nI (c + 1)) rc rs f (nI k) cd sz tn wy fw sq rd rh := by
  intro m
  induction m with
  | zero =>
    intro k f cd sz hk hf ht lo hi
    obtain ⟨g, rfl, _⟩ := wn_fuel hf
    have e : k = c := by omega
    subst e
    refine br_t ?_ (nm_r (nI_pred k) (hp cd sz lo))
    rw [nI_pred]
    exact nI_le (Nat.le_refl _) (by omega)
  | succ m ih =>
    intro k f cd sz hk hf ht lo hi
    obtain ⟨g, rfl, _⟩ := wn_fuel hf
    have v1 : vp_in (nI (k + 1)) 6 := vp_in_nI (by omega) (by decide)
    have v0 : vp_in (nI k) 6 := vp_in_nI (by omega) (by decide)
    have a := hi (k + 1) (by omega) (by omega)
    refine br_f ?_ ?_
    · rw [nI_pred]
      exact nI_ge (by omega) (by omega)
    · rw [nI_1 k, nI_clamp (n := k) (by omega), nI_clamp (n := k + 1) (by omega), a.1, a.2]
      refine ⟨v1, v0, nm_e ⟨v1, v0, nm_e (nm_e (ih (k + 1) g _ _ (by omega) (by omega) (by omega) ?_ ?_))⟩⟩
      · intro j hj
        by_cases e : j = k
        · rw [e, pk_us, pk_us, wc_rm_hi ht]
          exact ⟨rfl, rfl⟩
        · rw [pk_un e, pk_un e]
          exact lo j (by omega)
      · intro j h1 h2
        rw [pk_un (by omega), pk_un (by omega)]
        exact hi j (by omega) h2
theorem yr_L {post : Int32 → SY → Prop} {t : Nat} (hc : c + 1 ≤ 6) (hp : ∀ yw', wc_YA (wc_rm w t) c yw' → post (nI c) (nI c, yr, yw', ya, ye, yh)) :
    ∀ m k f yw, k + m = c → m < f → t ≤ k → (∀ j, j < k → yw j = nI (wc_rm w t j)) → (∀ j, k ≤ j → j < c + 1 → yw j = nI (w j)) →
    wY_remove_25 post (nI c) yr f (nI k) yw ya ye yh := by
  intro m
  induction m with
  | zero =>
    intro k f yw hk hf ht lo hi
    obtain ⟨g, rfl, _⟩ := wn_fuel hf
    have e : k = c := by omega
    subst e
    exact br_t (nI_le (Nat.le_refl _) (by omega)) (hp yw lo)
  | succ m ih =>
    intro k f yw hk hf ht lo hi
    obtain ⟨g, rfl, _⟩ := wn_fuel hf
    have v1 : vp_in (nI (k + 1)) 7 := vp_in_nI (by omega) (by decide)
    have v0 : vp_in (nI k) 7 := vp_in_nI (by omega) (by decide)
    refine br_f (nI_ge (by omega) (by omega)) ?_
    rw [nI_1 k, nI_clamp (n := k) (by omega), nI_clamp (n := k + 1) (by omega), hi (k + 1) (by omega) (by omega)]
    refine ⟨v1, v0, nm_e (nm_e (ih (k + 1) g _ (by omega) (by omega) (by omega) ?_ ?_))⟩
    · intro j hj
      by_cases e : j = k
      · rw [e, pk_us, wc_rm_hi ht]
      · rw [pk_un e]
        exact lo j (by omega)
    · intro j h1 h2
      rw [pk_un (by omega)]
      exact hi j (by omega) h2
/-! turning -/
theorem wn_and1 (n : Nat) : nI n &&& 1 = nI (n % 2) := by
  show nI n &&& nI 1 = nI (n % 2)
  rw [nx_and, Nat.and_one_is_mod]
theorem xt_L {post : Int32 → Prop} {x : Nat} (hx : 2 ≤ x) (hx7 : x < 128) (hp : post (nI (wc_tu x))) : ∀ m p f, p + m = Nat.log2 x → m < f → wX_turnRound_4 post (nI x) (nI (Nat.log2 x)) f (nI (wc_tq x p)) (nI p) := by
  have hm := wc_lg7 hx hx7
  intro m
  induction m with
  | zero =>
    intro p f hk hf
    obtain ⟨g, rfl, _⟩ := wn_fuel hf
    have e : p = Nat.log2 x := by omega
    rw [e]
    exact br_t (nI_le (Nat.le_refl _) (by omega)) hp
  | succ m ih =>
    intro p f hk hf
    obtain ⟨g, rfl, _⟩ := wn_fuel hf
    refine br_f (nI_ge (by omega) (by omega)) (nm_r (e' := nI (wc_tq x (p + 1))) ?_ (nm_r (nI_1 p) (ih (p + 1) g (by omega) (by omega))))
    rw [wc_shr (by omega) (by omega), wn_and1]
    exact (congrArg (fun y => y + nI (x / 2 ^ p % 2)) (pk_mul 2 (wc_tq x p))).trans (nI_add _ _)
theorem xs_turn {post : Int32 → Prop} {a b : Int32} (x : Nat) (ha : a = nI x) (hb : b = nI (Nat.log2 x)) (hx : 2 ≤ x) (hx7 : x < 128) (hp : post (nI (wc_tu x))) : wpX_turnRound post a b := by
  subst ha hb
  exact ⟨Nat.log2 x + 1, xt_L hx hx7 hp (Nat.log2 x) 0 (Nat.log2 x + 1) (by omega) (by omega)⟩
theorem yt_L {post : Int32 → SY → Prop} {J : Int32 → (Nat → Int32) → (Nat → Int32) → (Nat → Int32) → (Nat → Int32) → Prop} {x i : Nat} (hi : i < 7) (hx : 2 ≤ x) (hx7 : x < 128) (hp : J (nI (i + 1)) (upd yw i (nI (wc_tu x))) ya ye yh) :
    ∀ m p f, p + m = Nat.log2 x → m < f → wY_reverse_19 post J (nI i) (nI c) yr yw ya ye yh f (nI (wc_tq x p)) (nI (x / 2 ^ p)) := by
  have hm := wc_lg7 hx hx7
  intro m
  induction m with
  | zero =>
    intro p f hk hf
    obtain ⟨g, rfl, _⟩ := wn_fuel hf
    have e : p = Nat.log2 x := by omega
    have q : x / 2 ^ p < 2 := by
      rw [e]
      exact (Nat.div_lt_iff_lt_mul (Nat.two_pow_pos _)).mpr (wc_lgs x)
    refine br_t (nI_le (b := 1) (by omega) (by decide)) ⟨vp_in_nI (by omega) (by decide), ?_⟩
    rw [nI_clamp (by omega), e]
    exact nm_e (nm_r (nI_1 i) hp)
  | succ m ih =>
    intro p f hk hf
    obtain ⟨g, rfl, _⟩ := wn_fuel hf
    have q : 2 ≤ x / 2 ^ p := by
      rw [Nat.le_div_iff_mul_le (Nat.two_pow_pos p)]
      have a := wc_lge (a := x) (by omega)
      have b : 2 ^ (p + 1) ≤ 2 ^ Nat.log2 x := wc_p2 (by omega)
      rw [Nat.pow_succ] at b
      omega
    have le : x / 2 ^ p ≤ x := Nat.div_le_self _ _
    refine br_f (nI_ge (a := 1) (by omega) (by omega)) ⟨by decide, nm_r (e' := nI (wc_tq x (p + 1))) ?_ ⟨by decide, nm_r (e' := nI (x / 2 ^ (p + 1))) ?_ (ih (p + 1) g (by omega) (by omega))⟩⟩
    · have r := pk_rem (a := x / 2 ^ p) (d := 2) (by omega) (by decide) (by decide)
      exact (congrArg (fun y => 2 * nI (wc_tq x p) + y) r).trans ((congrArg (fun y => y + nI (x / 2 ^ p % 2)) (pk_mul 2 (wc_tq x p))).trans (nI_add _ _))
    · have r := pk_div (a := x / 2 ^ p) (d := 2) (by omega) (by decide) (by decide)
      rw [Nat.div_div_eq_div_mul, ← Nat.pow_succ] at r
      exact r
end
