/-! the readings of a row, counted from its end -/
def wc_sum (T : Nat → Nat) : Nat → Nat
  | 0 => 0
  | k + 1 => wc_sum T k + T k
theorem wc_sum_congr {T U : Nat → Nat} : ∀ {c : Nat}, (∀ k, k < c → T k = U k) → wc_sum T c = wc_sum U c
  | 0, _ => rfl
  | c + 1, h => by
    show wc_sum T c + T c = wc_sum U c + U c
    rw [wc_sum_congr (c := c) (fun k hk => h k (by omega)), h c (by omega)]
theorem wc_sum_le {T : Nat → Nat} {a b : Nat} (h : a ≤ b) : wc_sum T a ≤ wc_sum T b := by
  induction b with
  | zero =>
    have e : a = 0 := by omega
    subst e
    exact Nat.le_refl _
  | succ b ih =>
    rcases Nat.lt_or_ge a (b + 1) with z | z
    · have := ih (by omega)
      show wc_sum T a ≤ wc_sum T b + T b
      omega
    · have e : a = b + 1 := by omega
      subst e
      exact Nat.le_refl _
theorem wc_sum_zero {T : Nat → Nat} {c : Nat} : wc_sum T c = 0 ↔ ∀ k, k < c → T k = 0 := by
  induction c with
  | zero => exact ⟨fun _ k hk => by omega, fun _ => rfl⟩
  | succ c ih =>
    constructor
    · intro h k hk
      have h : wc_sum T c + T c = 0 := h
      rcases Nat.lt_or_ge k c with z | z
      · exact ih.mp (by omega) k z
      · have e : k = c := by omega
        subst e
        omega
    · intro h
      show wc_sum T c + T c = 0
      rw [ih.mpr (fun k hk => h k (by omega)), h c (by omega)]
/-- the word x stands in the row (code, n bits) at bit p -/
def wc_st (code n p x : Nat) : Bool := decide (p + Nat.log2 x ≤ n) && decide (code / 2 ^ (n - p - Nat.log2 x) % 2 ^ Nat.log2 x = x - 2 ^ Nat.log2 x)
theorem wc_st_le {code n p x : Nat} (h : wc_st code n p x = true) : p + Nat.log2 x ≤ n := by
  unfold wc_st at h
  rw [Bool.and_eq_true, decide_eq_true_eq] at h
  exact h.1
theorem wc_st_iff {code n p x : Nat} : wc_st code n p x = true ↔ p + Nat.log2 x ≤ n ∧ code / 2 ^ (n - (p + Nat.log2 x)) % 2 ^ Nat.log2 x = x - 2 ^ Nat.log2 x := by
  unfold wc_st
  rw [Bool.and_eq_true, decide_eq_true_eq, decide_eq_true_eq, Nat.sub_sub]
theorem wc_st_one {code n p x y : Nat} (hx : wc_st code n p x = true) (hy : wc_st code n p y = true) (e : Nat.log2 x = Nat.log2 y) (h2 : 2 ≤ x) (h3 : 2 ≤ y) : x = y := by
  unfold wc_st at hx hy
  rw [Bool.and_eq_true, decide_eq_true_eq, decide_eq_true_eq] at hx hy
  have a := hx.2
  have b := hy.2
  have c := wc_lge (a := x) (by omega)
  have d := wc_lge (a := y) (by omega)
  rw [e] at a c
  rw [a] at b
  omega
/-- the words: c of them, rising, two to 127 -/
def wc_Set (w : Nat → Nat) (c : Nat) : Prop := c ≤ 6 ∧ wc_Inc w c ∧ ∀ k, k < c → 2 ≤ w k ∧ w k < 128
def wc_thr (w : Nat → Nat) (code n : Nat) (F : Nat → Nat) (z p k : Nat) : Nat := if wc_st code n p (w k) then F (p + Nat.log2 (w k)) else z
theorem wc_thr_t {w : Nat → Nat} {code n : Nat} {F : Nat → Nat} {z p k : Nat} (h : wc_st code n p (w k) = true) : wc_thr w code n F z p k = F (p + Nat.log2 (w k)) := if_pos h
theorem wc_thr_f {w : Nat → Nat} {code n : Nat} {F : Nat → Nat} {z p k : Nat} (h : ¬ wc_st code n p (w k) = true) : wc_thr w code n F z p k = z := if_neg h
/-- F p: in how many ways the row can be read from bit p on -/
def wc_W (w : Nat → Nat) (c code n : Nat) (F : Nat → Nat) : Prop := F n = 1 ∧ ∀ p, p < n → F p = wc_sum (wc_thr w code n F 0 p) c
theorem wc_W_uniq {w : Nat → Nat} {c code n : Nat} {F G : Nat → Nat} (hs : wc_Set w c) (hF : wc_W w c code n F) (hG : wc_W w c code n G) : ∀ d p, p + d = n → F p = G p := by
  intro d
  induction d using Nat.strongRecOn with
  | ind d ih =>
    intro p hp
    rcases Nat.lt_or_ge p n with z | z
    · rw [hF.2 p z, hG.2 p z]
      apply wc_sum_congr
      intro k hk
      by_cases hst : wc_st code n p (w k) = true
      · rw [wc_thr_t hst, wc_thr_t hst]
        have h1 := wc_lg1 (hs.2.2 k hk).1
        have h2 := wc_st_le hst
        exact ih (n - (p + Nat.log2 (w k))) (by omega) _ (by omega)
      · rw [wc_thr_f hst, wc_thr_f hst]
    · have e : p = n := by omega
      rw [e, hF.1, hG.1]
theorem wc_pow_le {a b c s : Nat} (h : a < b) (hb : b ≤ c) (hs : s + 2 ^ (c - a) ≤ 2 ^ c) : s + 2 ^ (c - b) + 2 ^ (c - b) ≤ 2 ^ c := by
  have e : 2 ^ (c - b + 1) ≤ 2 ^ (c - a) := wc_p2 (by omega)
  rw [Nat.pow_succ] at e
  omega
theorem wc_W_part {w : Nat → Nat} {c code n p : Nat} {T : Nat → Nat} (hs : wc_Set w c) (hp : p < n)
    (hT : ∀ k, k < c → wc_st code n p (w k) = true → T k ≤ 2 ^ (n - p - Nat.log2 (w k))) (hT0 : ∀ k, k < c → ¬ wc_st code n p (w k) = true → T k = 0) :
    ∀ K, K ≤ c → ∃ L, (∀ k, K ≤ k → k < c → wc_st code n p (w k) = true → L < Nat.log2 (w k)) ∧ wc_sum T K + 2 ^ (n - p - L) ≤ 2 ^ (n - p) := by
  intro K
  induction K with
  | zero =>
    intro _
    refine ⟨0, fun k _ hk _ => wc_lg1 (hs.2.2 k hk).1, ?_⟩
    show 0 + 2 ^ (n - p - 0) ≤ 2 ^ (n - p)
    rw [Nat.zero_add, Nat.sub_zero]
    exact Nat.le_refl _
  | succ K ih =>
    intro hK
    obtain ⟨L, h1, h2⟩ := ih (by omega)
    by_cases hst : wc_st code n p (w K) = true
    · refine ⟨Nat.log2 (w K), ?_, ?_⟩
      · intro k hk hc hst2
        have a := hs.2.1 K k (by omega) hc
        have b := wc_lgm (a := w K) (b := w k) (by have := (hs.2.2 K (by omega)).1; omega) (by omega)
        rcases Nat.lt_or_ge (Nat.log2 (w K)) (Nat.log2 (w k)) with z | z
        · exact z
        · have := wc_st_one hst hst2 (by omega) (hs.2.2 K (by omega)).1 (hs.2.2 k hc).1
          omega
      · have a := hT K (by omega) hst
        have b := wc_pow_le (h1 K (Nat.le_refl _) (by omega) hst) (by have := wc_st_le hst; omega) h2
        show wc_sum T K + T K + 2 ^ (n - p - Nat.log2 (w K)) ≤ 2 ^ (n - p)
        omega
    · refine ⟨L, fun k hk hc hst2 => h1 k (by omega) hc hst2, ?_⟩
      show wc_sum T K + T K + 2 ^ (n - p - L) ≤ 2 ^ (n - p)
      rw [hT0 K (by omega) hst]
      exact h2
theorem wc_W_bnd {w : Nat → Nat} {c code n : Nat} {F : Nat → Nat} (hs : wc_Set w c) (hF : wc_W w c code n F) : ∀ d p, p + d = n → F p ≤ 2 ^ d := by
  intro d
  induction d using Nat.strongRecOn with
  | ind d ih =>
    intro p hp
    rcases Nat.lt_or_ge p n with z | z
    · rw [hF.2 p z]
      have hd : n - p = d := by omega
      obtain ⟨L, _, h2⟩ := wc_W_part (T := wc_thr w code n F 0 p) hs z (fun k hk hst => by
        rw [wc_thr_t hst]
        have h1 := wc_lg1 (hs.2.2 k hk).1
        have h2 := wc_st_le hst
        exact ih (n - p - Nat.log2 (w k)) (by omega) _ (by omega)) (fun k _ hst => wc_thr_f hst) c (Nat.le_refl _)
      rw [hd] at h2
      exact Nat.le_trans (Nat.le_add_right _ _) h2
    · have e : p = n := by omega
      rw [e, hF.1]
      exact Nat.two_pow_pos d
theorem wc_W_16 {w : Nat → Nat} {c code n : Nat} {F : Nat → Nat} (hs : wc_Set w c) (hF : wc_W w c code n F) (hn : n ≤ 16) {p : Nat} (hp : p ≤ n) : F p ≤ 65536 := by
  have h := wc_W_bnd hs hF (n - p) p (by omega)
  have h2 : 2 ^ (n - p) ≤ 2 ^ 16 := wc_p2 (by omega)
  have h3 : 2 ^ 16 = 65536 := by decide
  omega
/-! the fewest words: 99 says none -/
def wc_mn (T : Nat → Nat) : Nat → Nat
  | 0 => 99
  | k + 1 => if T k ≠ 99 ∧ T k + 1 < wc_mn T k then T k + 1 else wc_mn T k
theorem wc_mn_s {T : Nat → Nat} {k : Nat} : wc_mn T (k + 1) = if T k ≠ 99 ∧ T k + 1 < wc_mn T k then T k + 1 else wc_mn T k := rfl
theorem wc_mn_congr {T U : Nat → Nat} : ∀ {c : Nat}, (∀ k, k < c → T k = U k) → wc_mn T c = wc_mn U c
  | 0, _ => rfl
  | c + 1, h => by
    rw [wc_mn_s, wc_mn_s, wc_mn_congr (c := c) (fun k hk => h k (by omega)), h c (by omega)]
def wc_G (w : Nat → Nat) (c code n : Nat) (G : Nat → Nat) : Prop := G n = 0 ∧ ∀ p, p < n → G p = wc_mn (wc_thr w code n G 99 p) c
theorem wc_G_uniq {w : Nat → Nat} {c code n : Nat} {F G : Nat → Nat} (hs : wc_Set w c) (hF : wc_G w c code n F) (hG : wc_G w c code n G) : ∀ d p, p + d = n → F p = G p := by
  intro d
  induction d using Nat.strongRecOn with
  | ind d ih =>
    intro p hp
    rcases Nat.lt_or_ge p n with z | z
    · rw [hF.2 p z, hG.2 p z]
      apply wc_mn_congr
      intro k hk
      by_cases hst : wc_st code n p (w k) = true
      · rw [wc_thr_t hst, wc_thr_t hst]
        have h1 := wc_lg1 (hs.2.2 k hk).1
        have h2 := wc_st_le hst
        exact ih (n - (p + Nat.log2 (w k))) (by omega) _ (by omega)
      · rw [wc_thr_f hst, wc_thr_f hst]
    · have e : p = n := by omega
      rw [e, hF.1, hG.1]
theorem wc_mn_bnd {T : Nat → Nat} {m : Nat} : ∀ {c : Nat}, (∀ k, k < c → T k = 99 ∨ T k < m) → wc_mn T c = 99 ∨ wc_mn T c ≤ m
  | 0, _ => Or.inl rfl
  | c + 1, h => by
    rw [wc_mn_s]
    have ih := wc_mn_bnd (c := c) (fun k hk => h k (by omega))
    have hc := h c (by omega)
    split
    · omega
    · exact ih
theorem wc_mn_none {T : Nat → Nat} : ∀ {c : Nat}, (∀ k, k < c → T k = 99 ∨ T k ≤ 16) → (wc_mn T c = 99 ↔ ∀ k, k < c → T k = 99)
  | 0, _ => ⟨fun _ k hk => by omega, fun _ => rfl⟩
  | c + 1, h => by
    have ih := wc_mn_none (c := c) (fun k hk => h k (by omega))
    have hc := h c (by omega)
    have hb := wc_mn_bnd (T := T) (m := 17) (c := c) (fun k hk => by have := h k (by omega); omega)
    rw [wc_mn_s]
    constructor
    · intro e k hk
      split at e
      · omega
      · rename_i hn
        rcases Nat.lt_or_ge k c with z | z
        · exact ih.mp e k z
        · have e2 : k = c := by omega
          subst e2
          omega
    · intro e
      have e1 := e c (by omega)
      rw [if_neg (by omega)]
      exact ih.mpr (fun k hk => e k (by omega))
theorem wc_G_bnd {w : Nat → Nat} {c code n : Nat} {G : Nat → Nat} (hs : wc_Set w c) (hG : wc_G w c code n G) : ∀ d p, p + d = n → G p = 99 ∨ G p ≤ d := by
  intro d
  induction d using Nat.strongRecOn with
  | ind d ih =>
    intro p hp
    rcases Nat.lt_or_ge p n with z | z
    · rw [hG.2 p z]
      apply wc_mn_bnd
      intro k hk
      by_cases hst : wc_st code n p (w k) = true
      · rw [wc_thr_t hst]
        have h1 := wc_lg1 (hs.2.2 k hk).1
        have h2 := wc_st_le hst
        have := ih (n - (p + Nat.log2 (w k))) (by omega) (p + Nat.log2 (w k)) (by omega)
        omega
      · rw [wc_thr_f hst]
        exact Or.inl rfl
    · have e : p = n := by omega
      rw [e, hG.1]
      omega
theorem wc_GW {w : Nat → Nat} {c code n : Nat} {F G : Nat → Nat} (hs : wc_Set w c) (hn : n ≤ 16) (hF : wc_W w c code n F) (hG : wc_G w c code n G) : ∀ d p, p + d = n → (F p = 0 ↔ G p = 99) := by
  intro d
  induction d using Nat.strongRecOn with
  | ind d ih =>
    intro p hp
    rcases Nat.lt_or_ge p n with z | z
    · have key : ∀ k, k < c → (wc_thr w code n F 0 p k = 0 ↔ wc_thr w code n G 99 p k = 99) := by
        intro k hk
        by_cases hst : wc_st code n p (w k) = true
        · rw [wc_thr_t hst, wc_thr_t hst]
          have h1 := wc_lg1 (hs.2.2 k hk).1
          have h2 := wc_st_le hst
          exact ih (n - (p + Nat.log2 (w k))) (by omega) _ (by omega)
        · rw [wc_thr_f hst, wc_thr_f hst]
          exact ⟨fun _ => rfl, fun _ => rfl⟩
      rw [hF.2 p z, hG.2 p z, wc_sum_zero, wc_mn_none]
      · exact ⟨fun h k hk => (key k hk).mp (h k hk), fun h k hk => (key k hk).mpr (h k hk)⟩
      · intro k hk
        by_cases hst : wc_st code n p (w k) = true
        · rw [wc_thr_t hst]
          have h1 := wc_lg1 (hs.2.2 k hk).1
          have h2 := wc_st_le hst
          have := wc_G_bnd hs hG (n - (p + Nat.log2 (w k))) (p + Nat.log2 (w k)) (by omega)
          omega
        · rw [wc_thr_f hst]
          exact Or.inl rfl
    · have e : p = n := by omega
      rw [e, hF.1, hG.1]
      omega
/-! one reading: its words in order -/
def wc_path (w : Nat → Nat) (c code n : Nat) (F : Nat → Nat) : List Nat → Nat → Nat → Prop
  | [], p, _ => p = n
  | k :: l, p, b => p < n ∧ k < c ∧ wc_st code n p (w k) = true ∧ ∃ b', b = wc_sum (wc_thr w code n F 0 p) k + b' ∧ b' < F (p + Nat.log2 (w k)) ∧ wc_path w c code n F l (p + Nat.log2 (w k)) b'
theorem wc_pick {T : Nat → Nat} : ∀ {c b : Nat}, b < wc_sum T c → ∃ k b', k < c ∧ b = wc_sum T k + b' ∧ b' < T k
  | 0, b, h => absurd h (Nat.not_lt_zero b)
  | c + 1, b, h => by
    rcases Nat.lt_or_ge b (wc_sum T c) with z | z
    · obtain ⟨k, b', h1, h2, h3⟩ := wc_pick (c := c) z
      exact ⟨k, b', by omega, h2, h3⟩
    · have h : b < wc_sum T c + T c := h
      exact ⟨c, b - wc_sum T c, by omega, by omega, by omega⟩
theorem wc_path_ex {w : Nat → Nat} {c code n : Nat} {F : Nat → Nat} (hs : wc_Set w c) (hF : wc_W w c code n F) : ∀ d p b, p + d = n → b < F p → ∃ l, wc_path w c code n F l p b ∧ l.length ≤ d := by
  intro d
  induction d using Nat.strongRecOn with
  | ind d ih =>
    intro p b hp hb
    rcases Nat.lt_or_ge p n with z | z
    · rw [hF.2 p z] at hb
      obtain ⟨k, b', h1, h2, h3⟩ := wc_pick hb
      by_cases hst : wc_st code n p (w k) = true
      · rw [wc_thr_t hst] at h3
        have h4 := wc_lg1 (hs.2.2 k h1).1
        have h5 := wc_st_le hst
        obtain ⟨l, h6, h7⟩ := ih (n - (p + Nat.log2 (w k))) (by omega) (p + Nat.log2 (w k)) b' (by omega) h3
        refine ⟨k :: l, ⟨z, h1, hst, b', h2, h3, h6⟩, ?_⟩
        show l.length + 1 ≤ d
        omega
      · rw [wc_thr_f hst] at h3
        omega
    · exact ⟨[], (by show p = n; omega), Nat.zero_le _⟩
