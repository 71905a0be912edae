/-! strictly rising rows of numbers, and what sorting does -/
def wc_Inc (w : Nat → Nat) (c : Nat) : Prop := ∀ i j, i < j → j < c → w i < w j
def wc_Inj (w : Nat → Nat) (c : Nat) : Prop := ∀ i j, i < c → j < c → w i = w j → i = j
def wc_Sub (f g : Nat → Nat) (c : Nat) : Prop := ∀ i, i < c → ∃ j, j < c ∧ g j = f i
theorem wc_sub_refl (f : Nat → Nat) (c : Nat) : wc_Sub f f c := fun i hi => ⟨i, hi, rfl⟩
theorem wc_sub_trans {f g h : Nat → Nat} {c : Nat} (a : wc_Sub f g c) (b : wc_Sub g h c) : wc_Sub f h c := fun i hi => by
  obtain ⟨j, hj, e⟩ := a i hi
  obtain ⟨k, hk, e2⟩ := b j hj
  exact ⟨k, hk, e2.trans e⟩
theorem wc_inc_inj {w : Nat → Nat} {c : Nat} (h : wc_Inc w c) : wc_Inj w c := by
  intro i j hi hj e
  rcases Nat.lt_trichotomy i j with z | z | z
  · have := h i j z hj
    omega
  · exact z
  · have := h j i z hi
    omega
theorem wc_inc_le {w : Nat → Nat} {c : Nat} (h : wc_Inc w c) {i j : Nat} (a : i ≤ j) (b : j < c) : w i ≤ w j := by
  rcases Nat.lt_or_ge i j with z | z
  · exact Nat.le_of_lt (h i j z b)
  · have e : i = j := by omega
    subst e
    exact Nat.le_refl _
theorem wc_uniq {f g : Nat → Nat} {c : Nat} (hf : wc_Inc f c) (hg : wc_Inc g c) (h1 : wc_Sub f g c) (h2 : wc_Sub g f c) : ∀ k, k < c → f k = g k := by
  intro k
  induction k using Nat.strongRecOn with
  | ind k ih =>
    intro hk
    obtain ⟨j, hj, ej⟩ := h1 k hk
    obtain ⟨i, hi, ei⟩ := h2 k hk
    have a : k ≤ j := by
      rcases Nat.lt_or_ge j k with z | z
      · have e1 := ih j z hj
        have e2 := hf j k z hk
        omega
      · exact z
    have b : k ≤ i := by
      rcases Nat.lt_or_ge i k with z | z
      · have e1 := ih i z hi
        have e2 := hg i k z hk
        omega
      · exact z
    have c1 := wc_inc_le hg a hj
    have c2 := wc_inc_le hf b hi
    omega
/-- two places changed -/
def wc_tp (i j k : Nat) : Nat := if k = i then j else if k = j then i else k
theorem wc_tp_i (i j : Nat) : wc_tp i j i = j := if_pos rfl
theorem wc_tp_j {i j : Nat} : wc_tp i j j = i := by
  unfold wc_tp
  split
  · omega
  · rw [if_pos rfl]
theorem wc_tp_n {i j k : Nat} (h1 : k ≠ i) (h2 : k ≠ j) : wc_tp i j k = k := by
  unfold wc_tp
  rw [if_neg h1, if_neg h2]
theorem wc_tp_tp (i j k : Nat) : wc_tp i j (wc_tp i j k) = k := by
  by_cases a : k = i
  · rw [a, wc_tp_i, wc_tp_j]
  · by_cases b : k = j
    · rw [b, wc_tp_j, wc_tp_i]
    · rw [wc_tp_n a b, wc_tp_n a b]
theorem wc_tp_lt {i j k c : Nat} (hi : i < c) (hj : j < c) (hk : k < c) : wc_tp i j k < c := by
  unfold wc_tp
  split
  · exact hj
  · split
    · exact hi
    · exact hk
theorem wc_tp_inj {w : Nat → Nat} {c i j : Nat} (hi : i < c) (hj : j < c) (h : wc_Inj w c) : wc_Inj (fun k => w (wc_tp i j k)) c := by
  intro x y hx hy e
  have e2 := h _ _ (wc_tp_lt hi hj hx) (wc_tp_lt hi hj hy) e
  rw [← wc_tp_tp i j x, e2, wc_tp_tp]
theorem wc_tp_sub {w : Nat → Nat} {c i j : Nat} (hi : i < c) (hj : j < c) : wc_Sub (fun k => w (wc_tp i j k)) w c ∧ wc_Sub w (fun k => w (wc_tp i j k)) c :=
  ⟨fun k hk => ⟨wc_tp i j k, wc_tp_lt hi hj hk, rfl⟩, fun k hk => ⟨wc_tp i j k, wc_tp_lt hi hj hk, by show w (wc_tp i j (wc_tp i j k)) = w k; rw [wc_tp_tp]⟩⟩
/-- what Y's sort knows at the head of the inner loop -/
def wc_So (w0 w : Nat → Nat) (c i j : Nat) : Prop :=
  wc_Inj w c ∧ wc_Sub w w0 c ∧ wc_Sub w0 w c ∧ (∀ a b, a < i → a < b → b < c → w a < w b) ∧ (∀ b, i < b → b < j → w i < w b)
theorem wc_so_0 {w : Nat → Nat} {c : Nat} (h : wc_Inj w c) : wc_So w w c 0 1 :=
  ⟨h, wc_sub_refl w c, wc_sub_refl w c, fun a b ha => absurd ha (Nat.not_lt_zero a), fun b h1 h2 => by omega⟩
theorem wc_so_keep {w0 w : Nat → Nat} {c i j : Nat} (h : wc_So w0 w c i j) (hij : i < j) (hj : j < c) (hle : ¬ w j < w i) : wc_So w0 w c i (j + 1) := by
  obtain ⟨h1, h2, h3, h4, h5⟩ := h
  refine ⟨h1, h2, h3, h4, fun b a1 a2 => ?_⟩
  rcases Nat.lt_or_ge b j with z | z
  · exact h5 b a1 z
  · have e : b = j := by omega
    subst e
    have ne : w i ≠ w b := fun e => by
      have := h1 i b (by omega) hj e
      omega
    omega
theorem wc_so_swap {w0 w : Nat → Nat} {c i j : Nat} (h : wc_So w0 w c i j) (hij : i < j) (hj : j < c) (hlt : w j < w i) : wc_So w0 (fun k => w (wc_tp i j k)) c i (j + 1) := by
  obtain ⟨h1, h2, h3, h4, h5⟩ := h
  have hi : i < c := by omega
  have s := @wc_tp_sub w c i j hi hj
  refine ⟨wc_tp_inj hi hj h1, wc_sub_trans s.1 h2, wc_sub_trans h3 s.2, ?_, ?_⟩
  · intro a b ha hab hb
    show w (wc_tp i j a) < w (wc_tp i j b)
    rw [wc_tp_n (by omega) (by omega)]
    refine h4 a _ ha ?_ (wc_tp_lt hi hj hb)
    unfold wc_tp
    split
    · omega
    · split <;> omega
  · intro b h6 h7
    show w (wc_tp i j i) < w (wc_tp i j b)
    rw [wc_tp_i]
    by_cases e : b = j
    · rw [e, wc_tp_j]
      exact hlt
    · rw [wc_tp_n (by omega) e]
      have := h5 b h6 (by omega)
      omega
theorem wc_so_next {w0 w : Nat → Nat} {c i : Nat} (h : wc_So w0 w c i c) : wc_So w0 w c (i + 1) (i + 2) := by
  obtain ⟨h1, h2, h3, h4, h5⟩ := h
  refine ⟨h1, h2, h3, fun a b ha hab hb => ?_, fun b h6 h7 => by omega⟩
  rcases Nat.lt_or_ge a i with z | z
  · exact h4 a b z hab hb
  · have e : a = i := by omega
    subst e
    exact h5 b hab hb
theorem wc_so_inc {w0 w : Nat → Nat} {c i j : Nat} (h : wc_So w0 w c i j) (hi : c ≤ i) : wc_Inc w c := fun a b hab hb => h.2.2.2.1 a b (by omega) hab hb
/-- a number put in at place q -/
def wc_in (w : Nat → Nat) (q x k : Nat) : Nat := if k < q then w k else if k = q then x else w (k - 1)
theorem wc_in_lo {w : Nat → Nat} {q x k : Nat} (h : k < q) : wc_in w q x k = w k := if_pos h
theorem wc_in_at {w : Nat → Nat} {q x : Nat} : wc_in w q x q = x := by
  unfold wc_in
  rw [if_neg (by omega), if_pos rfl]
theorem wc_in_hi {w : Nat → Nat} {q x k : Nat} (h : q < k) : wc_in w q x k = w (k - 1) := by
  unfold wc_in
  rw [if_neg (by omega), if_neg (by omega)]
theorem wc_in_inc {w : Nat → Nat} {c q x : Nat} (h : wc_Inc w c) (hq : q ≤ c) (lo : ∀ k, k < q → w k < x) (hi : ∀ k, q ≤ k → k < c → x < w k) : wc_Inc (wc_in w q x) (c + 1) := by
  intro i j hij hj
  rcases Nat.lt_trichotomy i q with z | z | z
  · rw [wc_in_lo z]
    rcases Nat.lt_trichotomy j q with y | y | y
    · rw [wc_in_lo y]
      exact h i j hij (by omega)
    · rw [y, wc_in_at]
      exact lo i z
    · rw [wc_in_hi y]
      exact h i (j - 1) (by omega) (by omega)
  · rw [z, wc_in_at, wc_in_hi (by omega)]
    exact hi _ (by omega) (by omega)
  · rw [wc_in_hi z, wc_in_hi (by omega)]
    exact h _ _ (by omega) (by omega)
/-- one taken out at place q -/
def wc_rm (w : Nat → Nat) (q k : Nat) : Nat := if k < q then w k else w (k + 1)
theorem wc_rm_lo {w : Nat → Nat} {q k : Nat} (h : k < q) : wc_rm w q k = w k := if_pos h
theorem wc_rm_hi {w : Nat → Nat} {q k : Nat} (h : q ≤ k) : wc_rm w q k = w (k + 1) := if_neg (by omega)
theorem wc_rm_inc {w : Nat → Nat} {c q : Nat} (h : wc_Inc w (c + 1)) : wc_Inc (wc_rm w q) c := by
  intro i j hij hj
  unfold wc_rm
  split
  · split
    · exact h _ _ hij (by omega)
    · exact h _ _ (by omega) (by omega)
  · split
    · omega
    · exact h _ _ (by omega) (by omega)
