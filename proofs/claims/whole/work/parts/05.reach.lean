/-! overhangs: 0 says not reached. d: what is reached so far -/
def wc_bg (a b : Nat) : Bool := decide (Nat.log2 a < Nat.log2 b) && decide (b / 2 ^ (Nat.log2 b - Nat.log2 a) = a)
def wc_rs (a b : Nat) : Nat := 2 ^ (Nat.log2 b - Nat.log2 a) + b % 2 ^ (Nat.log2 b - Nat.log2 a)
theorem wc_bg_lt {a b : Nat} (h : wc_bg a b = true) : Nat.log2 a < Nat.log2 b := by
  unfold wc_bg at h
  rw [Bool.and_eq_true, decide_eq_true_eq] at h
  exact h.1
theorem wc_bg_self (a : Nat) : wc_bg a a = false := by
  unfold wc_bg
  rw [decide_eq_false (Nat.lt_irrefl _), Bool.false_and]
theorem wc_rs_in {a b : Nat} (ha : 2 ≤ a) (hb : 2 ≤ b) (h7 : b < 128) (h : Nat.log2 a < Nat.log2 b) : 2 ≤ wc_rs a b ∧ wc_rs a b < 64 ∧ Nat.log2 (wc_rs a b) = Nat.log2 b - Nat.log2 a := by
  have h1 := wc_lg1 ha
  have h2 := (wc_lg7 hb h7).2
  have m := Nat.mod_lt b (Nat.two_pow_pos (Nat.log2 b - Nat.log2 a))
  have p1 : 2 ^ 1 ≤ 2 ^ (Nat.log2 b - Nat.log2 a) := wc_p2 (by omega)
  have p5 : 2 ^ (Nat.log2 b - Nat.log2 a) ≤ 2 ^ 5 := wc_p2 (by omega)
  have e5 : 2 ^ 5 = 32 := by decide
  have e1 : 2 ^ 1 = 2 := by decide
  unfold wc_rs
  refine ⟨by omega, by omega, ?_⟩
  exact wc_lgq (by omega) (by omega)
def wc_ok (d : Nat → Nat) (t b : Nat) : Prop := d t ≠ 0 ∧ d t ≤ b
def wc_set (d : Nat → Nat) (t b j : Nat) : Nat := if j = t then b else d j
theorem wc_set_s {d : Nat → Nat} {t b : Nat} : wc_set d t b t = b := if_pos rfl
theorem wc_set_n {d : Nat → Nat} {t b j : Nat} (h : j ≠ t) : wc_set d t b j = d j := if_neg h
def wc_rx (d : Nat → Nat) (t b : Nat) : Nat → Nat := if d t ≠ 0 ∧ d t ≤ b then d else wc_set d t b
theorem wc_rx_ok {d : Nat → Nat} {t b : Nat} (h : wc_ok d t b) : wc_rx d t b = d := if_pos h
theorem wc_rx_no {d : Nat → Nat} {t b : Nat} (h : ¬ wc_ok d t b) : wc_rx d t b = wc_set d t b := if_neg h
/-- the step from overhang o by word x: where to, and by how many bits -/
def wc_et (o x : Nat) : Option (Nat × Nat) := if wc_bg x o = true then some (wc_rs x o, 0) else if wc_bg o x = true then some (wc_rs o x, Nat.log2 x - Nat.log2 o) else none
theorem wc_et_in {o x t e : Nat} (ho : 2 ≤ o) (ho2 : o < 64) (hx : 2 ≤ x) (hx2 : x < 128) (h : wc_et o x = some (t, e)) : 2 ≤ t ∧ t < 64 ∧ e ≤ 5 := by
  unfold wc_et at h
  split at h
  · rename_i g
    have a := wc_rs_in hx ho (by omega) (wc_bg_lt g)
    have h := Option.some.inj h
    have h1 : wc_rs x o = t := congrArg Prod.fst h
    have h2 : 0 = e := congrArg Prod.snd h
    omega
  · split at h
    · rename_i g
      have a := wc_rs_in ho hx hx2 (wc_bg_lt g)
      have b := wc_lg7 hx hx2
      have c := wc_lg1 ho
      have h := Option.some.inj h
      have h1 : wc_rs o x = t := congrArg Prod.fst h
      have h2 : Nat.log2 x - Nat.log2 o = e := congrArg Prod.snd h
      omega
    · exact absurd h (by simp)
def wc_ed (o x : Nat) (d : Nat → Nat) : Nat → Nat := match wc_et o x with
  | none => d
  | some (t, e) => wc_rx d t (d o + e)
def wc_sE (o x : Nat) (d : Nat → Nat) : Prop := ∀ t e, wc_et o x = some (t, e) → wc_ok d t (d o + e)
theorem wc_ed_none {o x : Nat} {d : Nat → Nat} (h : wc_et o x = none) : wc_ed o x d = d := by simp only [wc_ed, h]
theorem wc_ed_some {o x t e : Nat} {d : Nat → Nat} (h : wc_et o x = some (t, e)) : wc_ed o x d = wc_rx d t (d o + e) := by simp only [wc_ed, h]
theorem wc_ed_sat {o x : Nat} {d : Nat → Nat} (h : wc_sE o x d) : wc_ed o x d = d := by
  rcases hE : wc_et o x with _ | ⟨t, e⟩
  · exact wc_ed_none hE
  · rw [wc_ed_some hE]
    exact wc_rx_ok (h t e hE)
/-! counting: how many are reached within x bits -/
def wc_ct (d : Nat → Nat) (x : Nat) : Nat → Nat
  | 0 => 0
  | m + 1 => wc_ct d x m + (if d (m + 1) ≠ 0 ∧ d (m + 1) ≤ x then 1 else 0)
theorem wc_ct_s {d : Nat → Nat} {x m : Nat} : wc_ct d x (m + 1) = wc_ct d x m + (if d (m + 1) ≠ 0 ∧ d (m + 1) ≤ x then 1 else 0) := rfl
theorem wc_ct_le {d : Nat → Nat} {x : Nat} : ∀ m, wc_ct d x m ≤ m
  | 0 => Nat.le_refl 0
  | m + 1 => by
    have := wc_ct_le (d := d) (x := x) m
    rw [wc_ct_s]
    split <;> omega
theorem wc_ct_mono {d d' : Nat → Nat} {x x' : Nat} (h : ∀ j, wc_ok d j x → wc_ok d' j x') : ∀ m, wc_ct d x m ≤ wc_ct d' x' m
  | 0 => Nat.le_refl 0
  | m + 1 => by
    have ih := wc_ct_mono h m
    rw [wc_ct_s, wc_ct_s]
    by_cases a : d (m + 1) ≠ 0 ∧ d (m + 1) ≤ x
    · have b : d' (m + 1) ≠ 0 ∧ d' (m + 1) ≤ x' := h (m + 1) a
      rw [if_pos a, if_pos b]
      omega
    · rw [if_neg a]
      omega
theorem wc_ct_strict {d d' : Nat → Nat} {x x' t : Nat} (h : ∀ j, wc_ok d j x → wc_ok d' j x') (h1 : ¬ wc_ok d t x) (h2 : wc_ok d' t x') (ht : 1 ≤ t) : ∀ m, t ≤ m → wc_ct d x m + 1 ≤ wc_ct d' x' m
  | 0, hm => by omega
  | m + 1, hm => by
    rw [wc_ct_s, wc_ct_s]
    rcases Nat.lt_or_ge m t with z | z
    · have e : t = m + 1 := by omega
      subst e
      have a : ¬ (d (m + 1) ≠ 0 ∧ d (m + 1) ≤ x) := h1
      have b : d' (m + 1) ≠ 0 ∧ d' (m + 1) ≤ x' := h2
      rw [if_neg a, if_pos b]
      have := wc_ct_mono h m
      omega
    · have ih := wc_ct_strict h h1 h2 ht m z
      by_cases a : d (m + 1) ≠ 0 ∧ d (m + 1) ≤ x
      · have b : d' (m + 1) ≠ 0 ∧ d' (m + 1) ≤ x' := h (m + 1) a
        rw [if_pos a, if_pos b]
        omega
      · rw [if_neg a]
        omega
theorem wc_ct_self {d : Nat → Nat} {t : Nat} (h0 : d t ≠ 0) (h1 : 1 ≤ t) (h2 : t < 64) : 1 ≤ wc_ct d (d t) 63 := by
  have a := wc_ct_strict (d := fun _ => 0) (d' := d) (x := 0) (x' := d t) (t := t) (fun j hj => absurd rfl hj.1) (fun hj => absurd rfl hj.1) ⟨h0, Nat.le_refl _⟩ h1 63 (by omega)
  omega
/-- every number of bits is small: at most six for each overhang that is reached as early -/
def wc_Bd (d : Nat → Nat) : Prop := ∀ j, 1 ≤ j → j < 64 → d j ≤ 6 * wc_ct d (d j) 63
theorem wc_bd_in {d : Nat → Nat} (h : wc_Bd d) {j : Nat} (h1 : 1 ≤ j) (h2 : j < 64) : d j ≤ 378 := by
  have a := h j h1 h2
  have b := wc_ct_le (d := d) (x := d j) 63
  omega
theorem wc_set_ok {d : Nat → Nat} {t b : Nat} (hb : b ≠ 0) (hn : ¬ wc_ok d t b) {j x : Nat} (h : wc_ok d j x) : wc_ok (wc_set d t b) j x := by
  by_cases e : j = t
  · subst e
    unfold wc_ok at h hn ⊢
    rw [wc_set_s]
    omega
  · unfold wc_ok at h ⊢
    rw [wc_set_n e]
    exact h
theorem wc_set_bd {d : Nat → Nat} {t b : Nat} (hb : b ≠ 0) (hn : ¬ wc_ok d t b) (ht : b ≤ 6 * wc_ct (wc_set d t b) b 63) (h : wc_Bd d) : wc_Bd (wc_set d t b) := by
  intro j h1 h2
  by_cases e : j = t
  · subst e
    rw [wc_set_s]
    exact ht
  · rw [wc_set_n e]
    have a := h j h1 h2
    have m := wc_ct_mono (d := d) (d' := wc_set d t b) (x := d j) (x' := d j) (fun i hi => wc_set_ok hb hn hi) 63
    omega
theorem wc_set_new {d : Nat → Nat} {t b y : Nat} (hb : b ≠ 0) (hn : ¬ wc_ok d t b) (h1 : 1 ≤ t) (h2 : t < 64) (hy : y ≤ b) : wc_ct d y 63 + 1 ≤ wc_ct (wc_set d t b) b 63 := by
  refine wc_ct_strict (t := t) (fun j hj => wc_set_ok hb hn ⟨hj.1, Nat.le_trans hj.2 hy⟩) (fun hj => hn ⟨hj.1, Nat.le_trans hj.2 hy⟩) ?_ h1 63 (by omega)
  unfold wc_ok
  rw [wc_set_s]
  exact ⟨hb, Nat.le_refl _⟩
/-! one visit, one round -/
def wc_vk (w : Nat → Nat) (o : Nat) : Nat → (Nat → Nat) → (Nat → Nat)
  | 0, d => d
  | k + 1, d => wc_ed o (w k) (wc_vk w o k d)
def wc_vis (w : Nat → Nat) (c o : Nat) (d : Nat → Nat) : Nat → Nat := if d o = 0 then d else wc_vk w o c d
def wc_rd (w : Nat → Nat) (c : Nat) : Nat → (Nat → Nat) → (Nat → Nat)
  | 0, d => d
  | m + 1, d => wc_vis w c (m + 2) (wc_rd w c m d)
def wc_it (w : Nat → Nat) (c : Nat) : Nat → (Nat → Nat) → (Nat → Nat)
  | 0, d => d
  | r + 1, d => wc_rd w c 62 (wc_it w c r d)
theorem wc_it_s {w : Nat → Nat} {c r : Nat} {d : Nat → Nat} : wc_it w c (r + 1) d = wc_rd w c 62 (wc_it w c r d) := rfl
theorem wc_rd_s {w : Nat → Nat} {c m : Nat} {d : Nat → Nat} : wc_rd w c (m + 1) d = wc_vis w c (m + 2) (wc_rd w c m d) := rfl
theorem wc_vk_s {w : Nat → Nat} {o k : Nat} {d : Nat → Nat} : wc_vk w o (k + 1) d = wc_ed o (w k) (wc_vk w o k d) := rfl
def wc_sat (w : Nat → Nat) (c o : Nat) (d : Nat → Nat) : Prop := ∀ k, k < c → wc_sE o (w k) d
def wc_Iv (w : Nat → Nat) (c r p : Nat) (d : Nat → Nat) : Prop := ∀ o, 2 ≤ o → o < 64 → d o ≠ 0 → wc_sat w c o d ∨ (p ≤ o ∧ r ≤ wc_ct d (d o) 63) ∨ r + 1 ≤ wc_ct d (d o) 63
theorem wc_ed_own {o x : Nat} {d : Nat → Nat} (h0 : d o ≠ 0) : wc_ed o x d o = d o := by
  rcases hE : wc_et o x with _ | ⟨t, e⟩
  · rw [wc_ed_none hE]
  · rw [wc_ed_some hE]
    by_cases g : wc_ok d t (d o + e)
    · rw [wc_rx_ok g]
    · rw [wc_rx_no g]
      by_cases z : o = t
      · subst z
        exact absurd ⟨h0, by omega⟩ g
      · exact wc_set_n z
theorem wc_vk_own {w : Nat → Nat} {o : Nat} {d : Nat → Nat} (h0 : d o ≠ 0) : ∀ k, wc_vk w o k d o = d o
  | 0 => rfl
  | k + 1 => by
    have ih := wc_vk_own (w := w) h0 k
    show wc_ed o (w k) (wc_vk w o k d) o = d o
    rw [wc_ed_own (by rw [ih]; exact h0), ih]
theorem wc_sE_set {o x t b : Nat} {d : Nat → Nat} (hb : b ≠ 0) (hn : ¬ wc_ok d t b) (ho : o ≠ t) (h : wc_sE o x d) : wc_sE o x (wc_set d t b) := by
  intro t' e' hE
  rw [wc_set_n ho]
  exact wc_set_ok hb hn (h t' e' hE)
/-- what holds inside the visit of o at round r: o is as early as r -/
def wc_Vv (w : Nat → Nat) (c r o k : Nat) (d : Nat → Nat) : Prop :=
  wc_Bd d ∧ d o ≠ 0 ∧ r ≤ wc_ct d (d o) 63 ∧ (∀ i, i < k → wc_sE o (w i) d) ∧ ∀ o', 2 ≤ o' → o' < 64 → o' ≠ o → d o' ≠ 0 → wc_sat w c o' d ∨ (o < o' ∧ r ≤ wc_ct d (d o') 63) ∨ r + 1 ≤ wc_ct d (d o') 63
theorem wc_Vv_step {w : Nat → Nat} {c r o k : Nat} {d : Nat → Nat} (hw : ∀ k, k < c → 2 ≤ w k ∧ w k < 128) (ho : 2 ≤ o) (ho2 : o < 64) (hk : k < c) (h : wc_Vv w c r o k d) : wc_Vv w c r o (k + 1) (wc_ed o (w k) d) := by
  obtain ⟨h1, h2, h3, h4, h5⟩ := h
  have same : wc_sE o (w k) d → wc_Vv w c r o (k + 1) d := by
    intro hs
    refine ⟨h1, h2, h3, ?_, h5⟩
    intro i hi
    rcases Nat.lt_or_ge i k with z | z
    · exact h4 i z
    · have e : i = k := by omega
      subst e
      exact hs
  rcases hE : wc_et o (w k) with _ | ⟨t, e⟩
  · rw [wc_ed_none hE]
    exact same (fun t e h => by rw [hE] at h; exact absurd h (by simp))
  · rw [wc_ed_some hE]
    by_cases g : wc_ok d t (d o + e)
    · rw [wc_rx_ok g]
      refine same (fun t' e' h => ?_)
      rw [hE] at h
      have h := Option.some.inj h
      have a1 : t = t' := congrArg Prod.fst h
      have a2 : e = e' := congrArg Prod.snd h
      subst a1 a2
      exact g
    · rw [wc_rx_no g]
      have hi := wc_et_in ho ho2 (hw k hk).1 (hw k hk).2 hE
      have hb : d o + e ≠ 0 := by omega
      have hto : o ≠ t := fun z => by
        subst z
        exact g ⟨h2, by omega⟩
      have hN := wc_set_new (y := d o) hb g (by omega) hi.2.1 (by omega)
      have hbd : d o + e ≤ 6 * wc_ct (wc_set d t (d o + e)) (d o + e) 63 := by
        have := h1 o (by omega) ho2
        omega
      refine ⟨wc_set_bd hb g hbd h1, by rw [wc_set_n hto]; exact h2, ?_, ?_, ?_⟩
      · rw [wc_set_n hto]
        exact Nat.le_trans h3 (wc_ct_mono (fun j hj => wc_set_ok hb g hj) 63)
      · intro i hi2
        rcases Nat.lt_or_ge i k with z | z
        · exact wc_sE_set hb g hto (h4 i z)
        · have e1 : i = k := by omega
          subst e1
          intro t' e' h
          rw [hE] at h
          have h := Option.some.inj h
          have a1 : t = t' := congrArg Prod.fst h
          have a2 : e = e' := congrArg Prod.snd h
          subst a1 a2
          rw [wc_set_n hto]
          unfold wc_ok
          rw [wc_set_s]
          exact ⟨hb, Nat.le_refl _⟩
      · intro o' q1 q2 q3 q4
        by_cases z : o' = t
        · subst z
          rw [wc_set_s]
          exact Or.inr (Or.inr (by omega))
        · rw [wc_set_n z] at q4 ⊢
          have m := wc_ct_mono (d := d) (d' := wc_set d t (d o + e)) (x := d o') (x' := d o') (fun j hj => wc_set_ok hb g hj) 63
          rcases h5 o' q1 q2 q3 q4 with y | y | y
          · exact Or.inl (fun i hi3 => wc_sE_set hb g z (y i hi3))
          · exact Or.inr (Or.inl ⟨y.1, by omega⟩)
          · exact Or.inr (Or.inr (by omega))
theorem wc_Vv_all {w : Nat → Nat} {c r o : Nat} {d : Nat → Nat} (hw : ∀ k, k < c → 2 ≤ w k ∧ w k < 128) (ho : 2 ≤ o) (ho2 : o < 64) (h : wc_Vv w c r o 0 d) : ∀ k, k ≤ c → wc_Vv w c r o k (wc_vk w o k d)
  | 0, _ => h
  | k + 1, hk => wc_Vv_step hw ho ho2 (by omega) (wc_Vv_all hw ho ho2 h k (by omega))
theorem wc_vk_sat {w : Nat → Nat} {c o : Nat} {d : Nat → Nat} (h : wc_sat w c o d) : ∀ k, k ≤ c → wc_vk w o k d = d
  | 0, _ => rfl
  | k + 1, hk => by
    show wc_ed o (w k) (wc_vk w o k d) = d
    rw [wc_vk_sat h k (by omega)]
    exact wc_ed_sat (h k (by omega))
theorem wc_vis_step {w : Nat → Nat} {c r o : Nat} {d : Nat → Nat} (hw : ∀ k, k < c → 2 ≤ w k ∧ w k < 128) (ho : 2 ≤ o) (ho2 : o < 64) (hb : wc_Bd d) (h : wc_Iv w c r o d) : wc_Bd (wc_vis w c o d) ∧ wc_Iv w c r (o + 1) (wc_vis w c o d) := by
  unfold wc_vis
  by_cases z : d o = 0
  · rw [if_pos z]
    refine ⟨hb, fun o' h1 h2 h3 => ?_⟩
    rcases h o' h1 h2 h3 with y | y | y
    · exact Or.inl y
    · refine Or.inr (Or.inl ⟨?_, y.2⟩)
      have : o' ≠ o := fun e => h3 (by rw [e]; exact z)
      omega
    · exact Or.inr (Or.inr y)
  · rw [if_neg z]
    by_cases s : wc_sat w c o d
    · rw [wc_vk_sat s c (Nat.le_refl c)]
      refine ⟨hb, fun o' h1 h2 h3 => ?_⟩
      by_cases e : o' = o
      · subst e
        exact Or.inl s
      · rcases h o' h1 h2 h3 with y | y | y
        · exact Or.inl y
        · exact Or.inr (Or.inl ⟨by omega, y.2⟩)
        · exact Or.inr (Or.inr y)
    · have hr : r ≤ wc_ct d (d o) 63 := by
        rcases h o ho ho2 z with y | y | y
        · exact absurd y s
        · exact y.2
        · omega
      have v0 : wc_Vv w c r o 0 d := by
        refine ⟨hb, z, hr, fun i hi => absurd hi (Nat.not_lt_zero i), ?_⟩
        intro o' h1 h2 h3 h4
        rcases h o' h1 h2 h4 with y | y | y
        · exact Or.inl y
        · exact Or.inr (Or.inl ⟨by omega, y.2⟩)
        · exact Or.inr (Or.inr y)
      obtain ⟨k1, k2, k3, k4, k5⟩ := wc_Vv_all hw ho ho2 v0 c (Nat.le_refl c)
      refine ⟨k1, fun o' h1 h2 h3 => ?_⟩
      by_cases e : o' = o
      · subst e
        exact Or.inl k4
      · rcases k5 o' h1 h2 e h3 with y | y | y
        · exact Or.inl y
        · exact Or.inr (Or.inl ⟨by omega, y.2⟩)
        · exact Or.inr (Or.inr y)
theorem wc_rd_step {w : Nat → Nat} {c r : Nat} {d : Nat → Nat} (hw : ∀ k, k < c → 2 ≤ w k ∧ w k < 128) (hb : wc_Bd d) (h : wc_Iv w c r 2 d) : ∀ m, m ≤ 62 → wc_Bd (wc_rd w c m d) ∧ wc_Iv w c r (m + 2) (wc_rd w c m d)
  | 0, _ => ⟨hb, h⟩
  | m + 1, hm => by
    have ih := wc_rd_step hw hb h m (by omega)
    exact wc_vis_step hw (by omega) (by omega) ih.1 ih.2
theorem wc_it_step {w : Nat → Nat} {c : Nat} {d : Nat → Nat} (hw : ∀ k, k < c → 2 ≤ w k ∧ w k < 128) (hb : wc_Bd d) : ∀ r, wc_Bd (wc_it w c r d) ∧ wc_Iv w c (r + 1) 2 (wc_it w c r d)
  | 0 => ⟨hb, fun o h1 h2 h3 => Or.inr (Or.inl ⟨h1, wc_ct_self h3 (by omega) h2⟩)⟩
  | r + 1 => by
    have ih := wc_it_step hw hb r
    have st := wc_rd_step hw ih.1 ih.2 62 (Nat.le_refl _)
    refine ⟨st.1, fun o h1 h2 h3 => ?_⟩
    rcases st.2 o h1 h2 h3 with y | y | y
    · exact Or.inl y
    · omega
    · exact Or.inr (Or.inl ⟨h1, y⟩)
theorem wc_it_sat {w : Nat → Nat} {c : Nat} {d : Nat → Nat} (hw : ∀ k, k < c → 2 ≤ w k ∧ w k < 128) (hb : wc_Bd d) : ∀ o, 2 ≤ o → o < 64 → wc_it w c 63 d o ≠ 0 → wc_sat w c o (wc_it w c 63 d) := by
  intro o h1 h2 h3
  have st := (wc_it_step hw hb 63).2
  generalize wc_it w c 63 d = D at h3 st ⊢
  have b := wc_ct_le (d := D) (x := D o) 63
  rcases st o h1 h2 h3 with y | y | y
  · exact y
  · omega
  · omega
theorem wc_vis_fix {w : Nat → Nat} {c o : Nat} {d : Nat → Nat} (h : d o ≠ 0 → wc_sat w c o d) : wc_vis w c o d = d := by
  unfold wc_vis
  by_cases z : d o = 0
  · rw [if_pos z]
  · rw [if_neg z]
    exact wc_vk_sat (h z) c (Nat.le_refl c)
theorem wc_rd_fix {w : Nat → Nat} {c : Nat} {d : Nat → Nat} (h : ∀ o, 2 ≤ o → o < 64 → d o ≠ 0 → wc_sat w c o d) : ∀ m, m ≤ 62 → wc_rd w c m d = d
  | 0, _ => rfl
  | m + 1, hm => by
    show wc_vis w c (m + 2) (wc_rd w c m d) = d
    rw [wc_rd_fix h m (by omega)]
    exact wc_vis_fix (h (m + 2) (by omega) (by omega))
theorem wc_it_fix {w : Nat → Nat} {c : Nat} {d : Nat → Nat} {r : Nat} (h : wc_it w c (r + 1) d = wc_it w c r d) : ∀ m, wc_it w c (r + m) d = wc_it w c r d
  | 0 => rfl
  | m + 1 => by
    show wc_rd w c 62 (wc_it w c (r + m) d) = wc_it w c r d
    rw [wc_it_fix h m]
    exact h
