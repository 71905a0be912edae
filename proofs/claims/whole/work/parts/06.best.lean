/-! the least: Y keeps it while it goes, X takes it at the end; the start; turned words -/
def wc_Le (d' d : Nat → Nat) : Prop := ∀ j x, wc_ok d j x → wc_ok d' j x
theorem wc_le_refl (d : Nat → Nat) : wc_Le d d := fun _ _ h => h
theorem wc_le_trans {a b c : Nat → Nat} (h : wc_Le a b) (g : wc_Le b c) : wc_Le a c := fun j x z => h j x (g j x z)
theorem wc_rx_le {d : Nat → Nat} {t b : Nat} (hb : b ≠ 0) : wc_Le (wc_rx d t b) d := by
  by_cases g : wc_ok d t b
  · rw [wc_rx_ok g]
    exact wc_le_refl d
  · rw [wc_rx_no g]
    exact fun j x h => wc_set_ok hb g h
theorem wc_ed_le {o x : Nat} {d : Nat → Nat} (h0 : d o ≠ 0) : wc_Le (wc_ed o x d) d := by
  rcases hE : wc_et o x with _ | ⟨t, e⟩
  · rw [wc_ed_none hE]
    exact wc_le_refl d
  · rw [wc_ed_some hE]
    exact wc_rx_le (by omega)
theorem wc_vk_le {w : Nat → Nat} {o : Nat} {d : Nat → Nat} (h0 : d o ≠ 0) : ∀ k, wc_Le (wc_vk w o k d) d
  | 0 => wc_le_refl d
  | k + 1 => wc_le_trans (wc_ed_le (by rw [wc_vk_own h0 k]; exact h0)) (wc_vk_le h0 k)
theorem wc_vis_le {w : Nat → Nat} {c o : Nat} {d : Nat → Nat} : wc_Le (wc_vis w c o d) d := by
  unfold wc_vis
  by_cases z : d o = 0
  · rw [if_pos z]
    exact wc_le_refl d
  · rw [if_neg z]
    exact wc_vk_le z c
def wc_bk (w : Nat → Nat) (o : Nat) (d : Nat → Nat) (b : Nat) : Nat → Nat
  | 0 => b
  | k + 1 => if w k = o ∧ d o < wc_bk w o d b k then d o else wc_bk w o d b k
theorem wc_bk_s {w : Nat → Nat} {o b k : Nat} {d : Nat → Nat} : wc_bk w o d b (k + 1) = if w k = o ∧ d o < wc_bk w o d b k then d o else wc_bk w o d b k := rfl
def wc_bv (w : Nat → Nat) (c o : Nat) (d : Nat → Nat) (b : Nat) : Nat := if d o = 0 then b else wc_bk w o d b c
def wc_br (w : Nat → Nat) (c : Nat) (d : Nat → Nat) (b : Nat) : Nat → Nat
  | 0 => b
  | m + 1 => wc_bv w c (m + 2) (wc_rd w c m d) (wc_br w c d b m)
def wc_bi (w : Nat → Nat) (c : Nat) (d : Nat → Nat) : Nat → Nat
  | 0 => 999
  | r + 1 => wc_br w c (wc_it w c r d) (wc_bi w c d r) 62
def wc_B1 (w : Nat → Nat) (c b : Nat) (d : Nat → Nat) : Prop := b = 999 ∨ ∃ k, k < c ∧ w k < 64 ∧ wc_ok d (w k) b
theorem wc_B1_le {w : Nat → Nat} {c b : Nat} {d d' : Nat → Nat} (h : wc_B1 w c b d) (g : wc_Le d' d) : wc_B1 w c b d' := by
  rcases h with h | ⟨k, h1, h2, h3⟩
  · exact Or.inl h
  · exact Or.inr ⟨k, h1, h2, g _ _ h3⟩
theorem wc_bk_le {w : Nat → Nat} {o b : Nat} {d : Nat → Nat} : ∀ k, wc_bk w o d b k ≤ b
  | 0 => Nat.le_refl b
  | k + 1 => by
    have ih := wc_bk_le (w := w) (o := o) (b := b) (d := d) k
    rw [wc_bk_s]
    split
    · omega
    · exact ih
theorem wc_bk_B1 {w : Nat → Nat} {c o b : Nat} {d : Nat → Nat} (ho : o < 64) (h0 : d o ≠ 0) (h : wc_B1 w c b d) : ∀ k, k ≤ c → wc_B1 w c (wc_bk w o d b k) d
  | 0, _ => h
  | k + 1, hk => by
    have ih := wc_bk_B1 ho h0 h k (by omega)
    rw [wc_bk_s]
    split
    · rename_i g
      refine Or.inr ⟨k, by omega, by rw [g.1]; exact ho, ?_⟩
      rw [g.1]
      exact ⟨h0, Nat.le_refl _⟩
    · exact ih
theorem wc_bk_B2 {w : Nat → Nat} {o b : Nat} {d : Nat → Nat} : ∀ k i, i < k → w i = o → wc_bk w o d b k ≤ d o
  | 0, i, hi, _ => by omega
  | k + 1, i, hi, e => by
    rw [wc_bk_s]
    rcases Nat.lt_or_ge i k with z | z
    · have ih := wc_bk_B2 (b := b) (d := d) k i z e
      split
      · exact Nat.le_refl _
      · exact ih
    · have e2 : i = k := by omega
      subst e2
      split
      · exact Nat.le_refl _
      · rename_i g
        have : ¬ d o < wc_bk w o d b i := fun y => g ⟨e, y⟩
        omega
theorem wc_bv_le {w : Nat → Nat} {c o b : Nat} {d : Nat → Nat} : wc_bv w c o d b ≤ b := by
  unfold wc_bv
  split
  · exact Nat.le_refl b
  · exact wc_bk_le c
theorem wc_bv_B1 {w : Nat → Nat} {c o b : Nat} {d : Nat → Nat} (ho : o < 64) (h : wc_B1 w c b d) : wc_B1 w c (wc_bv w c o d b) d := by
  unfold wc_bv
  split
  · exact h
  · rename_i z
    exact wc_bk_B1 ho z h c (Nat.le_refl c)
theorem wc_br_le {w : Nat → Nat} {c b : Nat} {d : Nat → Nat} : ∀ m, wc_br w c d b m ≤ b
  | 0 => Nat.le_refl b
  | m + 1 => Nat.le_trans wc_bv_le (wc_br_le m)
theorem wc_br_B1 {w : Nat → Nat} {c b : Nat} {d : Nat → Nat} (h : wc_B1 w c b d) : ∀ m, m ≤ 62 → wc_B1 w c (wc_br w c d b m) (wc_rd w c m d)
  | 0, _ => h
  | m + 1, hm => wc_B1_le (wc_bv_B1 (by omega) (wc_br_B1 h m (by omega))) wc_vis_le
theorem wc_bi_B1 {w : Nat → Nat} {c : Nat} {d : Nat → Nat} : ∀ r, wc_B1 w c (wc_bi w c d r) (wc_it w c r d) ∧ wc_bi w c d r ≤ 999
  | 0 => ⟨Or.inl rfl, Nat.le_refl _⟩
  | r + 1 => by
    have ih := wc_bi_B1 (w := w) (c := c) (d := d) r
    exact ⟨wc_br_B1 ih.1 62 (Nat.le_refl _), Nat.le_trans (wc_br_le 62) ih.2⟩
theorem wc_br_B2 {w : Nat → Nat} {c b : Nat} {d : Nat → Nat} (h : ∀ o, 2 ≤ o → o < 64 → d o ≠ 0 → wc_sat w c o d) : ∀ m, m ≤ 62 → ∀ i, i < c → 2 ≤ w i → w i < m + 2 → d (w i) ≠ 0 → wc_br w c d b m ≤ d (w i)
  | 0, _, i, _, h1, h2, _ => by omega
  | m + 1, hm, i, hi, h1, h2, h3 => by
    show wc_bv w c (m + 2) (wc_rd w c m d) (wc_br w c d b m) ≤ d (w i)
    rw [wc_rd_fix h m (by omega)]
    rcases Nat.lt_or_ge (w i) (m + 2) with z | z
    · exact Nat.le_trans wc_bv_le (wc_br_B2 h m (by omega) i hi h1 z h3)
    · have e : w i = m + 2 := by omega
      rw [e] at h3 ⊢
      unfold wc_bv
      rw [if_neg h3]
      exact wc_bk_B2 c i hi e
def wc_rv (w d : Nat → Nat) (k : Nat) : Nat := if w k < 64 then d (w k) else 0
def wc_xl (w d : Nat → Nat) : Nat → Nat
  | 0 => 999
  | k + 1 => if wc_rv w d k ≠ 0 ∧ wc_rv w d k < wc_xl w d k then wc_rv w d k else wc_xl w d k
theorem wc_xl_s {w d : Nat → Nat} {k : Nat} : wc_xl w d (k + 1) = if wc_rv w d k ≠ 0 ∧ wc_rv w d k < wc_xl w d k then wc_rv w d k else wc_xl w d k := rfl
theorem wc_xl_ex {w d : Nat → Nat} : ∀ k, wc_xl w d k ≤ 999 ∧ (wc_xl w d k = 999 ∨ ∃ i, i < k ∧ w i < 64 ∧ d (w i) ≠ 0 ∧ wc_xl w d k = d (w i))
  | 0 => ⟨Nat.le_refl _, Or.inl rfl⟩
  | k + 1 => by
    have ih := wc_xl_ex (w := w) (d := d) k
    have ih1 := ih.1
    rw [wc_xl_s]
    split
    · rename_i g
      refine ⟨by omega, Or.inr ⟨k, by omega, ?_⟩⟩
      have g1 := g.1
      unfold wc_rv at g1 ⊢
      split at g1
      · rename_i z
        exact ⟨z, g1, by rw [if_pos z]⟩
      · exact absurd rfl g1
    · refine ⟨ih.1, ?_⟩
      rcases ih.2 with y | ⟨i, h1, h2⟩
      · exact Or.inl y
      · exact Or.inr ⟨i, by omega, h2⟩
theorem wc_xl_le {w d : Nat → Nat} : ∀ k i, i < k → w i < 64 → d (w i) ≠ 0 → wc_xl w d k ≤ d (w i)
  | 0, i, hi, _, _ => by omega
  | k + 1, i, hi, h1, h2 => by
    rw [wc_xl_s]
    rcases Nat.lt_or_ge i k with z | z
    · have ih := wc_xl_le k i z h1 h2
      split <;> omega
    · have e : i = k := by omega
      subst e
      have hv : wc_rv w d i = d (w i) := if_pos h1
      rw [hv]
      split <;> omega
theorem wc_least {w : Nat → Nat} {c : Nat} {d : Nat → Nat} (hw : ∀ k, k < c → 2 ≤ w k ∧ w k < 128) (hb : wc_Bd d) : wc_bi w c d 64 = wc_xl w (wc_it w c 64 d) c := by
  have sat := wc_it_sat hw hb
  have fx : wc_it w c 64 d = wc_it w c 63 d := (wc_it_s (r := 63)).trans (wc_rd_fix sat 62 (Nat.le_refl _))
  have hbi : wc_bi w c d 64 = wc_br w c (wc_it w c 63 d) (wc_bi w c d 63) 62 := rfl
  have b1 := wc_bi_B1 (w := w) (c := c) (d := d) 64
  rw [fx] at b1 ⊢
  have x1 := wc_xl_ex (w := w) (d := wc_it w c 63 d) c
  apply Nat.le_antisymm
  · rcases x1.2 with y | ⟨i, h1, h2, h3, h4⟩
    · rw [y]
      exact b1.2
    · rw [h4, hbi]
      exact wc_br_B2 sat 62 (Nat.le_refl _) i h1 (hw i h1).1 h2 h3
  · rcases b1.1 with y | ⟨k, h1, h2, h3⟩
    · rw [y]
      exact x1.1
    · exact Nat.le_trans (wc_xl_le c k h1 h2 h3.1) h3.2
/-! the start: one word begins another -/
def wc_s0 (w : Nat → Nat) (i : Nat) (d : Nat → Nat) : Nat → (Nat → Nat)
  | 0 => d
  | j + 1 => if wc_bg (w i) (w j) = true then wc_rx (wc_s0 w i d j) (wc_rs (w i) (w j)) (Nat.log2 (w j)) else wc_s0 w i d j
def wc_s1 (w : Nat → Nat) (c : Nat) : Nat → (Nat → Nat)
  | 0 => fun _ => 0
  | i + 1 => wc_s0 w i (wc_s1 w c i) c
theorem wc_s0_s {w : Nat → Nat} {i j : Nat} {d : Nat → Nat} : wc_s0 w i d (j + 1) = if wc_bg (w i) (w j) = true then wc_rx (wc_s0 w i d j) (wc_rs (w i) (w j)) (Nat.log2 (w j)) else wc_s0 w i d j := rfl
theorem wc_rx_bd {d : Nat → Nat} {t b : Nat} (h : wc_Bd d) (h1 : 1 ≤ t) (h2 : t < 64) (hb : b ≠ 0) (hb6 : b ≤ 6) : wc_Bd (wc_rx d t b) := by
  by_cases g : wc_ok d t b
  · rw [wc_rx_ok g]
    exact h
  · rw [wc_rx_no g]
    refine wc_set_bd hb g ?_ h
    have := wc_set_new (y := 0) hb g h1 h2 (by omega)
    omega
theorem wc_s0_bd {w : Nat → Nat} {c i : Nat} {d : Nat → Nat} (hw : ∀ k, k < c → 2 ≤ w k ∧ w k < 128) (hi : i < c) (h : wc_Bd d) : ∀ j, j ≤ c → wc_Bd (wc_s0 w i d j)
  | 0, _ => h
  | j + 1, hj => by
    have ih := wc_s0_bd hw hi h j (by omega)
    rw [wc_s0_s]
    split
    · rename_i g
      have a := wc_rs_in (hw i hi).1 (hw j (by omega)).1 (hw j (by omega)).2 (wc_bg_lt g)
      have b := wc_lg7 (hw j (by omega)).1 (hw j (by omega)).2
      exact wc_rx_bd ih (by omega) a.2.1 (by omega) b.2
    · exact ih
theorem wc_s1_bd {w : Nat → Nat} {c : Nat} (hw : ∀ k, k < c → 2 ≤ w k ∧ w k < 128) : ∀ i, i ≤ c → wc_Bd (wc_s1 w c i)
  | 0, _ => fun _ _ _ => Nat.zero_le _
  | i + 1, hi => wc_s0_bd hw (by omega) (wc_s1_bd hw i (by omega)) c (Nat.le_refl c)
/-! turned words -/
def wc_tq (x : Nat) : Nat → Nat
  | 0 => 1
  | p + 1 => 2 * wc_tq x p + x / 2 ^ p % 2
def wc_tu (x : Nat) : Nat := wc_tq x (Nat.log2 x)
theorem wc_tu_tab : ∀ x, x < 128 → 2 ≤ x → 2 ≤ wc_tu x ∧ wc_tu x < 128 ∧ wc_tu (wc_tu x) = x := by decide +kernel
theorem wc_tu_inj {w : Nat → Nat} {c : Nat} (hw : ∀ k, k < c → 2 ≤ w k ∧ w k < 128) (h : wc_Inj w c) : wc_Inj (fun k => wc_tu (w k)) c := by
  intro i j hi hj e
  have a := (wc_tu_tab (w i) (hw i hi).2 (hw i hi).1).2.2
  have b := (wc_tu_tab (w j) (hw j hj).2 (hw j hj).1).2.2
  have e : wc_tu (w i) = wc_tu (w j) := e
  rw [e, b] at a
  exact h i j hi hj a.symm
