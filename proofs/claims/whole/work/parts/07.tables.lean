/-! tables filled from the end, or from the start -/
def wc_tb (H : (Nat → Nat) → Nat → Nat) (z n : Nat) : Nat → (Nat → Nat)
  | 0 => fun _ => z
  | d + 1 => wc_set (wc_tb H z n d) (n - 1 - d) (H (wc_tb H z n d) (n - 1 - d))
theorem wc_tb_s {H : (Nat → Nat) → Nat → Nat} {z n d : Nat} : wc_tb H z n (d + 1) = wc_set (wc_tb H z n d) (n - 1 - d) (H (wc_tb H z n d) (n - 1 - d)) := rfl
theorem wc_tb_stab {H : (Nat → Nat) → Nat → Nat} {z n : Nat} {d j : Nat} (hj : n - d ≤ j) : ∀ e, d + e ≤ n → wc_tb H z n (d + e) j = wc_tb H z n d j
  | 0, _ => rfl
  | e + 1, he => by
    rw [show d + (e + 1) = (d + e) + 1 from rfl, wc_tb_s, wc_set_n (by omega)]
    exact wc_tb_stab hj e (by omega)
theorem wc_tb_all {H : (Nat → Nat) → Nat → Nat} {z n : Nat} {d j : Nat} (hj : n - d ≤ j) (hd : d ≤ n) : wc_tb H z n n j = wc_tb H z n d j := by
  have h := wc_tb_stab (H := H) (z := z) hj (n - d) (by omega)
  rw [show d + (n - d) = n by omega] at h
  exact h
theorem wc_tb_fix {H : (Nat → Nat) → Nat → Nat} {z n : Nat} (hH : ∀ F F' p, p < n → (∀ j, p < j → j ≤ n → F j = F' j) → H F p = H F' p) : wc_tb H z n n n = z ∧ ∀ p, p < n → wc_tb H z n n p = H (wc_tb H z n n) p := by
  refine ⟨?_, fun p hp => ?_⟩
  · rw [wc_tb_all (H := H) (z := z) (n := n) (d := 0) (j := n) (by omega) (by omega)]
    rfl
  · rw [wc_tb_all (H := H) (z := z) (n := n) (d := n - 1 - p + 1) (j := p) (by omega) (by omega), wc_tb_s, show n - 1 - (n - 1 - p) = p by omega, wc_set_s]
    exact hH _ _ p hp (fun j h1 h2 => (wc_tb_all (by omega) (by omega)).symm)
def wc_HW (w : Nat → Nat) (c code n : Nat) (F : Nat → Nat) (p : Nat) : Nat := wc_sum (wc_thr w code n F 0 p) c
def wc_HG (w : Nat → Nat) (c code n : Nat) (F : Nat → Nat) (p : Nat) : Nat := wc_mn (wc_thr w code n F 99 p) c
theorem wc_thr_congr {w : Nat → Nat} {c code n : Nat} (hs : wc_Set w c) {F F' : Nat → Nat} {p z : Nat} (h : ∀ j, p < j → j ≤ n → F j = F' j) : ∀ k, k < c → wc_thr w code n F z p k = wc_thr w code n F' z p k := by
  intro k hk
  by_cases hst : wc_st code n p (w k) = true
  · rw [wc_thr_t hst, wc_thr_t hst]
    have h1 := wc_lg1 (hs.2.2 k hk).1
    have h2 := wc_st_le hst
    exact h _ (by omega) (by omega)
  · rw [wc_thr_f hst, wc_thr_f hst]
/-- the table of readings -/
def wc_wf (w : Nat → Nat) (c code n : Nat) : Nat → (Nat → Nat) := wc_tb (wc_HW w c code n) 1 n
/-- the table of fewest words -/
def wc_gf (w : Nat → Nat) (c code n : Nat) : Nat → (Nat → Nat) := wc_tb (wc_HG w c code n) 0 n
theorem wc_wf_s {w : Nat → Nat} {c code n d : Nat} : wc_wf w c code n (d + 1) = wc_set (wc_wf w c code n d) (n - 1 - d) (wc_sum (wc_thr w code n (wc_wf w c code n d) 0 (n - 1 - d)) c) := rfl
theorem wc_gf_s {w : Nat → Nat} {c code n d : Nat} : wc_gf w c code n (d + 1) = wc_set (wc_gf w c code n d) (n - 1 - d) (wc_mn (wc_thr w code n (wc_gf w c code n d) 99 (n - 1 - d)) c) := rfl
theorem wc_wf_W {w : Nat → Nat} {c code n : Nat} (hs : wc_Set w c) : wc_W w c code n (wc_wf w c code n n) :=
  wc_tb_fix (fun _ _ _ _ h => wc_sum_congr (wc_thr_congr hs h))
theorem wc_gf_G {w : Nat → Nat} {c code n : Nat} (hs : wc_Set w c) : wc_G w c code n (wc_gf w c code n n) :=
  wc_tb_fix (fun _ _ _ _ h => wc_mn_congr (wc_thr_congr hs h))
/-- while the tables are filled: what stands from p on -/
theorem wc_wf_d {w : Nat → Nat} {c code n d j : Nat} (hj : n - d ≤ j) (hd : d ≤ n) : wc_wf w c code n d j = wc_wf w c code n n j := (wc_tb_all hj hd).symm
theorem wc_gf_d {w : Nat → Nat} {c code n d j : Nat} (hj : n - d ≤ j) (hd : d ≤ n) : wc_gf w c code n d j = wc_gf w c code n n j := (wc_tb_all hj hd).symm
/-! sequences of words by their bits -/
def wc_tt (w F : Nat → Nat) (b k : Nat) : Nat := if Nat.log2 (w k) ≤ b then F (b - Nat.log2 (w k)) else 0
def wc_tf (w : Nat → Nat) (c : Nat) : Nat → (Nat → Nat)
  | 0 => fun _ => 1
  | b + 1 => wc_set (wc_tf w c b) (b + 1) (wc_sum (wc_tt w (wc_tf w c b) (b + 1)) c)
