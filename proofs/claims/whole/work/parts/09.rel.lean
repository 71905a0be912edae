/-! the relation, and the methods without tables -/
/-- the same words, rising; X keeps their sizes beside them; the same row; X keeps its length -/
def i_Rel (_ : Nat) (u : SX) (v : SY) : Prop := ∃ (c R : Nat) (w : Nat → Nat) (cd sz tn wy fw sq rd rh yw ya ye yh : Nat → Int32),
  u = (nI c, nI R, nI (Nat.log2 R), cd, sz, tn, wy, fw, sq, rd, rh) ∧ v = (nI c, nI R, yw, ya, ye, yh) ∧ wc_Set w c ∧ wc_XA w c cd sz ∧ wc_YA w c yw ∧ 0 < R ∧ R < 131072
theorem i_up {k : Nat} {u : SX} {v : SY} (h : i_Rel k u v) : i_Rel (k + 3) u v := h
theorem i_mk {k c R : Nat} {w : Nat → Nat} {cd sz tn wy fw sq rd rh yw ya ye yh : Nat → Int32} (hs : wc_Set w c) (hX : wc_XA w c cd sz) (hY : wc_YA w c yw) (h0 : 0 < R) (h1 : R < 131072) :
    i_Rel k (nI c, nI R, nI (Nat.log2 R), cd, sz, tn, wy, fw, sq, rd, rh) (nI c, nI R, yw, ya, ye, yh) :=
  ⟨c, R, w, cd, sz, tn, wy, fw, sq, rd, rh, yw, ya, ye, yh, rfl, rfl, hs, hX, hY, h0, h1⟩
theorem wn_l1 : nI (Nat.log2 1) = 0 := by decide +kernel
theorem wn_r16 {R : Nat} (h0 : 0 < R) (h1 : R < 131072) : Nat.log2 R ≤ 16 := by
  have := wc_lgu (k := 17) h0 h1
  omega
theorem wn_ge {x : Int32} {c : Nat} (hc : c < 2 ^ 31) (z : nI c ≤ x) : ¬ x < 0 ∧ ¬ x < nI c := ⟨Int32.not_lt.mpr (Int32.le_trans (nI_pos' hc) z), Int32.not_lt.mpr z⟩
theorem i_vc0 : wpX_init (fun u => wpY_init (fun v => i_Rel 0 u v)) := by
  have J : i_Rel 0 (nI 0, nI 1, nI (Nat.log2 1), (fun _ => 0), (fun _ => 0), (fun _ => 0), (fun _ => 0), (fun _ => 0), (fun _ => 0), (fun _ => 0), (fun _ => 0)) (nI 0, nI 1, (fun _ => 0), (fun _ => 0), (fun _ => 0), (fun _ => 0)) :=
    i_mk (w := fun _ => 0) ⟨by omega, fun i j _ h => absurd h (Nat.not_lt_zero j), fun k h => absurd h (Nat.not_lt_zero k)⟩ (fun k h => absurd h (Nat.not_lt_zero k)) (fun k h => absurd h (Nat.not_lt_zero k)) (by omega) (by omega)
  rw [wn_l1] at J
  exact J
theorem i_vc_word {k : Nat} {u : SX} {v : SY} (I : i_Rel k u v) (hk : k + 3 ≤ 1536) (v1 : Int32) : wpX_word (fun r => wpY_word (fun r' => r' = r ∧ i_Rel (k + 3) u v) v v1) u v1 := by
  obtain ⟨c, R, w, cd, sz, tn, wy, fw, sq, rd, rh, yw, ya, ye, yh, rfl, rfl, hs, hX, hY, h0, h1⟩ := I
  have J : i_Rel (k + 3) (nI c, nI R, nI (Nat.log2 R), cd, sz, tn, wy, fw, sq, rd, rh) (nI c, nI R, yw, ya, ye, yh) := i_mk hs hX hY h0 h1
  have h6 := hs.1
  unfold wpX_word wpX_hasWord wpY_word
  dsimp only
  rcases pk_ix v1 (n := c) (by omega) with z | z | ⟨j, hj, rfl⟩
  · exact br_t z (br_t rfl (br_t z ⟨rfl, J⟩))
  · have g := wn_ge (by omega) z
    exact br_f g.1 (br_t z (br_t rfl (br_f g.1 (br_f g.2 ⟨rfl, J⟩))))
  · have p : ¬ nI j < 0 := nI_pos (by omega)
    refine br_f p (br_f (nI_ge hj (by omega)) (br_f (by decide) ⟨vp_in_nI (by omega) (by decide), br_f p (br_t (nI_lt hj (by omega)) ⟨vp_in_nI (by omega) (by decide), ?_, J⟩)⟩))
    rw [xa_c hX h6 hj, ya_w hY h6 hj]
theorem i_vc_words {k : Nat} {u : SX} {v : SY} (I : i_Rel k u v) (hk : k + 3 ≤ 1536) : wpX_words (fun r => wpY_words (fun r' => r' = r ∧ i_Rel (k + 3) u v) v) u := by
  obtain ⟨c, R, w, cd, sz, tn, wy, fw, sq, rd, rh, yw, ya, ye, yh, rfl, rfl, hs, hX, hY, h0, h1⟩ := I
  exact ⟨rfl, i_mk hs hX hY h0 h1⟩
theorem i_vc_row {k : Nat} {u : SX} {v : SY} (I : i_Rel k u v) (hk : k + 3 ≤ 1536) : wpX_row (fun r => wpY_row (fun r' => r' = r ∧ i_Rel (k + 3) u v) v) u := by
  obtain ⟨c, R, w, cd, sz, tn, wy, fw, sq, rd, rh, yw, ya, ye, yh, rfl, rfl, hs, hX, hY, h0, h1⟩ := I
  exact ⟨rfl, i_mk hs hX hY h0 h1⟩
theorem i_vc_clear {k : Nat} {u : SX} {v : SY} (I : i_Rel k u v) (hk : k + 3 ≤ 1536) : wpX_clear (fun r u' => wpY_clear (fun r' v' => r' = r ∧ i_Rel (k + 3) u' v') v) u := by
  obtain ⟨c, R, w, cd, sz, tn, wy, fw, sq, rd, rh, yw, ya, ye, yh, rfl, rfl, hs, hX, hY, h0, h1⟩ := I
  have J : i_Rel (k + 3) (nI c, nI 1, nI (Nat.log2 1), cd, sz, tn, wy, fw, sq, rd, rh) (nI c, nI 1, yw, ya, ye, yh) := i_mk hs hX hY (by omega) (by omega)
  rw [wn_l1] at J
  unfold wpX_clear wpY_clear
  dsimp only
  exact ys_len R rfl (by omega) ⟨rfl, J⟩
theorem i_vc_bit {k : Nat} {u : SX} {v : SY} (I : i_Rel k u v) (hk : k + 3 ≤ 1536) (v1 : Int32) : wpX_bit (fun r u' => wpY_bit (fun r' v' => r' = r ∧ i_Rel (k + 3) u' v') v v1) u v1 := by
  obtain ⟨c, R, w, cd, sz, tn, wy, fw, sq, rd, rh, yw, ya, ye, yh, rfl, rfl, hs, hX, hY, h0, h1⟩ := I
  have J : i_Rel (k + 3) (nI c, nI R, nI (Nat.log2 R), cd, sz, tn, wy, fw, sq, rd, rh) (nI c, nI R, yw, ya, ye, yh) := i_mk hs hX hY h0 h1
  have h16 := wn_r16 h0 h1
  have key : ∀ b, b < 2 → wX_bit_11 (fun r u' => wpY_bit (fun r' v' => r' = r ∧ i_Rel (k + 3) u' v') (nI c, nI R, yw, ya, ye, yh) (nI b)) (nI b) (nI c) (nI R) (nI (Nat.log2 R)) cd sz tn wy fw sq rd rh := by
    intro b hb
    have e3 := wc_lgb h0 hb
    have e1 : 2 * nI R + nI b = nI (2 * R + b) := (congrArg (fun x => x + nI b) (pk_mul 2 R)).trans (nI_add _ _)
    have e2 : nI (Nat.log2 R) + 1 = nI (Nat.log2 (2 * R + b)) := by
      rw [e3]
      exact nI_1 _
    have p : ¬ nI b < 0 := nI_pos (by omega)
    have q : nI b ≤ 1 := nI_le (a := b) (b := 1) (by omega) (by decide)
    unfold wX_bit_11 wpY_bit
    dsimp only
    by_cases h : Nat.log2 R < 16
    · refine br_t (nI_lt (b := 16) h (by decide)) (nm_r e1 (nm_r e2 (br_f p (br_t q (ys_len R rfl (by omega) (br_f (fun z => ?_) (nm_r e1 ⟨e2, i_mk hs hX hY (by omega) ?_⟩)))))))
      · have := (nI_eq (a := Nat.log2 R) (b := 16) (by omega) (by decide)).mp z
        omega
      · have := (Nat.log2_lt (n := 2 * R + b) (k := 17) (by omega)).mp (by omega)
        omega
    · have e : Nat.log2 R = 16 := by omega
      refine br_f (nI_nlt (b := 16) (by omega) (by omega)) (br_f p (br_t q (ys_len R rfl (by omega) (br_t ?_ ⟨rfl, J⟩))))
      rw [e]
      rfl
  have Yb : ∀ post : Int32 → SY → Prop, ¬ v1 = 0 → ¬ v1 = 1 → post (-1) (nI c, nI R, yw, ya, ye, yh) → wpY_bit post (nI c, nI R, yw, ya, ye, yh) v1 := by
    intro post a b hp
    by_cases n : v1 < 0
    · exact br_t n hp
    · refine br_f n (br_f ?_ hp)
      obtain ⟨j, hj, rfl⟩ := nI_of n
      have a1 : j ≠ 0 := fun e => a (by rw [e]; exact nI_0)
      have b1 : j ≠ 1 := fun e => b (by rw [e]; rfl)
      exact nI_ge (a := 1) (by omega) hj
  by_cases z : v1 = 0
  · subst z
    exact br_t rfl (key 0 (by omega))
  · by_cases z1 : v1 = 1
    · subst z1
      exact br_f z (br_t rfl (key 1 (by omega)))
    · exact br_f z (br_f z1 (Yb _ z z1 ⟨rfl, J⟩))
theorem i_vc_append {k : Nat} {u : SX} {v : SY} (I : i_Rel k u v) (hk : k + 3 ≤ 1536) (v1 : Int32) : wpX_append (fun r u' => wpY_append (fun r' v' => r' = r ∧ i_Rel (k + 3) u' v') v v1) u v1 := by
  obtain ⟨c, R, w, cd, sz, tn, wy, fw, sq, rd, rh, yw, ya, ye, yh, rfl, rfl, hs, hX, hY, h0, h1⟩ := I
  have J : i_Rel (k + 3) (nI c, nI R, nI (Nat.log2 R), cd, sz, tn, wy, fw, sq, rd, rh) (nI c, nI R, yw, ya, ye, yh) := i_mk hs hX hY h0 h1
  have h6 := hs.1
  have h16 := wn_r16 h0 h1
  unfold wpX_append wpX_hasWord wpY_append
  dsimp only
  rcases pk_ix v1 (n := c) (by omega) with z | z | ⟨j, hj, rfl⟩
  · exact br_t z (br_t rfl (br_t z ⟨rfl, J⟩))
  · have g := wn_ge (by omega) z
    exact br_f g.1 (br_t z (br_t rfl (br_f g.1 (br_f g.2 ⟨rfl, J⟩))))
  · have p : ¬ nI j < 0 := nI_pos (by omega)
    have hi : vp_in (nI j) 6 := vp_in_nI (by omega) (by decide)
    have hi7 : vp_in (nI j) 7 := vp_in_nI (by omega) (by decide)
    have hw := hs.2.2 j hj
    have hm := wc_lg7 hw.1 hw.2
    have hge := wc_lge (a := w j) (by omega)
    have hL := wc_lga h0 hw.1
    rw [xa_c hX h6 hj, xa_s hX h6 hj, ya_w hY h6 hj]
    refine br_f p (br_f (nI_ge hj (by omega)) (br_f (by decide) ⟨hi, ?_⟩))
    rw [nI_add]
    by_cases h : Nat.log2 R + Nat.log2 (w j) ≤ 16
    · have hb : R * 2 ^ Nat.log2 (w j) + (w j - 2 ^ Nat.log2 (w j)) < 2 ^ 17 := (Nat.log2_lt (by have := Nat.mul_pos h0 (Nat.two_pow_pos (Nat.log2 (w j))); omega)).mp (by omega)
      have e17 : 2 ^ 17 = 131072 := by decide
      have e1 : nI R <<< (nI (Nat.log2 (w j)) &&& 31) = nI (R * 2 ^ Nat.log2 (w j)) := wc_shl (by omega) (by omega)
      have e2 : nI (w j) - (1 : Int32) <<< (nI (Nat.log2 (w j)) &&& 31) = nI (w j - 2 ^ Nat.log2 (w j)) := by
        rw [wc_mk (by omega), pk_sub hge]
      have e3 : nI R <<< (nI (Nat.log2 (w j)) &&& 31) + nI (w j - 2 ^ Nat.log2 (w j)) = nI (R * 2 ^ Nat.log2 (w j) + (w j - 2 ^ Nat.log2 (w j))) := by
        rw [e1, nI_add]
      have e4 : nI R <<< (nI (Nat.log2 (w j)) &&& 31) + nI (w j) - (1 : Int32) <<< (nI (Nat.log2 (w j)) &&& 31) = nI (R * 2 ^ Nat.log2 (w j) + (w j - 2 ^ Nat.log2 (w j))) := by
        rw [e1, wc_mk (by omega), nI_add, pk_sub (by omega)]
        exact congrArg nI (by omega)
      have K : i_Rel (k + 3) (nI c, nI (R * 2 ^ Nat.log2 (w j) + (w j - 2 ^ Nat.log2 (w j))), nI (Nat.log2 R + Nat.log2 (w j)), cd, sz, tn, wy, fw, sq, rd, rh) (nI c, nI (R * 2 ^ Nat.log2 (w j) + (w j - 2 ^ Nat.log2 (w j))), yw, ya, ye, yh) := by
        rw [← hL]
        exact i_mk hs hX hY (by have := Nat.mul_pos h0 (Nat.two_pow_pos (Nat.log2 (w j))); omega) (by omega)
      have le16 : nI (Nat.log2 R + Nat.log2 (w j)) ≤ 16 := nI_le (b := 16) h (by decide)
      exact br_t le16 ⟨hi, hi, nm_r e2 ⟨hi, nm_r e3 ⟨hi, nm_e (br_f p (br_t (nI_lt hj (by omega)) ⟨hi7, ys_len (w j) rfl (by omega) (ys_len R rfl (by omega) (nm_r (nI_add _ _) (br_t le16 ⟨hi7, nm_r e4 ⟨rfl, K⟩⟩)))⟩))⟩⟩⟩
    · have gt16 : ¬ nI (Nat.log2 R + Nat.log2 (w j)) ≤ 16 := nI_ge (a := 16) (by omega) (by omega)
      exact br_f gt16 (br_f p (br_t (nI_lt hj (by omega)) ⟨hi7, ys_len (w j) rfl (by omega) (ys_len R rfl (by omega) (nm_r (nI_add _ _) (br_f gt16 ⟨rfl, J⟩)))⟩))
