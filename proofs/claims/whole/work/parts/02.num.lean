/-! numbers: lengths, shifts, marks -/
theorem wc_or (a b : Nat) : nI a ||| nI b = nI (a ||| b) := by
  apply Int32.toBitVec_inj.1
  show BitVec.ofNat 32 a ||| BitVec.ofNat 32 b = BitVec.ofNat 32 (a ||| b)
  apply BitVec.eq_of_getLsbD_eq
  intro i hi
  simp [hi]
theorem wc_shr {n k : Nat} (hn : n < 2 ^ 31) (hk : k < 32) : nI n >>> (nI k &&& 31) = nI (n / 2 ^ k) := pk_shrN hn _ k (s_l k hk)
theorem wc_shl {n k : Nat} (hk : k < 32) (h : n * 2 ^ k < 2 ^ 32) : nI n <<< (nI k &&& 31) = nI (n * 2 ^ k) := pk_shlN _ k (s_l k hk) h
theorem wc_p2 {k m : Nat} (h : k ≤ m) : 2 ^ k ≤ 2 ^ m := Nat.pow_le_pow_right (by decide) h
theorem wc_pl {k m : Nat} (h : k < m) : 2 ^ k < 2 ^ m := Nat.pow_lt_pow_right (by decide) h
theorem wc_mk {k : Nat} (hk : k < 32) : (1 : Int32) <<< (nI k &&& 31) = nI (2 ^ k) := by
  have h := wc_shl (n := 1) hk (by rw [Nat.one_mul]; exact wc_pl hk)
  rw [Nat.one_mul] at h
  exact h
theorem wc_mm (k : Nat) : nI (2 ^ k) - 1 = nI (2 ^ k - 1) := pk_sub (b := 1) (Nat.two_pow_pos k)
theorem wc_low {n k : Nat} : nI n &&& nI (2 ^ k - 1) = nI (n % 2 ^ k) := by
  rw [nx_and, Nat.and_two_pow_sub_one_eq_mod]
theorem wc_mark {n k : Nat} : nI (2 ^ k) ||| nI (n % 2 ^ k) = nI (2 ^ k + n % 2 ^ k) := by
  have h := Nat.two_pow_add_eq_or_of_lt (Nat.mod_lt n (Nat.two_pow_pos k)) 1
  rw [Nat.mul_one] at h
  rw [wc_or, ← h]
theorem wc_lg1 {n : Nat} (h : 2 ≤ n) : 1 ≤ Nat.log2 n := (Nat.le_log2 (by omega)).mpr h
theorem wc_lgh {n : Nat} (h : 2 ≤ n) : Nat.log2 n = Nat.log2 (n / 2) + 1 := by rw [Nat.log2_def, if_pos h]
theorem wc_lg0 {n : Nat} (h : n < 2) : Nat.log2 n = 0 := by rw [Nat.log2_def, if_neg (by omega)]
theorem wc_lgu {n k : Nat} (h0 : 0 < n) (h : n < 2 ^ k) : Nat.log2 n < k := (Nat.log2_lt (by omega)).mpr h
theorem wc_lgm {a b : Nat} (h0 : 0 < a) (h : a ≤ b) : Nat.log2 a ≤ Nat.log2 b := (Nat.le_log2 (by omega)).mpr (Nat.le_trans (Nat.log2_self_le (by omega)) h)
theorem wc_lge {a : Nat} (h0 : 0 < a) : 2 ^ Nat.log2 a ≤ a := Nat.log2_self_le (by omega)
theorem wc_lgs (a : Nat) : a < 2 * 2 ^ Nat.log2 a := by
  have h := @Nat.lt_log2_self a
  rw [Nat.pow_succ] at h
  omega
theorem wc_lgq {a k : Nat} (h0 : 2 ^ k ≤ a) (h1 : a < 2 * 2 ^ k) : Nat.log2 a = k := by
  have hp := Nat.two_pow_pos k
  exact (Nat.log2_eq_iff (by omega)).mpr ⟨h0, by rw [Nat.pow_succ]; omega⟩
theorem wc_lg7 {a : Nat} (h0 : 2 ≤ a) (h : a < 128) : 1 ≤ Nat.log2 a ∧ Nat.log2 a ≤ 6 := by
  have h1 := wc_lg1 h0
  have h2 := wc_lgu (n := a) (k := 7) (by omega) h
  omega
/-! shifting behind a word: the row's code and its length -/
theorem wc_lga {r w : Nat} (hr : 0 < r) (hw : 2 ≤ w) : Nat.log2 (r * 2 ^ Nat.log2 w + (w - 2 ^ Nat.log2 w)) = Nat.log2 r + Nat.log2 w := by
  have a := wc_lge hr
  have b := wc_lgs r
  have c := wc_lge (a := w) (by omega)
  have d := wc_lgs w
  have hp := Nat.two_pow_pos (Nat.log2 w)
  apply wc_lgq
  · rw [Nat.pow_add]
    have := Nat.mul_le_mul_right (2 ^ Nat.log2 w) a
    omega
  · rw [Nat.pow_add]
    have e : (r + 1) * 2 ^ Nat.log2 w ≤ 2 * 2 ^ Nat.log2 r * 2 ^ Nat.log2 w := Nat.mul_le_mul_right _ b
    rw [Nat.add_mul, Nat.one_mul, Nat.mul_assoc] at e
    omega
theorem wc_lgb {r b : Nat} (hr : 0 < r) (hb : b < 2) : Nat.log2 (2 * r + b) = Nat.log2 r + 1 := by
  rw [wc_lgh (by omega)]
  have : (2 * r + b) / 2 = r := by omega
  rw [this]
