section
/-! rows of the kit, pasted -/
theorem pk_us {f : Nat → Int32} {k : Nat} {x : Int32} : upd f k x k = x := if_pos rfl
theorem pk_un {f : Nat → Int32} {k j : Nat} {x : Int32} (h : j ≠ k) : upd f k x j = f j := if_neg h
theorem pk_sub {a b : Nat} (h : b ≤ a) : nI a - nI b = nI (a - b) := by
  obtain ⟨c, rfl⟩ : ∃ c, a = c + b := ⟨a - b, by omega⟩
  rw [← nI_add, Int32.add_sub_cancel, Nat.add_sub_cancel]
theorem pk_sub_toInt {a b : Nat} (ha : a < 2 ^ 30) (hb : b < 2 ^ 30) : (nI a - nI b).toInt = (a : Int) - b := by
  rw [Int32.toInt_sub, nI_toInt (by omega), nI_toInt (by omega)]
  exact Int.bmod_eq_of_le (by omega) (by omega)
theorem pk_m1 (n : Nat) : nI (n + 1) + (-1) = nI n := by
  rw [← nI_1, Int32.add_assoc, show (1 : Int32) + (-1) = 0 from rfl, Int32.add_zero]
theorem pk_mul (a b : Nat) : nI a * nI b = nI (a * b) := (Int32.ofNat_mul a b).symm
theorem pk_div {a d : Nat} (ha : a < 2 ^ 31) (h0 : 0 < d) (hd : d < 2 ^ 31) : nI a / nI d = nI (a / d) := by
  apply Int32.toInt_inj.mp
  rw [lg_idiv_nonneg (by rw [nI_toInt ha]; omega) (by rw [nI_toInt hd]; omega), nI_toInt ha, nI_toInt hd, nI_toInt (Nat.lt_of_le_of_lt (Nat.div_le_self a d) ha)]
  first | rfl | exact (Int.natCast_ediv _ _).symm
theorem pk_rem {a d : Nat} (ha : a < 2 ^ 31) (h0 : 0 < d) (hd : d < 2 ^ 31) : nI a - nI a / nI d * nI d = nI (a % d) := by
  rw [pk_div ha h0 hd, pk_mul, pk_sub (Nat.div_mul_le_self a d)]
  exact congrArg nI (by have := Nat.div_add_mod' a d; omega)
theorem pk_ix (x : Int32) {n : Nat} (hn : n < 2 ^ 31) : x < 0 ∨ nI n ≤ x ∨ ∃ j : Nat, j < n ∧ x = nI j := by
  by_cases h : x < 0
  · exact Or.inl h
  · obtain ⟨j, hj, rfl⟩ := nI_of h
    by_cases h2 : j < n
    · exact Or.inr (Or.inr ⟨j, h2, rfl⟩)
    · exact Or.inr (Or.inl (nI_le (by omega) hj))
theorem pk_le {x y : Int32} {A B : Prop} (a b : Nat) (f : a ≤ b → A) (g : b < a → B) (hx : x = nI a := by rfl) (hy : y = nI b := by rfl) (ha : a < 2 ^ 31 := by omega) (hb : b < 2 ^ 31 := by omega) : (x ≤ y → A) ∧ (¬ x ≤ y → B) := by
  subst hx hy
  rw [nI_leI ha hb]
  exact ⟨f, fun z => g (by omega)⟩
theorem pk_lt {x y : Int32} {A B : Prop} (a b : Nat) (f : a < b → A) (g : b ≤ a → B) (hx : x = nI a := by rfl) (hy : y = nI b := by rfl) (ha : a < 2 ^ 31 := by omega) (hb : b < 2 ^ 31 := by omega) : (x < y → A) ∧ (¬ x < y → B) := by
  subst hx hy
  rw [nI_ltI ha hb]
  exact ⟨f, fun z => g (by omega)⟩
theorem pk_eq {x y : Int32} {A B : Prop} (a b : Nat) (f : a = b → A) (g : a ≠ b → B) (hx : x = nI a := by rfl) (hy : y = nI b := by rfl) (ha : a < 2 ^ 31 := by omega) (hb : b < 2 ^ 31 := by omega) : (x = y → A) ∧ (¬ x = y → B) := by
  subst hx hy
  rw [nI_eq ha hb]
  exact ⟨f, g⟩
theorem pk_in {x : Int32} (n N : Nat) (h : n < N) (hx : x = nI n := by rfl) (hN : N < 2 ^ 31 := by omega) : vp_in x N := by
  subst hx
  exact vp_in_nI h hN
theorem pk_cl {x : Int32} (n : Nat) (hx : x = nI n := by rfl) (h : n < 2 ^ 31 := by omega) : x.toNatClampNeg = n := by
  subst hx
  exact nI_clamp h
theorem pk_tn {n : Nat} (h : n < 2 ^ 32) : (nI n).toBitVec.toNat = n := Nat.mod_eq_of_lt h
theorem pk_shl (a s : Int32) (k : Nat) (hs : (s.toBitVec.smod 32).toNat = k) : (a <<< s).toBitVec.toNat = a.toBitVec.toNat * 2 ^ k % 2 ^ 32 := by
  show (a.toBitVec <<< (s.toBitVec.smod 32).toNat).toNat = _
  rw [hs, BitVec.toNat_shiftLeft, Nat.shiftLeft_eq]
theorem pk_shlN {n : Nat} (s : Int32) (k : Nat) (hs : (s.toBitVec.smod 32).toNat = k) (h : n * 2 ^ k < 2 ^ 32) : nI n <<< s = nI (n * 2 ^ k) := by
  apply Int32.toBitVec_inj.mp
  apply BitVec.eq_of_toNat_eq
  have hn : n < 2 ^ 32 := Nat.lt_of_le_of_lt (Nat.le_mul_of_pos_right n (Nat.two_pow_pos k)) h
  rw [pk_shl _ _ k hs, pk_tn hn, pk_tn h, Nat.mod_eq_of_lt h]
theorem pk_shr (a s : Int32) (k : Nat) (hs : (s.toBitVec.smod 32).toNat = k) : (a >>> s).toInt = a.toInt >>> k := by
  show (a.toBitVec.sshiftRight (s.toBitVec.smod 32).toNat).toInt = _
  rw [hs, BitVec.toInt_sshiftRight]
  rfl
theorem pk_shrN {n : Nat} (h : n < 2 ^ 31) (s : Int32) (k : Nat) (hs : (s.toBitVec.smod 32).toNat = k) : nI n >>> s = nI (n / 2 ^ k) := by
  apply Int32.toInt_inj.mp
  have h2 : n / 2 ^ k ≤ n := Nat.div_le_self _ _
  rw [pk_shr _ _ k hs, nI_toInt h, nI_toInt (by omega), Int.shiftRight_eq_div_pow]
  rfl
theorem ek_if {c d A B : Prop} (e : c ↔ d) (f : d → A) (g : ¬ d → B) : (c → A) ∧ (¬ c → B) :=
  ⟨fun z => f (e.mp z), fun z => g (fun y => z (e.mpr y))⟩
theorem s_l : ∀ n, n < 32 → ((nI n &&& 31).toBitVec.smod 32).toNat = n := by decide +kernel
theorem nx_and (a b : Nat) : nI a &&& nI b = nI (a &&& b) := by
  apply Int32.toBitVec_inj.1
  show BitVec.ofNat 32 a &&& BitVec.ofNat 32 b = BitVec.ofNat 32 (a &&& b)
  apply BitVec.eq_of_getLsbD_eq
  intro i hi
  simp [hi]
end
section
/-! numbers: lengths, shifts, marks -/
theorem wc_or (a b : Nat) : nI a ||| nI b = nI (a ||| b) := by
  apply Int32.toBitVec_inj.1
  show BitVec.ofNat 32 a ||| BitVec.ofNat 32 b = BitVec.ofNat 32 (a ||| b)
  apply BitVec.eq_of_getLsbD_eq
  intro i hi
  simp [hi]
theorem wc_shr {n k : Nat} (hn : n < 2 ^ 31) (hk : k < 32) : nI n >>> (nI k &&& 31) = nI (n / 2 ^ k) := pk_shrN hn _ k (s_l k hk)
theorem wc_shl {n k : Nat} (hk : k < 32) (h : n * 2 ^ k < 2 ^ 32) : nI n <<< (nI k &&& 31) = nI (n * 2 ^ k) := pk_shlN _ k (s_l k hk) h
theorem wc_p2 {k m : Nat} (h : k ≤ m) : 2 ^ k ≤ 2 ^ m := Nat.pow_le_pow_right (by decide) h
theorem wc_pl {k m : Nat} (h : k < m) : 2 ^ k < 2 ^ m := Nat.pow_lt_pow_right (by decide) h
theorem wc_mk {k : Nat} (hk : k < 32) : (1 : Int32) <<< (nI k &&& 31) = nI (2 ^ k) := by
  have h := wc_shl (n := 1) hk (by rw [Nat.one_mul]; exact wc_pl hk)
  rw [Nat.one_mul] at h
  exact h
theorem wc_mm (k : Nat) : nI (2 ^ k) - 1 = nI (2 ^ k - 1) := pk_sub (b := 1) (Nat.two_pow_pos k)
theorem wc_low {n k : Nat} : nI n &&& nI (2 ^ k - 1) = nI (n % 2 ^ k) := by
  rw [nx_and, Nat.and_two_pow_sub_one_eq_mod]
theorem wc_mark {n k : Nat} : nI (2 ^ k) ||| nI (n % 2 ^ k) = nI (2 ^ k + n % 2 ^ k) := by
  have h := Nat.two_pow_add_eq_or_of_lt (Nat.mod_lt n (Nat.two_pow_pos k)) 1
  rw [Nat.mul_one] at h
  rw [wc_or, ← h]
theorem wc_lg1 {n : Nat} (h : 2 ≤ n) : 1 ≤ Nat.log2 n := (Nat.le_log2 (by omega)).mpr h
theorem wc_lgh {n : Nat} (h : 2 ≤ n) : Nat.log2 n = Nat.log2 (n / 2) + 1 := by rw [Nat.log2_def, if_pos h]
theorem wc_lg0 {n : Nat} (h : n < 2) : Nat.log2 n = 0 := by rw [Nat.log2_def, if_neg (by omega)]
theorem wc_lgu {n k : Nat} (h0 : 0 < n) (h : n < 2 ^ k) : Nat.log2 n < k := (Nat.log2_lt (by omega)).mpr h
theorem wc_lgm {a b : Nat} (h0 : 0 < a) (h : a ≤ b) : Nat.log2 a ≤ Nat.log2 b := (Nat.le_log2 (by omega)).mpr (Nat.le_trans (Nat.log2_self_le (by omega)) h)
theorem wc_lge {a : Nat} (h0 : 0 < a) : 2 ^ Nat.log2 a ≤ a := Nat.log2_self_le (by omega)
theorem wc_lgs (a : Nat) : a < 2 * 2 ^ Nat.log2 a := by
  have h := @Nat.lt_log2_self a
  rw [Nat.pow_succ] at h
  omega
theorem wc_lgq {a k : Nat} (h0 : 2 ^ k ≤ a) (h1 : a < 2 * 2 ^ k) : Nat.log2 a = k := by
  have hp := Nat.two_pow_pos k
  exact (Nat.log2_eq_iff (by omega)).mpr ⟨h0, by rw [Nat.pow_succ]; omega⟩
theorem wc_lg7 {a : Nat} (h0 : 2 ≤ a) (h : a < 128) : 1 ≤ Nat.log2 a ∧ Nat.log2 a ≤ 6 := by
  have h1 := wc_lg1 h0
  have h2 := wc_lgu (n := a) (k := 7) (by omega) h
  omega
/-! shifting behind a word: the row's code and its length -/
theorem wc_lga {r w : Nat} (hr : 0 < r) (hw : 2 ≤ w) : Nat.log2 (r * 2 ^ Nat.log2 w + (w - 2 ^ Nat.log2 w)) = Nat.log2 r + Nat.log2 w := by
  have a := wc_lge hr
  have b := wc_lgs r
  have c := wc_lge (a := w) (by omega)
  have d := wc_lgs w
  have hp := Nat.two_pow_pos (Nat.log2 w)
  apply wc_lgq
  · rw [Nat.pow_add]
    have := Nat.mul_le_mul_right (2 ^ Nat.log2 w) a
    omega
  · rw [Nat.pow_add]
    have e : (r + 1) * 2 ^ Nat.log2 w ≤ 2 * 2 ^ Nat.log2 r * 2 ^ Nat.log2 w := Nat.mul_le_mul_right _ b
    rw [Nat.add_mul, Nat.one_mul, Nat.mul_assoc] at e
    omega
theorem wc_lgb {r b : Nat} (hr : 0 < r) (hb : b < 2) : Nat.log2 (2 * r + b) = Nat.log2 r + 1 := by
  rw [wc_lgh (by omega)]
  have : (2 * r + b) / 2 = r := by omega
  rw [this]
end
section
/-! strictly rising rows of numbers, and what sorting does -/
def wc_Inc (w : Nat → Nat) (c : Nat) : Prop := ∀ i j, i < j → j < c → w i < w j
def wc_Inj (w : Nat → Nat) (c : Nat) : Prop := ∀ i j, i < c → j < c → w i = w j → i = j
def wc_Sub (f g : Nat → Nat) (c : Nat) : Prop := ∀ i, i < c → ∃ j, j < c ∧ g j = f i
theorem wc_sub_refl (f : Nat → Nat) (c : Nat) : wc_Sub f f c := fun i hi => ⟨i, hi, rfl⟩
theorem wc_sub_trans {f g h : Nat → Nat} {c : Nat} (a : wc_Sub f g c) (b : wc_Sub g h c) : wc_Sub f h c := fun i hi => by
  obtain ⟨j, hj, e⟩ := a i hi
  obtain ⟨k, hk, e2⟩ := b j hj
  exact ⟨k, hk, e2.trans e⟩
theorem wc_inc_inj {w : Nat → Nat} {c : Nat} (h : wc_Inc w c) : wc_Inj w c := by
  intro i j hi hj e
  rcases Nat.lt_trichotomy i j with z | z | z
  · have := h i j z hj
    omega
  · exact z
  · have := h j i z hi
    omega
theorem wc_inc_le {w : Nat → Nat} {c : Nat} (h : wc_Inc w c) {i j : Nat} (a : i ≤ j) (b : j < c) : w i ≤ w j := by
  rcases Nat.lt_or_ge i j with z | z
  · exact Nat.le_of_lt (h i j z b)
  · have e : i = j := by omega
    subst e
    exact Nat.le_refl _
theorem wc_uniq {f g : Nat → Nat} {c : Nat} (hf : wc_Inc f c) (hg : wc_Inc g c) (h1 : wc_Sub f g c) (h2 : wc_Sub g f c) : ∀ k, k < c → f k = g k := by
  intro k
  induction k using Nat.strongRecOn with
  | ind k ih =>
    intro hk
    obtain ⟨j, hj, ej⟩ := h1 k hk
    obtain ⟨i, hi, ei⟩ := h2 k hk
    have a : k ≤ j := by
      rcases Nat.lt_or_ge j k with z | z
      · have e1 := ih j z hj
        have e2 := hf j k z hk
        omega
      · exact z
    have b : k ≤ i := by
      rcases Nat.lt_or_ge i k with z | z
      · have e1 := ih i z hi
        have e2 := hg i k z hk
        omega
      · exact z
    have c1 := wc_inc_le hg a hj
    have c2 := wc_inc_le hf b hi
    omega
/-- two places changed -/
def wc_tp (i j k : Nat) : Nat := if k = i then j else if k = j then i else k
theorem wc_tp_i (i j : Nat) : wc_tp i j i = j := if_pos rfl
theorem wc_tp_j {i j : Nat} : wc_tp i j j = i := by
  unfold wc_tp
  split
  · omega
  · rw [if_pos rfl]
theorem wc_tp_n {i j k : Nat} (h1 : k ≠ i) (h2 : k ≠ j) : wc_tp i j k = k := by
  unfold wc_tp
  rw [if_neg h1, if_neg h2]
theorem wc_tp_tp (i j k : Nat) : wc_tp i j (wc_tp i j k) = k := by
  by_cases a : k = i
  · rw [a, wc_tp_i, wc_tp_j]
  · by_cases b : k = j
    · rw [b, wc_tp_j, wc_tp_i]
    · rw [wc_tp_n a b, wc_tp_n a b]
theorem wc_tp_lt {i j k c : Nat} (hi : i < c) (hj : j < c) (hk : k < c) : wc_tp i j k < c := by
  unfold wc_tp
  split
  · exact hj
  · split
    · exact hi
    · exact hk
theorem wc_tp_inj {w : Nat → Nat} {c i j : Nat} (hi : i < c) (hj : j < c) (h : wc_Inj w c) : wc_Inj (fun k => w (wc_tp i j k)) c := by
  intro x y hx hy e
  have e2 := h _ _ (wc_tp_lt hi hj hx) (wc_tp_lt hi hj hy) e
  rw [← wc_tp_tp i j x, e2, wc_tp_tp]
theorem wc_tp_sub {w : Nat → Nat} {c i j : Nat} (hi : i < c) (hj : j < c) : wc_Sub (fun k => w (wc_tp i j k)) w c ∧ wc_Sub w (fun k => w (wc_tp i j k)) c :=
  ⟨fun k hk => ⟨wc_tp i j k, wc_tp_lt hi hj hk, rfl⟩, fun k hk => ⟨wc_tp i j k, wc_tp_lt hi hj hk, by show w (wc_tp i j (wc_tp i j k)) = w k; rw [wc_tp_tp]⟩⟩
/-- what Y's sort knows at the head of the inner loop -/
def wc_So (w0 w : Nat → Nat) (c i j : Nat) : Prop :=
  wc_Inj w c ∧ wc_Sub w w0 c ∧ wc_Sub w0 w c ∧ (∀ a b, a < i → a < b → b < c → w a < w b) ∧ (∀ b, i < b → b < j → w i < w b)
theorem wc_so_0 {w : Nat → Nat} {c : Nat} (h : wc_Inj w c) : wc_So w w c 0 1 :=
  ⟨h, wc_sub_refl w c, wc_sub_refl w c, fun a b ha => absurd ha (Nat.not_lt_zero a), fun b h1 h2 => by omega⟩
theorem wc_so_keep {w0 w : Nat → Nat} {c i j : Nat} (h : wc_So w0 w c i j) (hij : i < j) (hj : j < c) (hle : ¬ w j < w i) : wc_So w0 w c i (j + 1) := by
  obtain ⟨h1, h2, h3, h4, h5⟩ := h
  refine ⟨h1, h2, h3, h4, fun b a1 a2 => ?_⟩
  rcases Nat.lt_or_ge b j with z | z
  · exact h5 b a1 z
  · have e : b = j := by omega
    subst e
    have ne : w i ≠ w b := fun e => by
      have := h1 i b (by omega) hj e
      omega
    omega
theorem wc_so_swap {w0 w : Nat → Nat} {c i j : Nat} (h : wc_So w0 w c i j) (hij : i < j) (hj : j < c) (hlt : w j < w i) : wc_So w0 (fun k => w (wc_tp i j k)) c i (j + 1) := by
  obtain ⟨h1, h2, h3, h4, h5⟩ := h
  have hi : i < c := by omega
  have s := @wc_tp_sub w c i j hi hj
  refine ⟨wc_tp_inj hi hj h1, wc_sub_trans s.1 h2, wc_sub_trans h3 s.2, ?_, ?_⟩
  · intro a b ha hab hb
    show w (wc_tp i j a) < w (wc_tp i j b)
    rw [wc_tp_n (by omega) (by omega)]
    refine h4 a _ ha ?_ (wc_tp_lt hi hj hb)
    unfold wc_tp
    split
    · omega
    · split <;> omega
  · intro b h6 h7
    show w (wc_tp i j i) < w (wc_tp i j b)
    rw [wc_tp_i]
    by_cases e : b = j
    · rw [e, wc_tp_j]
      exact hlt
    · rw [wc_tp_n (by omega) e]
      have := h5 b h6 (by omega)
      omega
theorem wc_so_next {w0 w : Nat → Nat} {c i : Nat} (h : wc_So w0 w c i c) : wc_So w0 w c (i + 1) (i + 2) := by
  obtain ⟨h1, h2, h3, h4, h5⟩ := h
  refine ⟨h1, h2, h3, fun a b ha hab hb => ?_, fun b h6 h7 => by omega⟩
  rcases Nat.lt_or_ge a i with z | z
  · exact h4 a b z hab hb
  · have e : a = i := by omega
    subst e
    exact h5 b hab hb
theorem wc_so_inc {w0 w : Nat → Nat} {c i j : Nat} (h : wc_So w0 w c i j) (hi : c ≤ i) : wc_Inc w c := fun a b hab hb => h.2.2.2.1 a b (by omega) hab hb
/-- a number put in at place q -/
def wc_in (w : Nat → Nat) (q x k : Nat) : Nat := if k < q then w k else if k = q then x else w (k - 1)
theorem wc_in_lo {w : Nat → Nat} {q x k : Nat} (h : k < q) : wc_in w q x k = w k := if_pos h
theorem wc_in_at {w : Nat → Nat} {q x : Nat} : wc_in w q x q = x := by
  unfold wc_in
  rw [if_neg (by omega), if_pos rfl]
theorem wc_in_hi {w : Nat → Nat} {q x k : Nat} (h : q < k) : wc_in w q x k = w (k - 1) := by
  unfold wc_in
  rw [if_neg (by omega), if_neg (by omega)]
theorem wc_in_inc {w : Nat → Nat} {c q x : Nat} (h : wc_Inc w c) (hq : q ≤ c) (lo : ∀ k, k < q → w k < x) (hi : ∀ k, q ≤ k → k < c → x < w k) : wc_Inc (wc_in w q x) (c + 1) := by
  intro i j hij hj
  rcases Nat.lt_trichotomy i q with z | z | z
  · rw [wc_in_lo z]
    rcases Nat.lt_trichotomy j q with y | y | y
    · rw [wc_in_lo y]
      exact h i j hij (by omega)
    · rw [y, wc_in_at]
      exact lo i z
    · rw [wc_in_hi y]
      exact h i (j - 1) (by omega) (by omega)
  · rw [z, wc_in_at, wc_in_hi (by omega)]
    exact hi _ (by omega) (by omega)
  · rw [wc_in_hi z, wc_in_hi (by omega)]
    exact h _ _ (by omega) (by omega)
/-- one taken out at place q -/
def wc_rm (w : Nat → Nat) (q k : Nat) : Nat := if k < q then w k else w (k + 1)
theorem wc_rm_lo {w : Nat → Nat} {q k : Nat} (h : k < q) : wc_rm w q k = w k := if_pos h
theorem wc_rm_hi {w : Nat → Nat} {q k : Nat} (h : q ≤ k) : wc_rm w q k = w (k + 1) := if_neg (by omega)
theorem wc_rm_inc {w : Nat → Nat} {c q : Nat} (h : wc_Inc w (c + 1)) : wc_Inc (wc_rm w q) c := by
  intro i j hij hj
  unfold wc_rm
  split
  · split
    · exact h _ _ hij (by omega)
    · exact h _ _ (by omega) (by omega)
  · split
    · omega
    · exact h _ _ (by omega) (by omega)
end
section
/-! the readings of a row, counted from its end -/
def wc_sum (T : Nat → Nat) : Nat → Nat
  | 0 => 0
  | k + 1 => wc_sum T k + T k
theorem wc_sum_congr {T U : Nat → Nat} : ∀ {c : Nat}, (∀ k, k < c → T k = U k) → wc_sum T c = wc_sum U c
  | 0, _ => rfl
  | c + 1, h => by
    show wc_sum T c + T c = wc_sum U c + U c
    rw [wc_sum_congr (c := c) (fun k hk => h k (by omega)), h c (by omega)]
theorem wc_sum_le {T : Nat → Nat} {a b : Nat} (h : a ≤ b) : wc_sum T a ≤ wc_sum T b := by
  induction b with
  | zero =>
    have e : a = 0 := by omega
    subst e
    exact Nat.le_refl _
  | succ b ih =>
    rcases Nat.lt_or_ge a (b + 1) with z | z
    · have := ih (by omega)
      show wc_sum T a ≤ wc_sum T b + T b
      omega
    · have e : a = b + 1 := by omega
      subst e
      exact Nat.le_refl _
theorem wc_sum_zero {T : Nat → Nat} {c : Nat} : wc_sum T c = 0 ↔ ∀ k, k < c → T k = 0 := by
  induction c with
  | zero => exact ⟨fun _ k hk => by omega, fun _ => rfl⟩
  | succ c ih =>
    constructor
    · intro h k hk
      have h : wc_sum T c + T c = 0 := h
      rcases Nat.lt_or_ge k c with z | z
      · exact ih.mp (by omega) k z
      · have e : k = c := by omega
        subst e
        omega
    · intro h
      show wc_sum T c + T c = 0
      rw [ih.mpr (fun k hk => h k (by omega)), h c (by omega)]
/-- the word x stands in the row (code, n bits) at bit p -/
def wc_st (code n p x : Nat) : Bool := decide (p + Nat.log2 x ≤ n) && decide (code / 2 ^ (n - p - Nat.log2 x) % 2 ^ Nat.log2 x = x - 2 ^ Nat.log2 x)
theorem wc_st_le {code n p x : Nat} (h : wc_st code n p x = true) : p + Nat.log2 x ≤ n := by
  unfold wc_st at h
  rw [Bool.and_eq_true, decide_eq_true_eq] at h
  exact h.1
theorem wc_st_iff {code n p x : Nat} : wc_st code n p x = true ↔ p + Nat.log2 x ≤ n ∧ code / 2 ^ (n - (p + Nat.log2 x)) % 2 ^ Nat.log2 x = x - 2 ^ Nat.log2 x := by
  unfold wc_st
  rw [Bool.and_eq_true, decide_eq_true_eq, decide_eq_true_eq, Nat.sub_sub]
theorem wc_st_one {code n p x y : Nat} (hx : wc_st code n p x = true) (hy : wc_st code n p y = true) (e : Nat.log2 x = Nat.log2 y) (h2 : 2 ≤ x) (h3 : 2 ≤ y) : x = y := by
  unfold wc_st at hx hy
  rw [Bool.and_eq_true, decide_eq_true_eq, decide_eq_true_eq] at hx hy
  have a := hx.2
  have b := hy.2
  have c := wc_lge (a := x) (by omega)
  have d := wc_lge (a := y) (by omega)
  rw [e] at a c
  rw [a] at b
  omega
/-- the words: c of them, rising, two to 127 -/
def wc_Set (w : Nat → Nat) (c : Nat) : Prop := c ≤ 6 ∧ wc_Inc w c ∧ ∀ k, k < c → 2 ≤ w k ∧ w k < 128
def wc_thr (w : Nat → Nat) (code n : Nat) (F : Nat → Nat) (z p k : Nat) : Nat := if wc_st code n p (w k) then F (p + Nat.log2 (w k)) else z
theorem wc_thr_t {w : Nat → Nat} {code n : Nat} {F : Nat → Nat} {z p k : Nat} (h : wc_st code n p (w k) = true) : wc_thr w code n F z p k = F (p + Nat.log2 (w k)) := if_pos h
theorem wc_thr_f {w : Nat → Nat} {code n : Nat} {F : Nat → Nat} {z p k : Nat} (h : ¬ wc_st code n p (w k) = true) : wc_thr w code n F z p k = z := if_neg h
/-- F p: in how many ways the row can be read from bit p on -/
def wc_W (w : Nat → Nat) (c code n : Nat) (F : Nat → Nat) : Prop := F n = 1 ∧ ∀ p, p < n → F p = wc_sum (wc_thr w code n F 0 p) c
theorem wc_W_uniq {w : Nat → Nat} {c code n : Nat} {F G : Nat → Nat} (hs : wc_Set w c) (hF : wc_W w c code n F) (hG : wc_W w c code n G) : ∀ d p, p + d = n → F p = G p := by
  intro d
  induction d using Nat.strongRecOn with
  | ind d ih =>
    intro p hp
    rcases Nat.lt_or_ge p n with z | z
    · rw [hF.2 p z, hG.2 p z]
      apply wc_sum_congr
      intro k hk
      by_cases hst : wc_st code n p (w k) = true
      · rw [wc_thr_t hst, wc_thr_t hst]
        have h1 := wc_lg1 (hs.2.2 k hk).1
        have h2 := wc_st_le hst
        exact ih (n - (p + Nat.log2 (w k))) (by omega) _ (by omega)
      · rw [wc_thr_f hst, wc_thr_f hst]
    · have e : p = n := by omega
      rw [e, hF.1, hG.1]
theorem wc_pow_le {a b c s : Nat} (h : a < b) (hb : b ≤ c) (hs : s + 2 ^ (c - a) ≤ 2 ^ c) : s + 2 ^ (c - b) + 2 ^ (c - b) ≤ 2 ^ c := by
  have e : 2 ^ (c - b + 1) ≤ 2 ^ (c - a) := wc_p2 (by omega)
  rw [Nat.pow_succ] at e
  omega
theorem wc_W_part {w : Nat → Nat} {c code n p : Nat} {T : Nat → Nat} (hs : wc_Set w c) (hp : p < n)
    (hT : ∀ k, k < c → wc_st code n p (w k) = true → T k ≤ 2 ^ (n - p - Nat.log2 (w k))) (hT0 : ∀ k, k < c → ¬ wc_st code n p (w k) = true → T k = 0) :
    ∀ K, K ≤ c → ∃ L, (∀ k, K ≤ k → k < c → wc_st code n p (w k) = true → L < Nat.log2 (w k)) ∧ wc_sum T K + 2 ^ (n - p - L) ≤ 2 ^ (n - p) := by
  intro K
  induction K with
  | zero =>
    intro _
    refine ⟨0, fun k _ hk _ => wc_lg1 (hs.2.2 k hk).1, ?_⟩
    show 0 + 2 ^ (n - p - 0) ≤ 2 ^ (n - p)
    rw [Nat.zero_add, Nat.sub_zero]
    exact Nat.le_refl _
  | succ K ih =>
    intro hK
    obtain ⟨L, h1, h2⟩ := ih (by omega)
    by_cases hst : wc_st code n p (w K) = true
    · refine ⟨Nat.log2 (w K), ?_, ?_⟩
      · intro k hk hc hst2
        have a := hs.2.1 K k (by omega) hc
        have b := wc_lgm (a := w K) (b := w k) (by have := (hs.2.2 K (by omega)).1; omega) (by omega)
        rcases Nat.lt_or_ge (Nat.log2 (w K)) (Nat.log2 (w k)) with z | z
        · exact z
        · have := wc_st_one hst hst2 (by omega) (hs.2.2 K (by omega)).1 (hs.2.2 k hc).1
          omega
      · have a := hT K (by omega) hst
        have b := wc_pow_le (h1 K (Nat.le_refl _) (by omega) hst) (by have := wc_st_le hst; omega) h2
        show wc_sum T K + T K + 2 ^ (n - p - Nat.log2 (w K)) ≤ 2 ^ (n - p)
        omega
    · refine ⟨L, fun k hk hc hst2 => h1 k (by omega) hc hst2, ?_⟩
      show wc_sum T K + T K + 2 ^ (n - p - L) ≤ 2 ^ (n - p)
      rw [hT0 K (by omega) hst]
      exact h2
theorem wc_W_bnd {w : Nat → Nat} {c code n : Nat} {F : Nat → Nat} (hs : wc_Set w c) (hF : wc_W w c code n F) : ∀ d p, p + d = n → F p ≤ 2 ^ d := by
  intro d
  induction d using Nat.strongRecOn with
  | ind d ih =>
    intro p hp
    rcases Nat.lt_or_ge p n with z | z
    · rw [hF.2 p z]
      have hd : n - p = d := by omega
      obtain ⟨L, _, h2⟩ := wc_W_part (T := wc_thr w code n F 0 p) hs z (fun k hk hst => by
        rw [wc_thr_t hst]
        have h1 := wc_lg1 (hs.2.2 k hk).1
        have h2 := wc_st_le hst
        exact ih (n - p - Nat.log2 (w k)) (by omega) _ (by omega)) (fun k _ hst => wc_thr_f hst) c (Nat.le_refl _)
      rw [hd] at h2
      exact Nat.le_trans (Nat.le_add_right _ _) h2
    · have e : p = n := by omega
      rw [e, hF.1]
      exact Nat.two_pow_pos d
theorem wc_W_16 {w : Nat → Nat} {c code n : Nat} {F : Nat → Nat} (hs : wc_Set w c) (hF : wc_W w c code n F) (hn : n ≤ 16) {p : Nat} (hp : p ≤ n) : F p ≤ 65536 := by
  have h := wc_W_bnd hs hF (n - p) p (by omega)
  have h2 : 2 ^ (n - p) ≤ 2 ^ 16 := wc_p2 (by omega)
  have h3 : 2 ^ 16 = 65536 := by decide
  omega
/-! the fewest words: 99 says none -/
def wc_mn (T : Nat → Nat) : Nat → Nat
  | 0 => 99
  | k + 1 => if T k ≠ 99 ∧ T k + 1 < wc_mn T k then T k + 1 else wc_mn T k
theorem wc_mn_s {T : Nat → Nat} {k : Nat} : wc_mn T (k + 1) = if T k ≠ 99 ∧ T k + 1 < wc_mn T k then T k + 1 else wc_mn T k := rfl
theorem wc_mn_congr {T U : Nat → Nat} : ∀ {c : Nat}, (∀ k, k < c → T k = U k) → wc_mn T c = wc_mn U c
  | 0, _ => rfl
  | c + 1, h => by
    rw [wc_mn_s, wc_mn_s, wc_mn_congr (c := c) (fun k hk => h k (by omega)), h c (by omega)]
def wc_G (w : Nat → Nat) (c code n : Nat) (G : Nat → Nat) : Prop := G n = 0 ∧ ∀ p, p < n → G p = wc_mn (wc_thr w code n G 99 p) c
theorem wc_G_uniq {w : Nat → Nat} {c code n : Nat} {F G : Nat → Nat} (hs : wc_Set w c) (hF : wc_G w c code n F) (hG : wc_G w c code n G) : ∀ d p, p + d = n → F p = G p := by
  intro d
  induction d using Nat.strongRecOn with
  | ind d ih =>
    intro p hp
    rcases Nat.lt_or_ge p n with z | z
    · rw [hF.2 p z, hG.2 p z]
      apply wc_mn_congr
      intro k hk
      by_cases hst : wc_st code n p (w k) = true
      · rw [wc_thr_t hst, wc_thr_t hst]
        have h1 := wc_lg1 (hs.2.2 k hk).1
        have h2 := wc_st_le hst
        exact ih (n - (p + Nat.log2 (w k))) (by omega) _ (by omega)
      · rw [wc_thr_f hst, wc_thr_f hst]
    · have e : p = n := by omega
      rw [e, hF.1, hG.1]
theorem wc_mn_bnd {T : Nat → Nat} {m : Nat} : ∀ {c : Nat}, (∀ k, k < c → T k = 99 ∨ T k < m) → wc_mn T c = 99 ∨ wc_mn T c ≤ m
  | 0, _ => Or.inl rfl
  | c + 1, h => by
    rw [wc_mn_s]
    have ih := wc_mn_bnd (c := c) (fun k hk => h k (by omega))
    have hc := h c (by omega)
    split
    · omega
    · exact ih
theorem wc_mn_none {T : Nat → Nat} : ∀ {c : Nat}, (∀ k, k < c → T k = 99 ∨ T k ≤ 16) → (wc_mn T c = 99 ↔ ∀ k, k < c → T k = 99)
  | 0, _ => ⟨fun _ k hk => by omega, fun _ => rfl⟩
  | c + 1, h => by
    have ih := wc_mn_none (c := c) (fun k hk => h k (by omega))
    have hc := h c (by omega)
    have hb := wc_mn_bnd (T := T) (m := 17) (c := c) (fun k hk => by have := h k (by omega); omega)
    rw [wc_mn_s]
    constructor
    · intro e k hk
      split at e
      · omega
      · rename_i hn
        rcases Nat.lt_or_ge k c with z | z
        · exact ih.mp e k z
        · have e2 : k = c := by omega
          subst e2
          omega
    · intro e
      have e1 := e c (by omega)
      rw [if_neg (by omega)]
      exact ih.mpr (fun k hk => e k (by omega))
theorem wc_G_bnd {w : Nat → Nat} {c code n : Nat} {G : Nat → Nat} (hs : wc_Set w c) (hG : wc_G w c code n G) : ∀ d p, p + d = n → G p = 99 ∨ G p ≤ d := by
  intro d
  induction d using Nat.strongRecOn with
  | ind d ih =>
    intro p hp
    rcases Nat.lt_or_ge p n with z | z
    · rw [hG.2 p z]
      apply wc_mn_bnd
      intro k hk
      by_cases hst : wc_st code n p (w k) = true
      · rw [wc_thr_t hst]
        have h1 := wc_lg1 (hs.2.2 k hk).1
        have h2 := wc_st_le hst
        have := ih (n - (p + Nat.log2 (w k))) (by omega) (p + Nat.log2 (w k)) (by omega)
        omega
      · rw [wc_thr_f hst]
        exact Or.inl rfl
    · have e : p = n := by omega
      rw [e, hG.1]
      omega
theorem wc_GW {w : Nat → Nat} {c code n : Nat} {F G : Nat → Nat} (hs : wc_Set w c) (hn : n ≤ 16) (hF : wc_W w c code n F) (hG : wc_G w c code n G) : ∀ d p, p + d = n → (F p = 0 ↔ G p = 99) := by
  intro d
  induction d using Nat.strongRecOn with
  | ind d ih =>
    intro p hp
    rcases Nat.lt_or_ge p n with z | z
    · have key : ∀ k, k < c → (wc_thr w code n F 0 p k = 0 ↔ wc_thr w code n G 99 p k = 99) := by
        intro k hk
        by_cases hst : wc_st code n p (w k) = true
        · rw [wc_thr_t hst, wc_thr_t hst]
          have h1 := wc_lg1 (hs.2.2 k hk).1
          have h2 := wc_st_le hst
          exact ih (n - (p + Nat.log2 (w k))) (by omega) _ (by omega)
        · rw [wc_thr_f hst, wc_thr_f hst]
          exact ⟨fun _ => rfl, fun _ => rfl⟩
      rw [hF.2 p z, hG.2 p z, wc_sum_zero, wc_mn_none]
      · exact ⟨fun h k hk => (key k hk).mp (h k hk), fun h k hk => (key k hk).mpr (h k hk)⟩
      · intro k hk
        by_cases hst : wc_st code n p (w k) = true
        · rw [wc_thr_t hst]
          have h1 := wc_lg1 (hs.2.2 k hk).1
          have h2 := wc_st_le hst
          have := wc_G_bnd hs hG (n - (p + Nat.log2 (w k))) (p + Nat.log2 (w k)) (by omega)
          omega
        · rw [wc_thr_f hst]
          exact Or.inl rfl
    · have e : p = n := by omega
      rw [e, hF.1, hG.1]
      omega
/-! one reading: its words in order -/
def wc_path (w : Nat → Nat) (c code n : Nat) (F : Nat → Nat) : List Nat → Nat → Nat → Prop
  | [], p, _ => p = n
  | k :: l, p, b => p < n ∧ k < c ∧ wc_st code n p (w k) = true ∧ ∃ b', b = wc_sum (wc_thr w code n F 0 p) k + b' ∧ b' < F (p + Nat.log2 (w k)) ∧ wc_path w c code n F l (p + Nat.log2 (w k)) b'
theorem wc_pick {T : Nat → Nat} : ∀ {c b : Nat}, b < wc_sum T c → ∃ k b', k < c ∧ b = wc_sum T k + b' ∧ b' < T k
  | 0, b, h => absurd h (Nat.not_lt_zero b)
  | c + 1, b, h => by
    rcases Nat.lt_or_ge b (wc_sum T c) with z | z
    · obtain ⟨k, b', h1, h2, h3⟩ := wc_pick (c := c) z
      exact ⟨k, b', by omega, h2, h3⟩
    · have h : b < wc_sum T c + T c := h
      exact ⟨c, b - wc_sum T c, by omega, by omega, by omega⟩
theorem wc_path_ex {w : Nat → Nat} {c code n : Nat} {F : Nat → Nat} (hs : wc_Set w c) (hF : wc_W w c code n F) : ∀ d p b, p + d = n → b < F p → ∃ l, wc_path w c code n F l p b ∧ l.length ≤ d := by
  intro d
  induction d using Nat.strongRecOn with
  | ind d ih =>
    intro p b hp hb
    rcases Nat.lt_or_ge p n with z | z
    · rw [hF.2 p z] at hb
      obtain ⟨k, b', h1, h2, h3⟩ := wc_pick hb
      by_cases hst : wc_st code n p (w k) = true
      · rw [wc_thr_t hst] at h3
        have h4 := wc_lg1 (hs.2.2 k h1).1
        have h5 := wc_st_le hst
        obtain ⟨l, h6, h7⟩ := ih (n - (p + Nat.log2 (w k))) (by omega) (p + Nat.log2 (w k)) b' (by omega) h3
        refine ⟨k :: l, ⟨z, h1, hst, b', h2, h3, h6⟩, ?_⟩
        show l.length + 1 ≤ d
        omega
      · rw [wc_thr_f hst] at h3
        omega
    · exact ⟨[], (by show p = n; omega), Nat.zero_le _⟩
end
section
/-! overhangs: 0 says not reached. d: what is reached so far -/
def wc_bg (a b : Nat) : Bool := decide (Nat.log2 a < Nat.log2 b) && decide (b / 2 ^ (Nat.log2 b - Nat.log2 a) = a)
def wc_rs (a b : Nat) : Nat := 2 ^ (Nat.log2 b - Nat.log2 a) + b % 2 ^ (Nat.log2 b - Nat.log2 a)
theorem wc_bg_lt {a b : Nat} (h : wc_bg a b = true) : Nat.log2 a < Nat.log2 b := by
  unfold wc_bg at h
  rw [Bool.and_eq_true, decide_eq_true_eq] at h
  exact h.1
theorem wc_bg_self (a : Nat) : wc_bg a a = false := by
  unfold wc_bg
  rw [decide_eq_false (Nat.lt_irrefl _), Bool.false_and]
theorem wc_rs_in {a b : Nat} (ha : 2 ≤ a) (hb : 2 ≤ b) (h7 : b < 128) (h : Nat.log2 a < Nat.log2 b) : 2 ≤ wc_rs a b ∧ wc_rs a b < 64 ∧ Nat.log2 (wc_rs a b) = Nat.log2 b - Nat.log2 a := by
  have h1 := wc_lg1 ha
  have h2 := (wc_lg7 hb h7).2
  have m := Nat.mod_lt b (Nat.two_pow_pos (Nat.log2 b - Nat.log2 a))
  have p1 : 2 ^ 1 ≤ 2 ^ (Nat.log2 b - Nat.log2 a) := wc_p2 (by omega)
  have p5 : 2 ^ (Nat.log2 b - Nat.log2 a) ≤ 2 ^ 5 := wc_p2 (by omega)
  have e5 : 2 ^ 5 = 32 := by decide
  have e1 : 2 ^ 1 = 2 := by decide
  unfold wc_rs
  refine ⟨by omega, by omega, ?_⟩
  exact wc_lgq (by omega) (by omega)
def wc_ok (d : Nat → Nat) (t b : Nat) : Prop := d t ≠ 0 ∧ d t ≤ b
def wc_set (d : Nat → Nat) (t b j : Nat) : Nat := if j = t then b else d j
theorem wc_set_s {d : Nat → Nat} {t b : Nat} : wc_set d t b t = b := if_pos rfl
theorem wc_set_n {d : Nat → Nat} {t b j : Nat} (h : j ≠ t) : wc_set d t b j = d j := if_neg h
def wc_rx (d : Nat → Nat) (t b : Nat) : Nat → Nat := if d t ≠ 0 ∧ d t ≤ b then d else wc_set d t b
theorem wc_rx_ok {d : Nat → Nat} {t b : Nat} (h : wc_ok d t b) : wc_rx d t b = d := if_pos h
theorem wc_rx_no {d : Nat → Nat} {t b : Nat} (h : ¬ wc_ok d t b) : wc_rx d t b = wc_set d t b := if_neg h
/-- the step from overhang o by word x: where to, and by how many bits -/
def wc_et (o x : Nat) : Option (Nat × Nat) := if wc_bg x o = true then some (wc_rs x o, 0) else if wc_bg o x = true then some (wc_rs o x, Nat.log2 x - Nat.log2 o) else none
theorem wc_et_in {o x t e : Nat} (ho : 2 ≤ o) (ho2 : o < 64) (hx : 2 ≤ x) (hx2 : x < 128) (h : wc_et o x = some (t, e)) : 2 ≤ t ∧ t < 64 ∧ e ≤ 5 := by
  unfold wc_et at h
  split at h
  · rename_i g
    have a := wc_rs_in hx ho (by omega) (wc_bg_lt g)
    have h := Option.some.inj h
    have h1 : wc_rs x o = t := congrArg Prod.fst h
    have h2 : 0 = e := congrArg Prod.snd h
    omega
  · split at h
    · rename_i g
      have a := wc_rs_in ho hx hx2 (wc_bg_lt g)
      have b := wc_lg7 hx hx2
      have c := wc_lg1 ho
      have h := Option.some.inj h
      have h1 : wc_rs o x = t := congrArg Prod.fst h
      have h2 : Nat.log2 x - Nat.log2 o = e := congrArg Prod.snd h
      omega
    · exact absurd h (by simp)
def wc_ed (o x : Nat) (d : Nat → Nat) : Nat → Nat := match wc_et o x with
  | none => d
  | some (t, e) => wc_rx d t (d o + e)
def wc_sE (o x : Nat) (d : Nat → Nat) : Prop := ∀ t e, wc_et o x = some (t, e) → wc_ok d t (d o + e)
theorem wc_ed_none {o x : Nat} {d : Nat → Nat} (h : wc_et o x = none) : wc_ed o x d = d := by simp only [wc_ed, h]
theorem wc_ed_some {o x t e : Nat} {d : Nat → Nat} (h : wc_et o x = some (t, e)) : wc_ed o x d = wc_rx d t (d o + e) := by simp only [wc_ed, h]
theorem wc_ed_sat {o x : Nat} {d : Nat → Nat} (h : wc_sE o x d) : wc_ed o x d = d := by
  rcases hE : wc_et o x with _ | ⟨t, e⟩
  · exact wc_ed_none hE
  · rw [wc_ed_some hE]
    exact wc_rx_ok (h t e hE)
/-! counting: how many are reached within x bits -/
def wc_ct (d : Nat → Nat) (x : Nat) : Nat → Nat
  | 0 => 0
  | m + 1 => wc_ct d x m + (if d (m + 1) ≠ 0 ∧ d (m + 1) ≤ x then 1 else 0)
theorem wc_ct_s {d : Nat → Nat} {x m : Nat} : wc_ct d x (m + 1) = wc_ct d x m + (if d (m + 1) ≠ 0 ∧ d (m + 1) ≤ x then 1 else 0) := rfl
theorem wc_ct_le {d : Nat → Nat} {x : Nat} : ∀ m, wc_ct d x m ≤ m
  | 0 => Nat.le_refl 0
  | m + 1 => by
    have := wc_ct_le (d := d) (x := x) m
    rw [wc_ct_s]
    split <;> omega
theorem wc_ct_mono {d d' : Nat → Nat} {x x' : Nat} (h : ∀ j, wc_ok d j x → wc_ok d' j x') : ∀ m, wc_ct d x m ≤ wc_ct d' x' m
  | 0 => Nat.le_refl 0
  | m + 1 => by
    have ih := wc_ct_mono h m
    rw [wc_ct_s, wc_ct_s]
    by_cases a : d (m + 1) ≠ 0 ∧ d (m + 1) ≤ x
    · have b : d' (m + 1) ≠ 0 ∧ d' (m + 1) ≤ x' := h (m + 1) a
      rw [if_pos a, if_pos b]
      omega
    · rw [if_neg a]
      omega
theorem wc_ct_strict {d d' : Nat → Nat} {x x' t : Nat} (h : ∀ j, wc_ok d j x → wc_ok d' j x') (h1 : ¬ wc_ok d t x) (h2 : wc_ok d' t x') (ht : 1 ≤ t) : ∀ m, t ≤ m → wc_ct d x m + 1 ≤ wc_ct d' x' m
  | 0, hm => by omega
  | m + 1, hm => by
    rw [wc_ct_s, wc_ct_s]
    rcases Nat.lt_or_ge m t with z | z
    · have e : t = m + 1 := by omega
      subst e
      have a : ¬ (d (m + 1) ≠ 0 ∧ d (m + 1) ≤ x) := h1
      have b : d' (m + 1) ≠ 0 ∧ d' (m + 1) ≤ x' := h2
      rw [if_neg a, if_pos b]
      have := wc_ct_mono h m
      omega
    · have ih := wc_ct_strict h h1 h2 ht m z
      by_cases a : d (m + 1) ≠ 0 ∧ d (m + 1) ≤ x
      · have b : d' (m + 1) ≠ 0 ∧ d' (m + 1) ≤ x' := h (m + 1) a
        rw [if_pos a, if_pos b]
        omega
      · rw [if_neg a]
        omega
theorem wc_ct_self {d : Nat → Nat} {t : Nat} (h0 : d t ≠ 0) (h1 : 1 ≤ t) (h2 : t < 64) : 1 ≤ wc_ct d (d t) 63 := by
  have a := wc_ct_strict (d := fun _ => 0) (d' := d) (x := 0) (x' := d t) (t := t) (fun j hj => absurd rfl hj.1) (fun hj => absurd rfl hj.1) ⟨h0, Nat.le_refl _⟩ h1 63 (by omega)
  omega
/-- every number of bits is small: at most six for each overhang that is reached as early -/
def wc_Bd (d : Nat → Nat) : Prop := ∀ j, 1 ≤ j → j < 64 → d j ≤ 6 * wc_ct d (d j) 63
theorem wc_bd_in {d : Nat → Nat} (h : wc_Bd d) {j : Nat} (h1 : 1 ≤ j) (h2 : j < 64) : d j ≤ 378 := by
  have a := h j h1 h2
  have b := wc_ct_le (d := d) (x := d j) 63
  omega
theorem wc_set_ok {d : Nat → Nat} {t b : Nat} (hb : b ≠ 0) (hn : ¬ wc_ok d t b) {j x : Nat} (h : wc_ok d j x) : wc_ok (wc_set d t b) j x := by
  by_cases e : j = t
  · subst e
    unfold wc_ok at h hn ⊢
    rw [wc_set_s]
    omega
  · unfold wc_ok at h ⊢
    rw [wc_set_n e]
    exact h
theorem wc_set_bd {d : Nat → Nat} {t b : Nat} (hb : b ≠ 0) (hn : ¬ wc_ok d t b) (ht : b ≤ 6 * wc_ct (wc_set d t b) b 63) (h : wc_Bd d) : wc_Bd (wc_set d t b) := by
  intro j h1 h2
  by_cases e : j = t
  · subst e
    rw [wc_set_s]
    exact ht
  · rw [wc_set_n e]
    have a := h j h1 h2
    have m := wc_ct_mono (d := d) (d' := wc_set d t b) (x := d j) (x' := d j) (fun i hi => wc_set_ok hb hn hi) 63
    omega
theorem wc_set_new {d : Nat → Nat} {t b y : Nat} (hb : b ≠ 0) (hn : ¬ wc_ok d t b) (h1 : 1 ≤ t) (h2 : t < 64) (hy : y ≤ b) : wc_ct d y 63 + 1 ≤ wc_ct (wc_set d t b) b 63 := by
  refine wc_ct_strict (t := t) (fun j hj => wc_set_ok hb hn ⟨hj.1, Nat.le_trans hj.2 hy⟩) (fun hj => hn ⟨hj.1, Nat.le_trans hj.2 hy⟩) ?_ h1 63 (by omega)
  unfold wc_ok
  rw [wc_set_s]
  exact ⟨hb, Nat.le_refl _⟩
/-! one visit, one round -/
def wc_vk (w : Nat → Nat) (o : Nat) : Nat → (Nat → Nat) → (Nat → Nat)
  | 0, d => d
  | k + 1, d => wc_ed o (w k) (wc_vk w o k d)
def wc_vis (w : Nat → Nat) (c o : Nat) (d : Nat → Nat) : Nat → Nat := if d o = 0 then d else wc_vk w o c d
def wc_rd (w : Nat → Nat) (c : Nat) : Nat → (Nat → Nat) → (Nat → Nat)
  | 0, d => d
  | m + 1, d => wc_vis w c (m + 2) (wc_rd w c m d)
def wc_it (w : Nat → Nat) (c : Nat) : Nat → (Nat → Nat) → (Nat → Nat)
  | 0, d => d
  | r + 1, d => wc_rd w c 62 (wc_it w c r d)
theorem wc_it_s {w : Nat → Nat} {c r : Nat} {d : Nat → Nat} : wc_it w c (r + 1) d = wc_rd w c 62 (wc_it w c r d) := rfl
theorem wc_rd_s {w : Nat → Nat} {c m : Nat} {d : Nat → Nat} : wc_rd w c (m + 1) d = wc_vis w c (m + 2) (wc_rd w c m d) := rfl
theorem wc_vk_s {w : Nat → Nat} {o k : Nat} {d : Nat → Nat} : wc_vk w o (k + 1) d = wc_ed o (w k) (wc_vk w o k d) := rfl
def wc_sat (w : Nat → Nat) (c o : Nat) (d : Nat → Nat) : Prop := ∀ k, k < c → wc_sE o (w k) d
def wc_Iv (w : Nat → Nat) (c r p : Nat) (d : Nat → Nat) : Prop := ∀ o, 2 ≤ o → o < 64 → d o ≠ 0 → wc_sat w c o d ∨ (p ≤ o ∧ r ≤ wc_ct d (d o) 63) ∨ r + 1 ≤ wc_ct d (d o) 63
theorem wc_ed_own {o x : Nat} {d : Nat → Nat} (h0 : d o ≠ 0) : wc_ed o x d o = d o := by
  rcases hE : wc_et o x with _ | ⟨t, e⟩
  · rw [wc_ed_none hE]
  · rw [wc_ed_some hE]
    by_cases g : wc_ok d t (d o + e)
    · rw [wc_rx_ok g]
    · rw [wc_rx_no g]
      by_cases z : o = t
      · subst z
        exact absurd ⟨h0, by omega⟩ g
      · exact wc_set_n z
theorem wc_vk_own {w : Nat → Nat} {o : Nat} {d : Nat → Nat} (h0 : d o ≠ 0) : ∀ k, wc_vk w o k d o = d o
  | 0 => rfl
  | k + 1 => by
    have ih := wc_vk_own (w := w) h0 k
    show wc_ed o (w k) (wc_vk w o k d) o = d o
    rw [wc_ed_own (by rw [ih]; exact h0), ih]
theorem wc_sE_set {o x t b : Nat} {d : Nat → Nat} (hb : b ≠ 0) (hn : ¬ wc_ok d t b) (ho : o ≠ t) (h : wc_sE o x d) : wc_sE o x (wc_set d t b) := by
  intro t' e' hE
  rw [wc_set_n ho]
  exact wc_set_ok hb hn (h t' e' hE)
/-- what holds inside the visit of o at round r: o is as early as r -/
def wc_Vv (w : Nat → Nat) (c r o k : Nat) (d : Nat → Nat) : Prop :=
  wc_Bd d ∧ d o ≠ 0 ∧ r ≤ wc_ct d (d o) 63 ∧ (∀ i, i < k → wc_sE o (w i) d) ∧ ∀ o', 2 ≤ o' → o' < 64 → o' ≠ o → d o' ≠ 0 → wc_sat w c o' d ∨ (o < o' ∧ r ≤ wc_ct d (d o') 63) ∨ r + 1 ≤ wc_ct d (d o') 63
theorem wc_Vv_step {w : Nat → Nat} {c r o k : Nat} {d : Nat → Nat} (hw : ∀ k, k < c → 2 ≤ w k ∧ w k < 128) (ho : 2 ≤ o) (ho2 : o < 64) (hk : k < c) (h : wc_Vv w c r o k d) : wc_Vv w c r o (k + 1) (wc_ed o (w k) d) := by
  obtain ⟨h1, h2, h3, h4, h5⟩ := h
  have same : wc_sE o (w k) d → wc_Vv w c r o (k + 1) d := by
    intro hs
    refine ⟨h1, h2, h3, ?_, h5⟩
    intro i hi
    rcases Nat.lt_or_ge i k with z | z
    · exact h4 i z
    · have e : i = k := by omega
      subst e
      exact hs
  rcases hE : wc_et o (w k) with _ | ⟨t, e⟩
  · rw [wc_ed_none hE]
    exact same (fun t e h => by rw [hE] at h; exact absurd h (by simp))
  · rw [wc_ed_some hE]
    by_cases g : wc_ok d t (d o + e)
    · rw [wc_rx_ok g]
      refine same (fun t' e' h => ?_)
      rw [hE] at h
      have h := Option.some.inj h
      have a1 : t = t' := congrArg Prod.fst h
      have a2 : e = e' := congrArg Prod.snd h
      subst a1 a2
      exact g
    · rw [wc_rx_no g]
      have hi := wc_et_in ho ho2 (hw k hk).1 (hw k hk).2 hE
      have hb : d o + e ≠ 0 := by omega
      have hto : o ≠ t := fun z => by
        subst z
        exact g ⟨h2, by omega⟩
      have hN := wc_set_new (y := d o) hb g (by omega) hi.2.1 (by omega)
      have hbd : d o + e ≤ 6 * wc_ct (wc_set d t (d o + e)) (d o + e) 63 := by
        have := h1 o (by omega) ho2
        omega
      refine ⟨wc_set_bd hb g hbd h1, by rw [wc_set_n hto]; exact h2, ?_, ?_, ?_⟩
      · rw [wc_set_n hto]
        exact Nat.le_trans h3 (wc_ct_mono (fun j hj => wc_set_ok hb g hj) 63)
      · intro i hi2
        rcases Nat.lt_or_ge i k with z | z
        · exact wc_sE_set hb g hto (h4 i z)
        · have e1 : i = k := by omega
          subst e1
          intro t' e' h
          rw [hE] at h
          have h := Option.some.inj h
          have a1 : t = t' := congrArg Prod.fst h
          have a2 : e = e' := congrArg Prod.snd h
          subst a1 a2
          rw [wc_set_n hto]
          unfold wc_ok
          rw [wc_set_s]
          exact ⟨hb, Nat.le_refl _⟩
      · intro o' q1 q2 q3 q4
        by_cases z : o' = t
        · subst z
          rw [wc_set_s]
          exact Or.inr (Or.inr (by omega))
        · rw [wc_set_n z] at q4 ⊢
          have m := wc_ct_mono (d := d) (d' := wc_set d t (d o + e)) (x := d o') (x' := d o') (fun j hj => wc_set_ok hb g hj) 63
          rcases h5 o' q1 q2 q3 q4 with y | y | y
          · exact Or.inl (fun i hi3 => wc_sE_set hb g z (y i hi3))
          · exact Or.inr (Or.inl ⟨y.1, by omega⟩)
          · exact Or.inr (Or.inr (by omega))
theorem wc_Vv_all {w : Nat → Nat} {c r o : Nat} {d : Nat → Nat} (hw : ∀ k, k < c → 2 ≤ w k ∧ w k < 128) (ho : 2 ≤ o) (ho2 : o < 64) (h : wc_Vv w c r o 0 d) : ∀ k, k ≤ c → wc_Vv w c r o k (wc_vk w o k d)
  | 0, _ => h
  | k + 1, hk => wc_Vv_step hw ho ho2 (by omega) (wc_Vv_all hw ho ho2 h k (by omega))
theorem wc_vk_sat {w : Nat → Nat} {c o : Nat} {d : Nat → Nat} (h : wc_sat w c o d) : ∀ k, k ≤ c → wc_vk w o k d = d
  | 0, _ => rfl
  | k + 1, hk => by
    show wc_ed o (w k) (wc_vk w o k d) = d
    rw [wc_vk_sat h k (by omega)]
    exact wc_ed_sat (h k (by omega))
theorem wc_vis_step {w : Nat → Nat} {c r o : Nat} {d : Nat → Nat} (hw : ∀ k, k < c → 2 ≤ w k ∧ w k < 128) (ho : 2 ≤ o) (ho2 : o < 64) (hb : wc_Bd d) (h : wc_Iv w c r o d) : wc_Bd (wc_vis w c o d) ∧ wc_Iv w c r (o + 1) (wc_vis w c o d) := by
  unfold wc_vis
  by_cases z : d o = 0
  · rw [if_pos z]
    refine ⟨hb, fun o' h1 h2 h3 => ?_⟩
    rcases h o' h1 h2 h3 with y | y | y
    · exact Or.inl y
    · refine Or.inr (Or.inl ⟨?_, y.2⟩)
      have : o' ≠ o := fun e => h3 (by rw [e]; exact z)
      omega
    · exact Or.inr (Or.inr y)
  · rw [if_neg z]
    by_cases s : wc_sat w c o d
    · rw [wc_vk_sat s c (Nat.le_refl c)]
      refine ⟨hb, fun o' h1 h2 h3 => ?_⟩
      by_cases e : o' = o
      · subst e
        exact Or.inl s
      · rcases h o' h1 h2 h3 with y | y | y
        · exact Or.inl y
        · exact Or.inr (Or.inl ⟨by omega, y.2⟩)
        · exact Or.inr (Or.inr y)
    · have hr : r ≤ wc_ct d (d o) 63 := by
        rcases h o ho ho2 z with y | y | y
        · exact absurd y s
        · exact y.2
        · omega
      have v0 : wc_Vv w c r o 0 d := by
        refine ⟨hb, z, hr, fun i hi => absurd hi (Nat.not_lt_zero i), ?_⟩
        intro o' h1 h2 h3 h4
        rcases h o' h1 h2 h4 with y | y | y
        · exact Or.inl y
        · exact Or.inr (Or.inl ⟨by omega, y.2⟩)
        · exact Or.inr (Or.inr y)
      obtain ⟨k1, k2, k3, k4, k5⟩ := wc_Vv_all hw ho ho2 v0 c (Nat.le_refl c)
      refine ⟨k1, fun o' h1 h2 h3 => ?_⟩
      by_cases e : o' = o
      · subst e
        exact Or.inl k4
      · rcases k5 o' h1 h2 e h3 with y | y | y
        · exact Or.inl y
        · exact Or.inr (Or.inl ⟨by omega, y.2⟩)
        · exact Or.inr (Or.inr y)
theorem wc_rd_step {w : Nat → Nat} {c r : Nat} {d : Nat → Nat} (hw : ∀ k, k < c → 2 ≤ w k ∧ w k < 128) (hb : wc_Bd d) (h : wc_Iv w c r 2 d) : ∀ m, m ≤ 62 → wc_Bd (wc_rd w c m d) ∧ wc_Iv w c r (m + 2) (wc_rd w c m d)
  | 0, _ => ⟨hb, h⟩
  | m + 1, hm => by
    have ih := wc_rd_step hw hb h m (by omega)
    exact wc_vis_step hw (by omega) (by omega) ih.1 ih.2
theorem wc_it_step {w : Nat → Nat} {c : Nat} {d : Nat → Nat} (hw : ∀ k, k < c → 2 ≤ w k ∧ w k < 128) (hb : wc_Bd d) : ∀ r, wc_Bd (wc_it w c r d) ∧ wc_Iv w c (r + 1) 2 (wc_it w c r d)
  | 0 => ⟨hb, fun o h1 h2 h3 => Or.inr (Or.inl ⟨h1, wc_ct_self h3 (by omega) h2⟩)⟩
  | r + 1 => by
    have ih := wc_it_step hw hb r
    have st := wc_rd_step hw ih.1 ih.2 62 (Nat.le_refl _)
    refine ⟨st.1, fun o h1 h2 h3 => ?_⟩
    rcases st.2 o h1 h2 h3 with y | y | y
    · exact Or.inl y
    · omega
    · exact Or.inr (Or.inl ⟨h1, y⟩)
theorem wc_it_sat {w : Nat → Nat} {c : Nat} {d : Nat → Nat} (hw : ∀ k, k < c → 2 ≤ w k ∧ w k < 128) (hb : wc_Bd d) : ∀ o, 2 ≤ o → o < 64 → wc_it w c 63 d o ≠ 0 → wc_sat w c o (wc_it w c 63 d) := by
  intro o h1 h2 h3
  have st := (wc_it_step hw hb 63).2
  generalize wc_it w c 63 d = D at h3 st ⊢
  have b := wc_ct_le (d := D) (x := D o) 63
  rcases st o h1 h2 h3 with y | y | y
  · exact y
  · omega
  · omega
theorem wc_vis_fix {w : Nat → Nat} {c o : Nat} {d : Nat → Nat} (h : d o ≠ 0 → wc_sat w c o d) : wc_vis w c o d = d := by
  unfold wc_vis
  by_cases z : d o = 0
  · rw [if_pos z]
  · rw [if_neg z]
    exact wc_vk_sat (h z) c (Nat.le_refl c)
theorem wc_rd_fix {w : Nat → Nat} {c : Nat} {d : Nat → Nat} (h : ∀ o, 2 ≤ o → o < 64 → d o ≠ 0 → wc_sat w c o d) : ∀ m, m ≤ 62 → wc_rd w c m d = d
  | 0, _ => rfl
  | m + 1, hm => by
    show wc_vis w c (m + 2) (wc_rd w c m d) = d
    rw [wc_rd_fix h m (by omega)]
    exact wc_vis_fix (h (m + 2) (by omega) (by omega))
theorem wc_it_fix {w : Nat → Nat} {c : Nat} {d : Nat → Nat} {r : Nat} (h : wc_it w c (r + 1) d = wc_it w c r d) : ∀ m, wc_it w c (r + m) d = wc_it w c r d
  | 0 => rfl
  | m + 1 => by
    show wc_rd w c 62 (wc_it w c (r + m) d) = wc_it w c r d
    rw [wc_it_fix h m]
    exact h
end
section
/-! the least: Y keeps it while it goes, X takes it at the end; the start; turned words -/
def wc_Le (d' d : Nat → Nat) : Prop := ∀ j x, wc_ok d j x → wc_ok d' j x
theorem wc_le_refl (d : Nat → Nat) : wc_Le d d := fun _ _ h => h
theorem wc_le_trans {a b c : Nat → Nat} (h : wc_Le a b) (g : wc_Le b c) : wc_Le a c := fun j x z => h j x (g j x z)
theorem wc_rx_le {d : Nat → Nat} {t b : Nat} (hb : b ≠ 0) : wc_Le (wc_rx d t b) d := by
  by_cases g : wc_ok d t b
  · rw [wc_rx_ok g]
    exact wc_le_refl d
  · rw [wc_rx_no g]
    exact fun j x h => wc_set_ok hb g h
theorem wc_ed_le {o x : Nat} {d : Nat → Nat} (h0 : d o ≠ 0) : wc_Le (wc_ed o x d) d := by
  rcases hE : wc_et o x with _ | ⟨t, e⟩
  · rw [wc_ed_none hE]
    exact wc_le_refl d
  · rw [wc_ed_some hE]
    exact wc_rx_le (by omega)
theorem wc_vk_le {w : Nat → Nat} {o : Nat} {d : Nat → Nat} (h0 : d o ≠ 0) : ∀ k, wc_Le (wc_vk w o k d) d
  | 0 => wc_le_refl d
  | k + 1 => wc_le_trans (wc_ed_le (by rw [wc_vk_own h0 k]; exact h0)) (wc_vk_le h0 k)
theorem wc_vis_le {w : Nat → Nat} {c o : Nat} {d : Nat → Nat} : wc_Le (wc_vis w c o d) d := by
  unfold wc_vis
  by_cases z : d o = 0
  · rw [if_pos z]
    exact wc_le_refl d
  · rw [if_neg z]
    exact wc_vk_le z c
def wc_bk (w : Nat → Nat) (o : Nat) (d : Nat → Nat) (b : Nat) : Nat → Nat
  | 0 => b
  | k + 1 => if w k = o ∧ d o < wc_bk w o d b k then d o else wc_bk w o d b k
theorem wc_bk_s {w : Nat → Nat} {o b k : Nat} {d : Nat → Nat} : wc_bk w o d b (k + 1) = if w k = o ∧ d o < wc_bk w o d b k then d o else wc_bk w o d b k := rfl
def wc_bv (w : Nat → Nat) (c o : Nat) (d : Nat → Nat) (b : Nat) : Nat := if d o = 0 then b else wc_bk w o d b c
def wc_br (w : Nat → Nat) (c : Nat) (d : Nat → Nat) (b : Nat) : Nat → Nat
  | 0 => b
  | m + 1 => wc_bv w c (m + 2) (wc_rd w c m d) (wc_br w c d b m)
def wc_bi (w : Nat → Nat) (c : Nat) (d : Nat → Nat) : Nat → Nat
  | 0 => 999
  | r + 1 => wc_br w c (wc_it w c r d) (wc_bi w c d r) 62
def wc_B1 (w : Nat → Nat) (c b : Nat) (d : Nat → Nat) : Prop := b = 999 ∨ ∃ k, k < c ∧ w k < 64 ∧ wc_ok d (w k) b
theorem wc_B1_le {w : Nat → Nat} {c b : Nat} {d d' : Nat → Nat} (h : wc_B1 w c b d) (g : wc_Le d' d) : wc_B1 w c b d' := by
  rcases h with h | ⟨k, h1, h2, h3⟩
  · exact Or.inl h
  · exact Or.inr ⟨k, h1, h2, g _ _ h3⟩
theorem wc_bk_le {w : Nat → Nat} {o b : Nat} {d : Nat → Nat} : ∀ k, wc_bk w o d b k ≤ b
  | 0 => Nat.le_refl b
  | k + 1 => by
    have ih := wc_bk_le (w := w) (o := o) (b := b) (d := d) k
    rw [wc_bk_s]
    split
    · omega
    · exact ih
theorem wc_bk_B1 {w : Nat → Nat} {c o b : Nat} {d : Nat → Nat} (ho : o < 64) (h0 : d o ≠ 0) (h : wc_B1 w c b d) : ∀ k, k ≤ c → wc_B1 w c (wc_bk w o d b k) d
  | 0, _ => h
  | k + 1, hk => by
    have ih := wc_bk_B1 ho h0 h k (by omega)
    rw [wc_bk_s]
    split
    · rename_i g
      refine Or.inr ⟨k, by omega, by rw [g.1]; exact ho, ?_⟩
      rw [g.1]
      exact ⟨h0, Nat.le_refl _⟩
    · exact ih
theorem wc_bk_B2 {w : Nat → Nat} {o b : Nat} {d : Nat → Nat} : ∀ k i, i < k → w i = o → wc_bk w o d b k ≤ d o
  | 0, i, hi, _ => by omega
  | k + 1, i, hi, e => by
    rw [wc_bk_s]
    rcases Nat.lt_or_ge i k with z | z
    · have ih := wc_bk_B2 (b := b) (d := d) k i z e
      split
      · exact Nat.le_refl _
      · exact ih
    · have e2 : i = k := by omega
      subst e2
      split
      · exact Nat.le_refl _
      · rename_i g
        have : ¬ d o < wc_bk w o d b i := fun y => g ⟨e, y⟩
        omega
theorem wc_bv_le {w : Nat → Nat} {c o b : Nat} {d : Nat → Nat} : wc_bv w c o d b ≤ b := by
  unfold wc_bv
  split
  · exact Nat.le_refl b
  · exact wc_bk_le c
theorem wc_bv_B1 {w : Nat → Nat} {c o b : Nat} {d : Nat → Nat} (ho : o < 64) (h : wc_B1 w c b d) : wc_B1 w c (wc_bv w c o d b) d := by
  unfold wc_bv
  split
  · exact h
  · rename_i z
    exact wc_bk_B1 ho z h c (Nat.le_refl c)
theorem wc_br_le {w : Nat → Nat} {c b : Nat} {d : Nat → Nat} : ∀ m, wc_br w c d b m ≤ b
  | 0 => Nat.le_refl b
  | m + 1 => Nat.le_trans wc_bv_le (wc_br_le m)
theorem wc_br_B1 {w : Nat → Nat} {c b : Nat} {d : Nat → Nat} (h : wc_B1 w c b d) : ∀ m, m ≤ 62 → wc_B1 w c (wc_br w c d b m) (wc_rd w c m d)
  | 0, _ => h
  | m + 1, hm => wc_B1_le (wc_bv_B1 (by omega) (wc_br_B1 h m (by omega))) wc_vis_le
theorem wc_bi_B1 {w : Nat → Nat} {c : Nat} {d : Nat → Nat} : ∀ r, wc_B1 w c (wc_bi w c d r) (wc_it w c r d) ∧ wc_bi w c d r ≤ 999
  | 0 => ⟨Or.inl rfl, Nat.le_refl _⟩
  | r + 1 => by
    have ih := wc_bi_B1 (w := w) (c := c) (d := d) r
    exact ⟨wc_br_B1 ih.1 62 (Nat.le_refl _), Nat.le_trans (wc_br_le 62) ih.2⟩
theorem wc_br_B2 {w : Nat → Nat} {c b : Nat} {d : Nat → Nat} (h : ∀ o, 2 ≤ o → o < 64 → d o ≠ 0 → wc_sat w c o d) : ∀ m, m ≤ 62 → ∀ i, i < c → 2 ≤ w i → w i < m + 2 → d (w i) ≠ 0 → wc_br w c d b m ≤ d (w i)
  | 0, _, i, _, h1, h2, _ => by omega
  | m + 1, hm, i, hi, h1, h2, h3 => by
    show wc_bv w c (m + 2) (wc_rd w c m d) (wc_br w c d b m) ≤ d (w i)
    rw [wc_rd_fix h m (by omega)]
    rcases Nat.lt_or_ge (w i) (m + 2) with z | z
    · exact Nat.le_trans wc_bv_le (wc_br_B2 h m (by omega) i hi h1 z h3)
    · have e : w i = m + 2 := by omega
      rw [e] at h3 ⊢
      unfold wc_bv
      rw [if_neg h3]
      exact wc_bk_B2 c i hi e
def wc_rv (w d : Nat → Nat) (k : Nat) : Nat := if w k < 64 then d (w k) else 0
def wc_xl (w d : Nat → Nat) : Nat → Nat
  | 0 => 999
  | k + 1 => if wc_rv w d k ≠ 0 ∧ wc_rv w d k < wc_xl w d k then wc_rv w d k else wc_xl w d k
theorem wc_xl_s {w d : Nat → Nat} {k : Nat} : wc_xl w d (k + 1) = if wc_rv w d k ≠ 0 ∧ wc_rv w d k < wc_xl w d k then wc_rv w d k else wc_xl w d k := rfl
theorem wc_xl_ex {w d : Nat → Nat} : ∀ k, wc_xl w d k ≤ 999 ∧ (wc_xl w d k = 999 ∨ ∃ i, i < k ∧ w i < 64 ∧ d (w i) ≠ 0 ∧ wc_xl w d k = d (w i))
  | 0 => ⟨Nat.le_refl _, Or.inl rfl⟩
  | k + 1 => by
    have ih := wc_xl_ex (w := w) (d := d) k
    have ih1 := ih.1
    rw [wc_xl_s]
    split
    · rename_i g
      refine ⟨by omega, Or.inr ⟨k, by omega, ?_⟩⟩
      have g1 := g.1
      unfold wc_rv at g1 ⊢
      split at g1
      · rename_i z
        exact ⟨z, g1, by rw [if_pos z]⟩
      · exact absurd rfl g1
    · refine ⟨ih.1, ?_⟩
      rcases ih.2 with y | ⟨i, h1, h2⟩
      · exact Or.inl y
      · exact Or.inr ⟨i, by omega, h2⟩
theorem wc_xl_le {w d : Nat → Nat} : ∀ k i, i < k → w i < 64 → d (w i) ≠ 0 → wc_xl w d k ≤ d (w i)
  | 0, i, hi, _, _ => by omega
  | k + 1, i, hi, h1, h2 => by
    rw [wc_xl_s]
    rcases Nat.lt_or_ge i k with z | z
    · have ih := wc_xl_le k i z h1 h2
      split <;> omega
    · have e : i = k := by omega
      subst e
      have hv : wc_rv w d i = d (w i) := if_pos h1
      rw [hv]
      split <;> omega
theorem wc_least {w : Nat → Nat} {c : Nat} {d : Nat → Nat} (hw : ∀ k, k < c → 2 ≤ w k ∧ w k < 128) (hb : wc_Bd d) : wc_bi w c d 64 = wc_xl w (wc_it w c 64 d) c := by
  have sat := wc_it_sat hw hb
  have fx : wc_it w c 64 d = wc_it w c 63 d := (wc_it_s (r := 63)).trans (wc_rd_fix sat 62 (Nat.le_refl _))
  have hbi : wc_bi w c d 64 = wc_br w c (wc_it w c 63 d) (wc_bi w c d 63) 62 := rfl
  have b1 := wc_bi_B1 (w := w) (c := c) (d := d) 64
  rw [fx] at b1 ⊢
  have x1 := wc_xl_ex (w := w) (d := wc_it w c 63 d) c
  apply Nat.le_antisymm
  · rcases x1.2 with y | ⟨i, h1, h2, h3, h4⟩
    · rw [y]
      exact b1.2
    · rw [h4, hbi]
      exact wc_br_B2 sat 62 (Nat.le_refl _) i h1 (hw i h1).1 h2 h3
  · rcases b1.1 with y | ⟨k, h1, h2, h3⟩
    · rw [y]
      exact x1.1
    · exact Nat.le_trans (wc_xl_le c k h1 h2 h3.1) h3.2
/-! the start: one word begins another -/
def wc_s0 (w : Nat → Nat) (i : Nat) (d : Nat → Nat) : Nat → (Nat → Nat)
  | 0 => d
  | j + 1 => if wc_bg (w i) (w j) = true then wc_rx (wc_s0 w i d j) (wc_rs (w i) (w j)) (Nat.log2 (w j)) else wc_s0 w i d j
def wc_s1 (w : Nat → Nat) (c : Nat) : Nat → (Nat → Nat)
  | 0 => fun _ => 0
  | i + 1 => wc_s0 w i (wc_s1 w c i) c
theorem wc_s0_s {w : Nat → Nat} {i j : Nat} {d : Nat → Nat} : wc_s0 w i d (j + 1) = if wc_bg (w i) (w j) = true then wc_rx (wc_s0 w i d j) (wc_rs (w i) (w j)) (Nat.log2 (w j)) else wc_s0 w i d j := rfl
theorem wc_rx_bd {d : Nat → Nat} {t b : Nat} (h : wc_Bd d) (h1 : 1 ≤ t) (h2 : t < 64) (hb : b ≠ 0) (hb6 : b ≤ 6) : wc_Bd (wc_rx d t b) := by
  by_cases g : wc_ok d t b
  · rw [wc_rx_ok g]
    exact h
  · rw [wc_rx_no g]
    refine wc_set_bd hb g ?_ h
    have := wc_set_new (y := 0) hb g h1 h2 (by omega)
    omega
theorem wc_s0_bd {w : Nat → Nat} {c i : Nat} {d : Nat → Nat} (hw : ∀ k, k < c → 2 ≤ w k ∧ w k < 128) (hi : i < c) (h : wc_Bd d) : ∀ j, j ≤ c → wc_Bd (wc_s0 w i d j)
  | 0, _ => h
  | j + 1, hj => by
    have ih := wc_s0_bd hw hi h j (by omega)
    rw [wc_s0_s]
    split
    · rename_i g
      have a := wc_rs_in (hw i hi).1 (hw j (by omega)).1 (hw j (by omega)).2 (wc_bg_lt g)
      have b := wc_lg7 (hw j (by omega)).1 (hw j (by omega)).2
      exact wc_rx_bd ih (by omega) a.2.1 (by omega) b.2
    · exact ih
theorem wc_s1_bd {w : Nat → Nat} {c : Nat} (hw : ∀ k, k < c → 2 ≤ w k ∧ w k < 128) : ∀ i, i ≤ c → wc_Bd (wc_s1 w c i)
  | 0, _ => fun _ _ _ => Nat.zero_le _
  | i + 1, hi => wc_s0_bd hw (by omega) (wc_s1_bd hw i (by omega)) c (Nat.le_refl c)
/-! turned words -/
def wc_tq (x : Nat) : Nat → Nat
  | 0 => 1
  | p + 1 => 2 * wc_tq x p + x / 2 ^ p % 2
def wc_tu (x : Nat) : Nat := wc_tq x (Nat.log2 x)
theorem wc_tu_tab : ∀ x, x < 128 → 2 ≤ x → 2 ≤ wc_tu x ∧ wc_tu x < 128 ∧ wc_tu (wc_tu x) = x := by decide +kernel
theorem wc_tu_inj {w : Nat → Nat} {c : Nat} (hw : ∀ k, k < c → 2 ≤ w k ∧ w k < 128) (h : wc_Inj w c) : wc_Inj (fun k => wc_tu (w k)) c := by
  intro i j hi hj e
  have a := (wc_tu_tab (w i) (hw i hi).2 (hw i hi).1).2.2
  have b := (wc_tu_tab (w j) (hw j hj).2 (hw j hj).1).2.2
  have e : wc_tu (w i) = wc_tu (w j) := e
  rw [e, b] at a
  exact h i j hi hj a.symm
end
section
/-! tables filled from the end, or from the start -/
def wc_tb (H : (Nat → Nat) → Nat → Nat) (z n : Nat) : Nat → (Nat → Nat)
  | 0 => fun _ => z
  | d + 1 => wc_set (wc_tb H z n d) (n - 1 - d) (H (wc_tb H z n d) (n - 1 - d))
theorem wc_tb_s {H : (Nat → Nat) → Nat → Nat} {z n d : Nat} : wc_tb H z n (d + 1) = wc_set (wc_tb H z n d) (n - 1 - d) (H (wc_tb H z n d) (n - 1 - d)) := rfl
theorem wc_tb_stab {H : (Nat → Nat) → Nat → Nat} {z n : Nat} {d j : Nat} (hj : n - d ≤ j) : ∀ e, d + e ≤ n → wc_tb H z n (d + e) j = wc_tb H z n d j
  | 0, _ => rfl
  | e + 1, he => by
    rw [show d + (e + 1) = (d + e) + 1 from rfl, wc_tb_s, wc_set_n (by omega)]
    exact wc_tb_stab hj e (by omega)
theorem wc_tb_all {H : (Nat → Nat) → Nat → Nat} {z n : Nat} {d j : Nat} (hj : n - d ≤ j) (hd : d ≤ n) : wc_tb H z n n j = wc_tb H z n d j := by
  have h := wc_tb_stab (H := H) (z := z) hj (n - d) (by omega)
  rw [show d + (n - d) = n by omega] at h
  exact h
theorem wc_tb_fix {H : (Nat → Nat) → Nat → Nat} {z n : Nat} (hH : ∀ F F' p, p < n → (∀ j, p < j → j ≤ n → F j = F' j) → H F p = H F' p) : wc_tb H z n n n = z ∧ ∀ p, p < n → wc_tb H z n n p = H (wc_tb H z n n) p := by
  refine ⟨?_, fun p hp => ?_⟩
  · rw [wc_tb_all (H := H) (z := z) (n := n) (d := 0) (j := n) (by omega) (by omega)]
    rfl
  · rw [wc_tb_all (H := H) (z := z) (n := n) (d := n - 1 - p + 1) (j := p) (by omega) (by omega), wc_tb_s, show n - 1 - (n - 1 - p) = p by omega, wc_set_s]
    exact hH _ _ p hp (fun j h1 h2 => (wc_tb_all (by omega) (by omega)).symm)
def wc_HW (w : Nat → Nat) (c code n : Nat) (F : Nat → Nat) (p : Nat) : Nat := wc_sum (wc_thr w code n F 0 p) c
def wc_HG (w : Nat → Nat) (c code n : Nat) (F : Nat → Nat) (p : Nat) : Nat := wc_mn (wc_thr w code n F 99 p) c
theorem wc_thr_congr {w : Nat → Nat} {c code n : Nat} (hs : wc_Set w c) {F F' : Nat → Nat} {p z : Nat} (h : ∀ j, p < j → j ≤ n → F j = F' j) : ∀ k, k < c → wc_thr w code n F z p k = wc_thr w code n F' z p k := by
  intro k hk
  by_cases hst : wc_st code n p (w k) = true
  · rw [wc_thr_t hst, wc_thr_t hst]
    have h1 := wc_lg1 (hs.2.2 k hk).1
    have h2 := wc_st_le hst
    exact h _ (by omega) (by omega)
  · rw [wc_thr_f hst, wc_thr_f hst]
/-- the table of readings -/
def wc_wf (w : Nat → Nat) (c code n : Nat) : Nat → (Nat → Nat) := wc_tb (wc_HW w c code n) 1 n
/-- the table of fewest words -/
def wc_gf (w : Nat → Nat) (c code n : Nat) : Nat → (Nat → Nat) := wc_tb (wc_HG w c code n) 0 n
theorem wc_wf_s {w : Nat → Nat} {c code n d : Nat} : wc_wf w c code n (d + 1) = wc_set (wc_wf w c code n d) (n - 1 - d) (wc_sum (wc_thr w code n (wc_wf w c code n d) 0 (n - 1 - d)) c) := rfl
theorem wc_gf_s {w : Nat → Nat} {c code n d : Nat} : wc_gf w c code n (d + 1) = wc_set (wc_gf w c code n d) (n - 1 - d) (wc_mn (wc_thr w code n (wc_gf w c code n d) 99 (n - 1 - d)) c) := rfl
theorem wc_wf_W {w : Nat → Nat} {c code n : Nat} (hs : wc_Set w c) : wc_W w c code n (wc_wf w c code n n) :=
  wc_tb_fix (fun _ _ _ _ h => wc_sum_congr (wc_thr_congr hs h))
theorem wc_gf_G {w : Nat → Nat} {c code n : Nat} (hs : wc_Set w c) : wc_G w c code n (wc_gf w c code n n) :=
  wc_tb_fix (fun _ _ _ _ h => wc_mn_congr (wc_thr_congr hs h))
/-- while the tables are filled: what stands from p on -/
theorem wc_wf_d {w : Nat → Nat} {c code n d j : Nat} (hj : n - d ≤ j) (hd : d ≤ n) : wc_wf w c code n d j = wc_wf w c code n n j := (wc_tb_all hj hd).symm
theorem wc_gf_d {w : Nat → Nat} {c code n d j : Nat} (hj : n - d ≤ j) (hd : d ≤ n) : wc_gf w c code n d j = wc_gf w c code n n j := (wc_tb_all hj hd).symm
/-! sequences of words by their bits -/
def wc_tt (w F : Nat → Nat) (b k : Nat) : Nat := if Nat.log2 (w k) ≤ b then F (b - Nat.log2 (w k)) else 0
def wc_tf (w : Nat → Nat) (c : Nat) : Nat → (Nat → Nat)
  | 0 => fun _ => 1
  | b + 1 => wc_set (wc_tf w c b) (b + 1) (wc_sum (wc_tt w (wc_tf w c b) (b + 1)) c)
end
section
/-! the small methods of both: sizes, lengths, where a word stands, beginnings, rests -/
theorem wn_4 {k : Nat} (h : k < 2 ^ 31) : ¬ nI k = -4 := fun e => by
  have e2 := congrArg Int32.toInt e
  rw [nI_toInt h, show (-4 : Int32).toInt = -4 from by decide] at e2
  omega
theorem wn_1 {k : Nat} (h : k < 2 ^ 31) : ¬ nI k = -1 := fun e => by
  have e2 := congrArg Int32.toInt e
  rw [nI_toInt h, show (-1 : Int32).toInt = -1 from by decide] at e2
  omega
theorem wn_fuel {m f : Nat} (h : m < f) : ∃ g, f = g + 1 ∧ m ≤ g := ⟨f - 1, by omega, by omega⟩
def wc_XA (w : Nat → Nat) (c : Nat) (cd sz : Nat → Int32) : Prop := ∀ k, k < c → cd k = nI (w k) ∧ sz k = nI (Nat.log2 (w k))
def wc_YA (w : Nat → Nat) (c : Nat) (yw : Nat → Int32) : Prop := ∀ k, k < c → yw k = nI (w k)
theorem xa_c {w : Nat → Nat} {c : Nat} {cd sz : Nat → Int32} (h : wc_XA w c cd sz) (hc : c ≤ 6) {k : Nat} (hk : k < c) : cd (nI k).toNatClampNeg = nI (w k) := by
  rw [nI_clamp (by omega)]
  exact (h k hk).1
theorem xa_s {w : Nat → Nat} {c : Nat} {cd sz : Nat → Int32} (h : wc_XA w c cd sz) (hc : c ≤ 6) {k : Nat} (hk : k < c) : sz (nI k).toNatClampNeg = nI (Nat.log2 (w k)) := by
  rw [nI_clamp (by omega)]
  exact (h k hk).2
theorem ya_w {w : Nat → Nat} {c : Nat} {yw : Nat → Int32} (h : wc_YA w c yw) (hc : c ≤ 6) {k : Nat} (hk : k < c) : yw (nI k).toNatClampNeg = nI (w k) := by
  rw [nI_clamp (by omega)]
  exact h k hk
section
variable {rc rs : Int32} {cd sz tn wy fw sq rd rh : Nat → Int32} {cn yr : Int32} {yw ya ye yh : Nat → Int32}
theorem xs_sizeL {post : Int32 → Prop} {n : Nat} (h0 : 0 < n) (h : n < 128) (hp : post (nI (Nat.log2 n))) : ∀ m b f s, b + m = 7 → 1 ≤ b → m < f → (s = if Nat.log2 n < b then Nat.log2 n else b - 1) → wX_sizeOf_4 post (nI n) f (nI s) (nI b) := by
  intro m
  induction m with
  | zero =>
    intro b f s hb h1 hf hs
    obtain ⟨g, rfl, hg⟩ := wn_fuel hf
    have hl : Nat.log2 n < 7 := wc_lgu h0 h
    rw [if_pos (by omega)] at hs
    subst hs
    exact br_t (nI_lt (a := 6) (b := b) (by omega) (by omega)) hp
  | succ m ih =>
    intro b f s hb h1 hf hs
    obtain ⟨g, rfl, hg⟩ := wn_fuel hf
    refine br_f (nI_nlt (a := 6) (b := b) (by omega) (by decide)) ?_
    by_cases hlg : Nat.log2 n < b
    · have e : nI n >>> (nI b &&& 31) = 0 := by
        rw [wc_shr (by omega) (by omega), Nat.div_eq_of_lt ((Nat.log2_lt (by omega)).mp hlg)]
        exact nI_0
      refine br_t e (nm_r (nI_1 b) (ih (b + 1) g s (by omega) (by omega) (by omega) ?_))
      rw [if_pos hlg] at hs
      rw [if_pos (by omega)]
      exact hs
    · have e : ¬ nI n >>> (nI b &&& 31) = 0 := by
        rw [wc_shr (by omega) (by omega)]
        have p : 2 ^ b ≤ n := (Nat.le_log2 (by omega)).mp (by omega)
        have q := Nat.div_pos p (Nat.two_pow_pos b)
        exact nI_ne0 q (Nat.lt_of_le_of_lt (Nat.div_le_self _ _) (by omega))
      refine br_f e (nm_r (nI_1 b) (ih (b + 1) g b (by omega) (by omega) (by omega) ?_))
      split <;> omega
theorem xs_size {post : Int32 → Prop} {x : Int32} (n : Nat) (hx : x = nI n) (h0 : 0 < n) (h : n < 128) (hp : post (nI (Nat.log2 n))) : wpX_sizeOf post x := by
  subst hx
  refine ⟨7, xs_sizeL h0 h hp 6 1 7 0 (by omega) (by omega) (by omega) ?_⟩
  split <;> omega
theorem ys_lenL {post : Int32 → Prop} : ∀ f n s, Nat.log2 n < f → n < 2 ^ 31 → post (nI (s + Nat.log2 n)) → wY_length_4 post cn yr yw ya ye yh f (nI s) (nI n) := by
  intro f
  induction f with
  | zero => intro n s h; omega
  | succ f ih =>
    intro n s h hn hp
    by_cases h1 : n ≤ 1
    · rw [wc_lg0 (by omega)] at hp
      exact br_t (nI_le (a := n) (b := 1) h1 (by decide)) hp
    · have e := wc_lgh (n := n) (by omega)
      rw [e] at hp
      refine br_f (nI_ge (a := 1) (b := n) (by omega) hn) (nm_r (nI_1 s) ⟨by decide, nm_r (pk_div (d := 2) hn (by decide) (by decide)) (ih (n / 2) (s + 1) (by omega) (by omega) ?_)⟩)
      rw [show s + 1 + Nat.log2 (n / 2) = s + (Nat.log2 (n / 2) + 1) by omega]
      exact hp
theorem ys_len {post : Int32 → Prop} {x : Int32} (n : Nat) (hx : x = nI n) (h : n < 2 ^ 31) (hp : post (nI (Nat.log2 n))) : wpY_length post (cn, yr, yw, ya, ye, yh) x := by
  subst hx
  refine ⟨Nat.log2 n + 1, ys_lenL (Nat.log2 n + 1) n 0 (by omega) h ?_⟩
  rw [Nat.zero_add]
  exact hp
theorem xs_stands {post : Int32 → Prop} {w : Nat → Nat} {c code n p k : Nat} (hs : wc_Set w c) (hA : wc_XA w c cd sz) (hcode : code < 2 ^ 31) (hn : n ≤ 16) (hp : p ≤ n) (hk : k < c)
    (h1 : wc_st code n p (w k) = true → post 1) (h0 : ¬ wc_st code n p (w k) = true → post 0) : wpX_standsAt post (cn, rc, rs, cd, sz, tn, wy, fw, sq, rd, rh) (nI code) (nI n) (nI p) (nI k) := by
  have h6 := hs.1
  have hw := hs.2.2 k hk
  have hm := wc_lg7 hw.1 hw.2
  have hi : vp_in (nI k) 6 := vp_in_nI (by omega) (by decide)
  unfold wpX_standsAt
  dsimp only
  rw [xa_s hA h6 hk, xa_c hA h6 hk]
  rw [wc_st_iff] at h1 h0
  generalize hM : Nat.log2 (w k) = m at *
  have hge : 2 ^ m ≤ w k := by rw [← hM]; exact wc_lge (by omega)
  refine ⟨hi, nm_r (nI_add p m) ?_⟩
  by_cases hle : p + m ≤ n
  · refine br_t (nI_le hle (by omega)) ⟨hi, nm_r (wc_mk (by omega)) (nm_r (e' := nI (2 ^ m + code / 2 ^ (n - (p + m)) % 2 ^ m)) ?_ ⟨hi, ?_⟩)⟩
    · rw [pk_sub hle, wc_shr hcode (by omega), wc_mm, wc_low, wc_mark]
    · have q1 := Nat.mod_lt (code / 2 ^ (n - (p + m))) (Nat.two_pow_pos m)
      have q2 : 2 ^ m ≤ 2 ^ 6 := wc_p2 (by omega)
      have q3 : 2 ^ 6 = 64 := by decide
      refine pk_eq (2 ^ m + code / 2 ^ (n - (p + m)) % 2 ^ m) (w k) (fun e => h1 ⟨hle, by omega⟩) (fun e => h0 (fun z => e (by omega)))
  · exact br_f (nI_ge (by omega) (by omega)) (h0 (fun z => hle z.1))
theorem xs_ways {post : Int32 → Prop} {w : Nat → Nat} {c code n p k : Nat} {F : Nat → Nat} (hs : wc_Set w c) (hA : wc_XA w c cd sz) (hcode : code < 2 ^ 31) (hn : n ≤ 16) (hp : p < n) (hk : k < c)
    (hW : ∀ j, p < j → j ≤ n → wy j = nI (F j)) (h : post (nI (wc_thr w code n F 0 p k))) : wpX_waysThrough post (cn, rc, rs, cd, sz, tn, wy, fw, sq, rd, rh) (nI code) (nI n) (nI p) (nI k) := by
  have h6 := hs.1
  have hw := hs.2.2 k hk
  have hm := wc_lg7 hw.1 hw.2
  unfold wpX_waysThrough
  dsimp only
  refine xs_stands hs hA hcode hn (by omega) hk (fun z => ?_) (fun z => ?_)
  · rw [wc_thr_t z] at h
    have hl := wc_st_le z
    refine br_f (by decide) ⟨vp_in_nI (by omega) (by decide), ?_⟩
    rw [xa_s hA h6 hk, nI_add]
    refine ⟨vp_in_nI (by omega) (by decide), ?_⟩
    rw [nI_clamp (by omega), hW _ (by omega) hl]
    exact h
  · rw [wc_thr_f z] at h
    exact br_t rfl h
theorem ys_stands {post : Int32 → Prop} {x : Int32} {code n p : Nat} (b : Nat) (hx : x = nI b) (hb : 2 ≤ b) (hb7 : b < 128) (hcode : code < 2 ^ 31) (hn : n ≤ 16) (hp : p ≤ n)
    (h1 : wc_st code n p b = true → post 1) (h0 : ¬ wc_st code n p b = true → post 0) : wpY_stands post (cn, yr, yw, ya, ye, yh) (nI code) (nI n) (nI p) x := by
  subst hx
  have hm := wc_lg7 hb hb7
  unfold wpY_stands
  dsimp only
  refine ys_len b rfl (by omega) ?_
  rw [wc_st_iff] at h1 h0
  have hge : 2 ^ Nat.log2 b ≤ b := wc_lge (by omega)
  generalize hM : Nat.log2 b = m at *
  rw [nI_add]
  by_cases hle : p + m ≤ n
  · refine br_t (nI_le hle (by omega)) ?_
    rw [pk_sub hp, pk_sub (by omega), wc_shr hcode (by omega), wc_mk (by omega), wc_mm, wc_low, pk_sub hge, Nat.sub_sub]
    have q1 := Nat.mod_lt (code / 2 ^ (n - (p + m))) (Nat.two_pow_pos m)
    have q2 : 2 ^ m ≤ 2 ^ 6 := wc_p2 (by omega)
    have q3 : 2 ^ 6 = 64 := by decide
    exact pk_eq (code / 2 ^ (n - (p + m)) % 2 ^ m) (b - 2 ^ m) (fun e => h1 ⟨hle, e⟩) (fun e => h0 (fun z => e z.2))
  · exact br_f (nI_ge (by omega) (by omega)) (h0 (fun z => hle z.1))
theorem wc_bg_iff {a b : Nat} : wc_bg a b = true ↔ Nat.log2 a < Nat.log2 b ∧ b / 2 ^ (Nat.log2 b - Nat.log2 a) = a := by
  unfold wc_bg
  rw [Bool.and_eq_true, decide_eq_true_eq, decide_eq_true_eq]
theorem xs_begin {post : Int32 → Prop} {x y : Int32} (a b : Nat) (hx : x = nI a) (hy : y = nI b) (ha : 2 ≤ a) (ha7 : a < 128) (hb : 2 ≤ b) (hb7 : b < 128)
    (h1 : wc_bg a b = true → post 1) (h0 : ¬ wc_bg a b = true → post 0) : wpX_isBeginning post x y := by
  subst hx hy
  have hm := wc_lg7 ha ha7
  have hn := wc_lg7 hb hb7
  rw [wc_bg_iff] at h1 h0
  unfold wpX_isBeginning
  refine xs_size b rfl (by omega) hb7 (xs_size a rfl (by omega) ha7 ?_)
  by_cases hlt : Nat.log2 a < Nat.log2 b
  · refine nm_r (pk_sub (by omega)) (br_f (nI_nle (by omega) (by omega)) ?_)
    rw [wc_shr (by omega) (by omega)]
    have q := Nat.div_le_self b (2 ^ (Nat.log2 b - Nat.log2 a))
    exact pk_eq (b / 2 ^ (Nat.log2 b - Nat.log2 a)) a (fun e => h1 ⟨hlt, e⟩) (fun e => h0 (fun z => e z.2))
  · refine nm_e (br_t ?_ (h0 (fun z => hlt z.1)))
    rw [Int32.le_iff_toInt_le, pk_sub_toInt (by omega) (by omega), show (0 : Int32).toInt = 0 from by decide]
    omega
theorem xs_rest {post : Int32 → Prop} {x y : Int32} (a b : Nat) (hx : x = nI a) (hy : y = nI b) (ha : 2 ≤ a) (ha7 : a < 128) (hb : 2 ≤ b) (hb7 : b < 128) (hlt : Nat.log2 a < Nat.log2 b)
    (h : post (nI (wc_rs a b))) : wpX_restBehind post x y := by
  subst hx hy
  have hm := wc_lg7 ha ha7
  have hn := wc_lg7 hb hb7
  unfold wpX_restBehind
  refine xs_size b rfl (by omega) hb7 (xs_size a rfl (by omega) ha7 ?_)
  rw [pk_sub (by omega)]
  refine nm_r (wc_mk (by omega)) ?_
  rw [wc_mm, wc_low, wc_mark]
  exact h
theorem ys_begin {post : Int32 → Prop} {x y : Int32} (a b : Nat) (hx : x = nI a) (hy : y = nI b) (ha : 2 ≤ a) (ha7 : a < 128) (hb : 2 ≤ b) (hb7 : b < 128)
    (h1 : wc_bg a b = true → post 1) (h0 : ¬ wc_bg a b = true → post 0) : wpY_begins post (cn, yr, yw, ya, ye, yh) x y := by
  subst hx hy
  have hm := wc_lg7 ha ha7
  have hn := wc_lg7 hb hb7
  rw [wc_bg_iff] at h1 h0
  unfold wpY_begins
  dsimp only
  refine ys_len a rfl (by omega) (ys_len b rfl (by omega) ?_)
  by_cases hlt : Nat.log2 a < Nat.log2 b
  · refine br_f (nI_ge hlt (by omega)) ?_
    rw [pk_sub (by omega), wc_shr (by omega) (by omega)]
    have q := Nat.div_le_self b (2 ^ (Nat.log2 b - Nat.log2 a))
    exact pk_eq (b / 2 ^ (Nat.log2 b - Nat.log2 a)) a (fun e => h1 ⟨hlt, e⟩) (fun e => h0 (fun z => e z.2))
  · exact br_t (nI_le (by omega) (by omega)) (h0 (fun z => hlt z.1))
theorem ys_rest {post : Int32 → Prop} {x y : Int32} (a b : Nat) (hx : x = nI b) (hy : y = nI (Nat.log2 a)) (hb : 2 ≤ b) (hb7 : b < 128) (hlt : Nat.log2 a < Nat.log2 b)
    (h : post (nI (wc_rs a b))) : wpY_rest post (cn, yr, yw, ya, ye, yh) x y := by
  subst hx hy
  have hn := wc_lg7 hb hb7
  unfold wpY_rest
  dsimp only
  refine ys_len b rfl (by omega) (nm_r (pk_sub (by omega)) ?_)
  rw [wc_mk (by omega), wc_mm, wc_low, nI_add]
  exact h
end
end
section
/-! the relation, and the methods without tables -/
/-- the same words, rising; X keeps their sizes beside them; the same row; X keeps its length -/
def i_Rel (_ : Nat) (u : SX) (v : SY) : Prop := ∃ (c R : Nat) (w : Nat → Nat) (cd sz tn wy fw sq rd rh yw ya ye yh : Nat → Int32),
  u = (nI c, nI R, nI (Nat.log2 R), cd, sz, tn, wy, fw, sq, rd, rh) ∧ v = (nI c, nI R, yw, ya, ye, yh) ∧ wc_Set w c ∧ wc_XA w c cd sz ∧ wc_YA w c yw ∧ 0 < R ∧ R < 131072
theorem i_up {k : Nat} {u : SX} {v : SY} (h : i_Rel k u v) : i_Rel (k + 3) u v := h
theorem i_mk {k c R : Nat} {w : Nat → Nat} {cd sz tn wy fw sq rd rh yw ya ye yh : Nat → Int32} (hs : wc_Set w c) (hX : wc_XA w c cd sz) (hY : wc_YA w c yw) (h0 : 0 < R) (h1 : R < 131072) :
    i_Rel k (nI c, nI R, nI (Nat.log2 R), cd, sz, tn, wy, fw, sq, rd, rh) (nI c, nI R, yw, ya, ye, yh) :=
  ⟨c, R, w, cd, sz, tn, wy, fw, sq, rd, rh, yw, ya, ye, yh, rfl, rfl, hs, hX, hY, h0, h1⟩
theorem wn_l1 : nI (Nat.log2 1) = 0 := by decide +kernel
theorem wn_r16 {R : Nat} (h0 : 0 < R) (h1 : R < 131072) : Nat.log2 R ≤ 16 := by
  have := wc_lgu (k := 17) h0 h1
  omega
theorem wn_ge {x : Int32} {c : Nat} (hc : c < 2 ^ 31) (z : nI c ≤ x) : ¬ x < 0 ∧ ¬ x < nI c := ⟨Int32.not_lt.mpr (Int32.le_trans (nI_pos' hc) z), Int32.not_lt.mpr z⟩
theorem i_vc0 : wpX_init (fun u => wpY_init (fun v => i_Rel 0 u v)) := by
  have J : i_Rel 0 (nI 0, nI 1, nI (Nat.log2 1), (fun _ => 0), (fun _ => 0), (fun _ => 0), (fun _ => 0), (fun _ => 0), (fun _ => 0), (fun _ => 0), (fun _ => 0)) (nI 0, nI 1, (fun _ => 0), (fun _ => 0), (fun _ => 0), (fun _ => 0)) :=
    i_mk (w := fun _ => 0) ⟨by omega, fun i j _ h => absurd h (Nat.not_lt_zero j), fun k h => absurd h (Nat.not_lt_zero k)⟩ (fun k h => absurd h (Nat.not_lt_zero k)) (fun k h => absurd h (Nat.not_lt_zero k)) (by omega) (by omega)
  rw [wn_l1] at J
  exact J
theorem i_vc_word {k : Nat} {u : SX} {v : SY} (I : i_Rel k u v) (hk : k + 3 ≤ 1536) (v1 : Int32) : wpX_word (fun r => wpY_word (fun r' => r' = r ∧ i_Rel (k + 3) u v) v v1) u v1 := by
  obtain ⟨c, R, w, cd, sz, tn, wy, fw, sq, rd, rh, yw, ya, ye, yh, rfl, rfl, hs, hX, hY, h0, h1⟩ := I
  have J : i_Rel (k + 3) (nI c, nI R, nI (Nat.log2 R), cd, sz, tn, wy, fw, sq, rd, rh) (nI c, nI R, yw, ya, ye, yh) := i_mk hs hX hY h0 h1
  have h6 := hs.1
  unfold wpX_word wpX_hasWord wpY_word
  dsimp only
  rcases pk_ix v1 (n := c) (by omega) with z | z | ⟨j, hj, rfl⟩
  · exact br_t z (br_t rfl (br_t z ⟨rfl, J⟩))
  · have g := wn_ge (by omega) z
    exact br_f g.1 (br_t z (br_t rfl (br_f g.1 (br_f g.2 ⟨rfl, J⟩))))
  · have p : ¬ nI j < 0 := nI_pos (by omega)
    refine br_f p (br_f (nI_ge hj (by omega)) (br_f (by decide) ⟨vp_in_nI (by omega) (by decide), br_f p (br_t (nI_lt hj (by omega)) ⟨vp_in_nI (by omega) (by decide), ?_, J⟩)⟩))
    rw [xa_c hX h6 hj, ya_w hY h6 hj]
theorem i_vc_words {k : Nat} {u : SX} {v : SY} (I : i_Rel k u v) (hk : k + 3 ≤ 1536) : wpX_words (fun r => wpY_words (fun r' => r' = r ∧ i_Rel (k + 3) u v) v) u := by
  obtain ⟨c, R, w, cd, sz, tn, wy, fw, sq, rd, rh, yw, ya, ye, yh, rfl, rfl, hs, hX, hY, h0, h1⟩ := I
  exact ⟨rfl, i_mk hs hX hY h0 h1⟩
theorem i_vc_row {k : Nat} {u : SX} {v : SY} (I : i_Rel k u v) (hk : k + 3 ≤ 1536) : wpX_row (fun r => wpY_row (fun r' => r' = r ∧ i_Rel (k + 3) u v) v) u := by
  obtain ⟨c, R, w, cd, sz, tn, wy, fw, sq, rd, rh, yw, ya, ye, yh, rfl, rfl, hs, hX, hY, h0, h1⟩ := I
  exact ⟨rfl, i_mk hs hX hY h0 h1⟩
theorem i_vc_clear {k : Nat} {u : SX} {v : SY} (I : i_Rel k u v) (hk : k + 3 ≤ 1536) : wpX_clear (fun r u' => wpY_clear (fun r' v' => r' = r ∧ i_Rel (k + 3) u' v') v) u := by
  obtain ⟨c, R, w, cd, sz, tn, wy, fw, sq, rd, rh, yw, ya, ye, yh, rfl, rfl, hs, hX, hY, h0, h1⟩ := I
  have J : i_Rel (k + 3) (nI c, nI 1, nI (Nat.log2 1), cd, sz, tn, wy, fw, sq, rd, rh) (nI c, nI 1, yw, ya, ye, yh) := i_mk hs hX hY (by omega) (by omega)
  rw [wn_l1] at J
  unfold wpX_clear wpY_clear
  dsimp only
  exact ys_len R rfl (by omega) ⟨rfl, J⟩
theorem i_vc_bit {k : Nat} {u : SX} {v : SY} (I : i_Rel k u v) (hk : k + 3 ≤ 1536) (v1 : Int32) : wpX_bit (fun r u' => wpY_bit (fun r' v' => r' = r ∧ i_Rel (k + 3) u' v') v v1) u v1 := by
  obtain ⟨c, R, w, cd, sz, tn, wy, fw, sq, rd, rh, yw, ya, ye, yh, rfl, rfl, hs, hX, hY, h0, h1⟩ := I
  have J : i_Rel (k + 3) (nI c, nI R, nI (Nat.log2 R), cd, sz, tn, wy, fw, sq, rd, rh) (nI c, nI R, yw, ya, ye, yh) := i_mk hs hX hY h0 h1
  have h16 := wn_r16 h0 h1
  have key : ∀ b, b < 2 → wX_bit_11 (fun r u' => wpY_bit (fun r' v' => r' = r ∧ i_Rel (k + 3) u' v') (nI c, nI R, yw, ya, ye, yh) (nI b)) (nI b) (nI c) (nI R) (nI (Nat.log2 R)) cd sz tn wy fw sq rd rh := by
    intro b hb
    have e3 := wc_lgb h0 hb
    have e1 : 2 * nI R + nI b = nI (2 * R + b) := (congrArg (fun x => x + nI b) (pk_mul 2 R)).trans (nI_add _ _)
    have e2 : nI (Nat.log2 R) + 1 = nI (Nat.log2 (2 * R + b)) := by
      rw [e3]
      exact nI_1 _
    have p : ¬ nI b < 0 := nI_pos (by omega)
    have q : nI b ≤ 1 := nI_le (a := b) (b := 1) (by omega) (by decide)
    unfold wX_bit_11 wpY_bit
    dsimp only
    by_cases h : Nat.log2 R < 16
    · refine br_t (nI_lt (b := 16) h (by decide)) (nm_r e1 (nm_r e2 (br_f p (br_t q (ys_len R rfl (by omega) (br_f (fun z => ?_) (nm_r e1 ⟨e2, i_mk hs hX hY (by omega) ?_⟩)))))))
      · have := (nI_eq (a := Nat.log2 R) (b := 16) (by omega) (by decide)).mp z
        omega
      · have := (Nat.log2_lt (n := 2 * R + b) (k := 17) (by omega)).mp (by omega)
        omega
    · have e : Nat.log2 R = 16 := by omega
      refine br_f (nI_nlt (b := 16) (by omega) (by omega)) (br_f p (br_t q (ys_len R rfl (by omega) (br_t ?_ ⟨rfl, J⟩))))
      rw [e]
      rfl
  have Yb : ∀ post : Int32 → SY → Prop, ¬ v1 = 0 → ¬ v1 = 1 → post (-1) (nI c, nI R, yw, ya, ye, yh) → wpY_bit post (nI c, nI R, yw, ya, ye, yh) v1 := by
    intro post a b hp
    by_cases n : v1 < 0
    · exact br_t n hp
    · refine br_f n (br_f ?_ hp)
      obtain ⟨j, hj, rfl⟩ := nI_of n
      have a1 : j ≠ 0 := fun e => a (by rw [e]; exact nI_0)
      have b1 : j ≠ 1 := fun e => b (by rw [e]; rfl)
      exact nI_ge (a := 1) (by omega) hj
  by_cases z : v1 = 0
  · subst z
    exact br_t rfl (key 0 (by omega))
  · by_cases z1 : v1 = 1
    · subst z1
      exact br_f z (br_t rfl (key 1 (by omega)))
    · exact br_f z (br_f z1 (Yb _ z z1 ⟨rfl, J⟩))
theorem i_vc_append {k : Nat} {u : SX} {v : SY} (I : i_Rel k u v) (hk : k + 3 ≤ 1536) (v1 : Int32) : wpX_append (fun r u' => wpY_append (fun r' v' => r' = r ∧ i_Rel (k + 3) u' v') v v1) u v1 := by
  obtain ⟨c, R, w, cd, sz, tn, wy, fw, sq, rd, rh, yw, ya, ye, yh, rfl, rfl, hs, hX, hY, h0, h1⟩ := I
  have J : i_Rel (k + 3) (nI c, nI R, nI (Nat.log2 R), cd, sz, tn, wy, fw, sq, rd, rh) (nI c, nI R, yw, ya, ye, yh) := i_mk hs hX hY h0 h1
  have h6 := hs.1
  have h16 := wn_r16 h0 h1
  unfold wpX_append wpX_hasWord wpY_append
  dsimp only
  rcases pk_ix v1 (n := c) (by omega) with z | z | ⟨j, hj, rfl⟩
  · exact br_t z (br_t rfl (br_t z ⟨rfl, J⟩))
  · have g := wn_ge (by omega) z
    exact br_f g.1 (br_t z (br_t rfl (br_f g.1 (br_f g.2 ⟨rfl, J⟩))))
  · have p : ¬ nI j < 0 := nI_pos (by omega)
    have hi : vp_in (nI j) 6 := vp_in_nI (by omega) (by decide)
    have hi7 : vp_in (nI j) 7 := vp_in_nI (by omega) (by decide)
    have hw := hs.2.2 j hj
    have hm := wc_lg7 hw.1 hw.2
    have hge := wc_lge (a := w j) (by omega)
    have hL := wc_lga h0 hw.1
    rw [xa_c hX h6 hj, xa_s hX h6 hj, ya_w hY h6 hj]
    refine br_f p (br_f (nI_ge hj (by omega)) (br_f (by decide) ⟨hi, ?_⟩))
    rw [nI_add]
    by_cases h : Nat.log2 R + Nat.log2 (w j) ≤ 16
    · have hb : R * 2 ^ Nat.log2 (w j) + (w j - 2 ^ Nat.log2 (w j)) < 2 ^ 17 := (Nat.log2_lt (by have := Nat.mul_pos h0 (Nat.two_pow_pos (Nat.log2 (w j))); omega)).mp (by omega)
      have e17 : 2 ^ 17 = 131072 := by decide
      have e1 : nI R <<< (nI (Nat.log2 (w j)) &&& 31) = nI (R * 2 ^ Nat.log2 (w j)) := wc_shl (by omega) (by omega)
      have e2 : nI (w j) - (1 : Int32) <<< (nI (Nat.log2 (w j)) &&& 31) = nI (w j - 2 ^ Nat.log2 (w j)) := by
        rw [wc_mk (by omega), pk_sub hge]
      have e3 : nI R <<< (nI (Nat.log2 (w j)) &&& 31) + nI (w j - 2 ^ Nat.log2 (w j)) = nI (R * 2 ^ Nat.log2 (w j) + (w j - 2 ^ Nat.log2 (w j))) := by
        rw [e1, nI_add]
      have e4 : nI R <<< (nI (Nat.log2 (w j)) &&& 31) + nI (w j) - (1 : Int32) <<< (nI (Nat.log2 (w j)) &&& 31) = nI (R * 2 ^ Nat.log2 (w j) + (w j - 2 ^ Nat.log2 (w j))) := by
        rw [e1, wc_mk (by omega), nI_add, pk_sub (by omega)]
        exact congrArg nI (by omega)
      have K : i_Rel (k + 3) (nI c, nI (R * 2 ^ Nat.log2 (w j) + (w j - 2 ^ Nat.log2 (w j))), nI (Nat.log2 R + Nat.log2 (w j)), cd, sz, tn, wy, fw, sq, rd, rh) (nI c, nI (R * 2 ^ Nat.log2 (w j) + (w j - 2 ^ Nat.log2 (w j))), yw, ya, ye, yh) := by
        rw [← hL]
        exact i_mk hs hX hY (by have := Nat.mul_pos h0 (Nat.two_pow_pos (Nat.log2 (w j))); omega) (by omega)
      have le16 : nI (Nat.log2 R + Nat.log2 (w j)) ≤ 16 := nI_le (b := 16) h (by decide)
      exact br_t le16 ⟨hi, hi, nm_r e2 ⟨hi, nm_r e3 ⟨hi, nm_e (br_f p (br_t (nI_lt hj (by omega)) ⟨hi7, ys_len (w j) rfl (by omega) (ys_len R rfl (by omega) (nm_r (nI_add _ _) (br_t le16 ⟨hi7, nm_r e4 ⟨rfl, K⟩⟩)))⟩))⟩⟩⟩
    · have gt16 : ¬ nI (Nat.log2 R + Nat.log2 (w j)) ≤ 16 := nI_ge (a := 16) (by omega) (by omega)
      exact br_f gt16 (br_f p (br_t (nI_lt hj (by omega)) ⟨hi7, ys_len (w j) rfl (by omega) (ys_len R rfl (by omega) (nm_r (nI_add _ _) (br_f gt16 ⟨rfl, J⟩)))⟩))
end
section
/-! free and weight -/
section
variable {rc rs : Int32} {cd sz tn wy fw sq rd rh : Nat → Int32} {yr : Int32} {yw ya ye yh : Nat → Int32} {w : Nat → Nat} {c : Nat}
theorem xf_in {post : Int32 → Prop} {J : Int32 → Prop} (hs : wc_Set w c) (hA : wc_XA w c cd sz) {i : Nat} (hi : i < c) : ∀ m j f, j + m = c → m < f →
    ((∃ j', j ≤ j' ∧ j' < c ∧ wc_bg (w i) (w j') = true) → post 0) → ((∀ j', j ≤ j' → j' < c → ¬ wc_bg (w i) (w j') = true) → J (nI (i + 1))) → wX_free_12 post J (nI i) (nI c) rc rs cd sz tn wy fw sq rd rh f (nI j) := by
  have h6 := hs.1
  intro m
  induction m with
  | zero =>
    intro j f hj hf a b
    obtain ⟨g, rfl, hg⟩ := wn_fuel hf
    exact br_t (nI_le (by omega) (by omega)) (nm_r (nI_1 i) (b (fun j' q1 q2 => by omega)))
  | succ m ih =>
    intro j f hj hf a b
    obtain ⟨g, rfl, hg⟩ := wn_fuel hf
    have hwi := hs.2.2 i hi
    have hwj := hs.2.2 j (by omega)
    refine br_f (nI_ge (by omega) (by omega)) ⟨vp_in_nI (by omega) (by decide), vp_in_nI (by omega) (by decide), ?_⟩
    refine xs_begin (w i) (w j) (xa_c hA h6 hi) (xa_c hA h6 (by omega)) hwi.1 hwi.2 hwj.1 hwj.2 (fun z => ?_) (fun z => ?_)
    · exact br_f (by decide) (a ⟨j, Nat.le_refl _, by omega, z⟩)
    · refine br_t rfl (nm_r (nI_1 j) (ih (j + 1) g (by omega) (by omega) ?_ ?_))
      · exact fun ⟨j', q1, q2, q3⟩ => a ⟨j', by omega, q2, q3⟩
      · intro q
        refine b (fun j' q1 q2 => ?_)
        rcases Nat.lt_or_ge j j' with y | y
        · exact q j' y q2
        · have e : j' = j := by omega
          rw [e]
          exact z
theorem xf_out {post : Int32 → Prop} (hs : wc_Set w c) (hA : wc_XA w c cd sz) : ∀ m i f, i + m = c → m < f →
    ((∃ i' j', i ≤ i' ∧ i' < c ∧ j' < c ∧ wc_bg (w i') (w j') = true) → post 0) → ((∀ i' j', i ≤ i' → i' < c → j' < c → ¬ wc_bg (w i') (w j') = true) → post 1) → wX_free_2 post (nI c) rc rs cd sz tn wy fw sq rd rh f (nI i) := by
  have h6 := hs.1
  intro m
  induction m with
  | zero =>
    intro i f hi hf a b
    obtain ⟨g, rfl, hg⟩ := wn_fuel hf
    exact br_t (nI_le (by omega) (by omega)) (b (fun i' j' q1 q2 => by omega))
  | succ m ih =>
    intro i f hi hf a b
    obtain ⟨g, rfl, hg⟩ := wn_fuel hf
    refine br_f (nI_ge (by omega) (by omega)) ⟨c + 1, xf_in hs hA (by omega) c 0 (c + 1) (by omega) (by omega) ?_ ?_⟩
    · exact fun ⟨j', _, q2, q3⟩ => a ⟨i, j', Nat.le_refl _, by omega, q2, q3⟩
    · intro q
      refine ih (i + 1) g (by omega) (by omega) ?_ ?_
      · exact fun ⟨i', j', q1, q2, q3, q4⟩ => a ⟨i', j', by omega, q2, q3, q4⟩
      · intro y
        refine b (fun i' j' q1 q2 q3 => ?_)
        rcases Nat.lt_or_ge i i' with x | x
        · exact y i' j' x q2 q3
        · have e : i' = i := by omega
          rw [e]
          exact q j' (Nat.zero_le _) q3
theorem yf_in {post : Int32 → Prop} {J : Int32 → Prop} (hs : wc_Set w c) (hA : wc_YA w c yw) {i : Nat} (hi : i < c) : ∀ m j f, j + m = c → m < f →
    ((∃ j', j ≤ j' ∧ j' < c ∧ wc_bg (w i) (w j') = true) → post 0) → ((∀ j', j ≤ j' → j' < c → ¬ wc_bg (w i) (w j') = true) → J (nI (i + 1))) → wY_free_12 post J (nI i) (nI c) yr yw ya ye yh f (nI j) := by
  have h6 := hs.1
  intro m
  induction m with
  | zero =>
    intro j f hj hf a b
    obtain ⟨g, rfl, hg⟩ := wn_fuel hf
    exact br_t (nI_le (by omega) (by omega)) (nm_r (nI_1 i) (b (fun j' q1 q2 => by omega)))
  | succ m ih =>
    intro j f hj hf a b
    obtain ⟨g, rfl, hg⟩ := wn_fuel hf
    have hwi := hs.2.2 i hi
    have hwj := hs.2.2 j (by omega)
    refine br_f (nI_ge (by omega) (by omega)) ⟨vp_in_nI (by omega) (by decide), vp_in_nI (by omega) (by decide), ?_⟩
    refine ys_begin (w i) (w j) (ya_w hA h6 hi) (ya_w hA h6 (by omega)) hwi.1 hwi.2 hwj.1 hwj.2 (fun z => ?_) (fun z => ?_)
    · exact br_f (by decide) (a ⟨j, Nat.le_refl _, by omega, z⟩)
    · refine br_t rfl (nm_r (nI_1 j) (ih (j + 1) g (by omega) (by omega) ?_ ?_))
      · exact fun ⟨j', q1, q2, q3⟩ => a ⟨j', by omega, q2, q3⟩
      · intro q
        refine b (fun j' q1 q2 => ?_)
        rcases Nat.lt_or_ge j j' with y | y
        · exact q j' y q2
        · have e : j' = j := by omega
          rw [e]
          exact z
theorem yf_out {post : Int32 → Prop} (hs : wc_Set w c) (hA : wc_YA w c yw) : ∀ m i f, i + m = c → m < f →
    ((∃ i' j', i ≤ i' ∧ i' < c ∧ j' < c ∧ wc_bg (w i') (w j') = true) → post 0) → ((∀ i' j', i ≤ i' → i' < c → j' < c → ¬ wc_bg (w i') (w j') = true) → post 1) → wY_free_2 post (nI c) yr yw ya ye yh f (nI i) := by
  have h6 := hs.1
  intro m
  induction m with
  | zero =>
    intro i f hi hf a b
    obtain ⟨g, rfl, hg⟩ := wn_fuel hf
    exact br_t (nI_le (by omega) (by omega)) (b (fun i' j' q1 q2 => by omega))
  | succ m ih =>
    intro i f hi hf a b
    obtain ⟨g, rfl, hg⟩ := wn_fuel hf
    refine br_f (nI_ge (by omega) (by omega)) ⟨c + 1, yf_in hs hA (by omega) c 0 (c + 1) (by omega) (by omega) ?_ ?_⟩
    · exact fun ⟨j', _, q2, q3⟩ => a ⟨i, j', Nat.le_refl _, by omega, q2, q3⟩
    · intro q
      refine ih (i + 1) g (by omega) (by omega) ?_ ?_
      · exact fun ⟨i', j', q1, q2, q3, q4⟩ => a ⟨i', j', by omega, q2, q3, q4⟩
      · intro y
        refine b (fun i' j' q1 q2 q3 => ?_)
        rcases Nat.lt_or_ge i i' with x | x
        · exact y i' j' x q2 q3
        · have e : i' = i := by omega
          rw [e]
          exact q j' (Nat.zero_le _) q3
def wc_wt (s : Nat) : Int32 := if s = 64 then 0 else if 64 ≤ s then 1 else -1
def wc_w6 (w : Nat → Nat) (k : Nat) : Nat := 64 / 2 ^ Nat.log2 (w k)
theorem wc_w6_le (k : Nat) : ∀ n, wc_sum (wc_w6 w) n ≤ 64 * n
  | 0 => Nat.le_refl 0
  | n + 1 => by
    have ih := wc_w6_le k n
    have : wc_w6 w n ≤ 64 := Nat.div_le_self _ _
    show wc_sum (wc_w6 w) n + wc_w6 w n ≤ 64 * (n + 1)
    omega
theorem xw_L {post : Int32 → Prop} (hs : wc_Set w c) (hA : wc_XA w c cd sz) (hp : post (wc_wt (wc_sum (wc_w6 w) c))) : ∀ m k f, k + m = c → m < f → wX_weight_7 post 64 (nI c) rc rs cd sz tn wy fw sq rd rh f (nI (wc_sum (wc_w6 w) k)) (nI k) := by
  have h6 := hs.1
  intro m
  induction m with
  | zero =>
    intro k f hk hf
    obtain ⟨g, rfl, hg⟩ := wn_fuel hf
    have e : k = c := by omega
    subst e
    have b := wc_w6_le (w := w) 0 k
    generalize wc_sum (wc_w6 w) k = s at *
    refine br_t (nI_le (by omega) (by omega)) (pk_eq s 64 (fun e => ?_) (fun e => pk_le 64 s (fun q => ?_) (fun q => ?_)))
    · rw [wc_wt, if_pos e] at hp
      exact hp
    · rw [wc_wt, if_neg e, if_pos q] at hp
      exact hp
    · rw [wc_wt, if_neg e, if_neg (by omega)] at hp
      exact hp
  | succ m ih =>
    intro k f hk hf
    obtain ⟨g, rfl, hg⟩ := wn_fuel hf
    have hw := hs.2.2 k (by omega)
    have hm := wc_lg7 hw.1 hw.2
    refine br_f (nI_ge (by omega) (by omega)) ⟨vp_in_nI (by omega) (by decide), nm_r (e' := nI (wc_sum (wc_w6 w) (k + 1))) ?_ (nm_r (nI_1 k) (ih (k + 1) g (by omega) (by omega)))⟩
    rw [xa_s hA h6 (by omega)]
    have e := wc_shr (n := 64) (k := Nat.log2 (w k)) (by decide) (by omega)
    exact (congrArg (fun x => nI (wc_sum (wc_w6 w) k) + x) e).trans (nI_add _ _)
theorem yw_L {post : Int32 → Prop} (hs : wc_Set w c) (hA : wc_YA w c yw) (hp : post (wc_wt (wc_sum (wc_w6 w) c))) : ∀ m k f, k + m = c → m < f → wY_weight_4 post (nI c) yr yw ya ye yh f (nI (wc_sum (wc_w6 w) k)) (nI k) := by
  have h6 := hs.1
  intro m
  induction m with
  | zero =>
    intro k f hk hf
    obtain ⟨g, rfl, hg⟩ := wn_fuel hf
    have e : k = c := by omega
    subst e
    have b := wc_w6_le (w := w) 0 k
    generalize wc_sum (wc_w6 w) k = s at *
    refine br_t (nI_le (by omega) (by omega)) (pk_le 64 s (fun q => pk_eq s 64 (fun e => ?_) (fun e => ?_)) (fun q => ?_))
    · rw [wc_wt, if_pos e] at hp
      exact hp
    · rw [wc_wt, if_neg e, if_pos q] at hp
      exact hp
    · rw [wc_wt, if_neg (by omega), if_neg (by omega)] at hp
      exact hp
  | succ m ih =>
    intro k f hk hf
    obtain ⟨g, rfl, hg⟩ := wn_fuel hf
    have hw := hs.2.2 k (by omega)
    have hm := wc_lg7 hw.1 hw.2
    refine br_f (nI_ge (by omega) (by omega)) ⟨vp_in_nI (by omega) (by decide), ys_len (w k) (ya_w hA h6 (by omega)) (by omega) (nm_r (e' := nI (wc_sum (wc_w6 w) (k + 1))) ?_ (nm_r (nI_1 k) (ih (k + 1) g (by omega) (by omega))))⟩
    have e := wc_shr (n := 64) (k := Nat.log2 (w k)) (by decide) (by omega)
    exact (congrArg (fun x => nI (wc_sum (wc_w6 w) k) + x) e).trans (nI_add _ _)
end
theorem i_vc_free {k : Nat} {u : SX} {v : SY} (I : i_Rel k u v) (hk : k + 3 ≤ 1536) : wpX_free (fun r => wpY_free (fun r' => r' = r ∧ i_Rel (k + 3) u v) v) u := by
  obtain ⟨c, R, w, cd, sz, tn, wy, fw, sq, rd, rh, yw, ya, ye, yh, rfl, rfl, hs, hX, hY, h0, h1⟩ := I
  have J : i_Rel (k + 3) (nI c, nI R, nI (Nat.log2 R), cd, sz, tn, wy, fw, sq, rd, rh) (nI c, nI R, yw, ya, ye, yh) := i_mk hs hX hY h0 h1
  refine ⟨c + 1, xf_out hs hX c 0 (c + 1) (by omega) (by omega) (fun hX0 => ?_) (fun hX1 => ?_)⟩
  · refine ⟨c + 1, yf_out hs hY c 0 (c + 1) (by omega) (by omega) (fun _ => ⟨rfl, J⟩) (fun hY1 => ?_)⟩
    obtain ⟨i', j', q1, q2, q3, q4⟩ := hX0
    exact absurd q4 (hY1 i' j' q1 q2 q3)
  · refine ⟨c + 1, yf_out hs hY c 0 (c + 1) (by omega) (by omega) (fun hY0 => ?_) (fun _ => ⟨rfl, J⟩)⟩
    obtain ⟨i', j', q1, q2, q3, q4⟩ := hY0
    exact absurd q4 (hX1 i' j' q1 q2 q3)
theorem i_vc_weight {k : Nat} {u : SX} {v : SY} (I : i_Rel k u v) (hk : k + 3 ≤ 1536) : wpX_weight (fun r => wpY_weight (fun r' => r' = r ∧ i_Rel (k + 3) u v) v) u := by
  obtain ⟨c, R, w, cd, sz, tn, wy, fw, sq, rd, rh, yw, ya, ye, yh, rfl, rfl, hs, hX, hY, h0, h1⟩ := I
  have J : i_Rel (k + 3) (nI c, nI R, nI (Nat.log2 R), cd, sz, tn, wy, fw, sq, rd, rh) (nI c, nI R, yw, ya, ye, yh) := i_mk hs hX hY h0 h1
  exact ⟨c + 1, xw_L hs hX ⟨c + 1, yw_L hs hY ⟨rfl, J⟩ c 0 (c + 1) (by omega) (by omega)⟩ c 0 (c + 1) (by omega) (by omega)⟩
end
section
/-! finding, inserting, sorting, taking out, turning -/
section
variable {rc rs : Int32} {cd sz tn wy fw sq rd rh : Nat → Int32} {yr : Int32} {yw ya ye yh : Nat → Int32} {w : Nat → Nat} {c : Nat}
theorem xn_L {post : Int32 → Prop} {x : Int32} (h6 : c ≤ 6) (hA : wc_XA w c cd sz) (h1 : ∀ t, t < c → nI (w t) = x → post (nI t)) (h0 : (∀ j, j < c → ¬ nI (w j) = x) → post (-4)) :
    ∀ m k f, k + m = c → m < f → (∀ j, j < k → ¬ nI (w j) = x) → wX_numberOf_2 post x (nI c) rc rs cd sz tn wy fw sq rd rh f (nI k) := by
  intro m
  induction m with
  | zero =>
    intro k f hk hf hn
    obtain ⟨g, rfl, hg⟩ := wn_fuel hf
    exact br_t (nI_le (by omega) (by omega)) (h0 (fun j hj => hn j (by omega)))
  | succ m ih =>
    intro k f hk hf hn
    obtain ⟨g, rfl, hg⟩ := wn_fuel hf
    refine br_f (nI_ge (by omega) (by omega)) ⟨vp_in_nI (by omega) (by decide), ?_⟩
    rw [xa_c hA h6 (by omega)]
    by_cases e : nI (w k) = x
    · exact br_t e (h1 k (by omega) e)
    · refine br_f e (nm_r (nI_1 k) (ih (k + 1) g (by omega) (by omega) (fun j hj => ?_)))
      rcases Nat.lt_or_ge j k with z | z
      · exact hn j z
      · have q : j = k := by omega
        rw [q]
        exact e
theorem xs_number {post : Int32 → Prop} {x : Int32} (h6 : c ≤ 6) (hA : wc_XA w c cd sz) (h1 : ∀ t, t < c → nI (w t) = x → post (nI t)) (h0 : (∀ j, j < c → ¬ nI (w j) = x) → post (-4)) :
    wpX_numberOf post (nI c, rc, rs, cd, sz, tn, wy, fw, sq, rd, rh) x :=
  ⟨c + 1, xn_L h6 hA h1 h0 c 0 (c + 1) (by omega) (by omega) (fun j hj => absurd hj (Nat.not_lt_zero j))⟩
theorem yn_L {post : Int32 → Prop} {x : Int32} (h6 : c ≤ 6) (hA : wc_YA w c yw) (h1 : ∀ t, t < c → nI (w t) = x → post (nI t)) (h0 : (∀ j, j < c → ¬ nI (w j) = x) → post (-1)) :
    ∀ m k f, k + m = c → m < f → (∀ j, j < k → ¬ nI (w j) = x) → wY_find_2 post x (nI c) yr yw ya ye yh f (nI k) := by
  intro m
  induction m with
  | zero =>
    intro k f hk hf hn
    obtain ⟨g, rfl, hg⟩ := wn_fuel hf
    exact br_t (nI_le (by omega) (by omega)) (h0 (fun j hj => hn j (by omega)))
  | succ m ih =>
    intro k f hk hf hn
    obtain ⟨g, rfl, hg⟩ := wn_fuel hf
    refine br_f (nI_ge (by omega) (by omega)) ⟨vp_in_nI (by omega) (by decide), ?_⟩
    rw [ya_w hA h6 (by omega)]
    by_cases e : nI (w k) = x
    · exact br_t e (h1 k (by omega) e)
    · refine br_f e (nm_r (nI_1 k) (ih (k + 1) g (by omega) (by omega) (fun j hj => ?_)))
      rcases Nat.lt_or_ge j k with z | z
      · exact hn j z
      · have q : j = k := by omega
        rw [q]
        exact e
theorem ys_find {post : Int32 → Prop} {x : Int32} (h6 : c ≤ 6) (hA : wc_YA w c yw) (h1 : ∀ t, t < c → nI (w t) = x → post (nI t)) (h0 : (∀ j, j < c → ¬ nI (w j) = x) → post (-1)) :
    wpY_find post (nI c, yr, yw, ya, ye, yh) x :=
  ⟨c + 1, yn_L h6 hA h1 h0 c 0 (c + 1) (by omega) (by omega) (fun j hj => absurd hj (Nat.not_lt_zero j))⟩
theorem xi_end {x q : Nat} (hq : q ≤ c) (lo : ∀ j, j < q → cd j = nI (w j) ∧ sz j = nI (Nat.log2 (w j))) (hi : ∀ j, q < j → j < c + 1 → cd j = nI (w (j - 1)) ∧ sz j = nI (Nat.log2 (w (j - 1)))) :
    wc_XA (wc_in w q x) (c + 1) (upd cd q (nI x)) (upd sz q (nI (Nat.log2 x))) := by
  intro j hj
  rcases Nat.lt_trichotomy j q with z | z | z
  · rw [pk_un (by omega), pk_un (by omega), wc_in_lo z]
    exact lo j z
  · rw [z, pk_us, pk_us, wc_in_at]
    exact ⟨rfl, rfl⟩
  · rw [pk_un (by omega), pk_un (by omega), wc_in_hi z]
    exact hi j z hj
theorem xi_64 {post : Int32 → SX → Prop} {x q : Nat} (hx : 2 ≤ x) (hx7 : x < 128) (hc : c < 6) (hq : q ≤ c) (lo : ∀ j, j < q → cd j = nI (w j) ∧ sz j = nI (Nat.log2 (w j))) (hi : ∀ j, q < j → j < c + 1 → cd j = nI (w (j - 1)) ∧ sz j = nI (Nat.log2 (w (j - 1))))
    (hp : ∀ cd' sz', wc_XA (wc_in w q x) (c + 1) cd' sz' → post (nI q) (nI (c + 1), rc, rs, cd', sz', tn, wy, fw, sq, rd, rh)) :
    wX_insert_64 post (nI x) (nI q) (nI c) rc rs cd sz tn wy fw sq rd rh := by
  have hi6 : vp_in (nI q) 6 := vp_in_nI (by omega) (by decide)
  have e : (nI q).toNatClampNeg = q := nI_clamp (by omega)
  unfold wX_insert_64
  rw [e]
  exact ⟨hi6, nm_e (xs_size x rfl (by omega) hx7 ⟨hi6, nm_e (nm_r (nI_1 c) (hp _ _ (xi_end hq lo hi)))⟩)⟩
theorem xi_L {post : Int32 → SX → Prop} {x : Nat} (hs : wc_Set w c) (hc : c < 6) (hx : 2 ≤ x) (hx7 : x < 128) (hn : ∀ j, j < c → w j ≠ x)
    (hp : ∀ q cd' sz', q ≤ c → (∀ j, j < q → w j < x) → (∀ j, q ≤ j → j < c → x < w j) → wc_XA (wc_in w q x) (c + 1) cd' sz' → post (nI q) (nI (c + 1), rc, rs, cd', sz', tn, wy, fw, sq, rd, rh)) :
    ∀ k f cd sz, k ≤ c → k < f → (∀ j, j < k → cd j = nI (w j) ∧ sz j = nI (Nat.log2 (w j))) → (∀ j, k < j → j < c + 1 → cd j = nI (w (j - 1)) ∧ sz j = nI (Nat.log2 (w (j - 1)))) → (∀ j, k ≤ j → j < c → x < w j) →
    wX_insert_10 post (nI x) (nI c) rc rs f (nI k) (nI k) cd sz tn wy fw sq rd rh := by
  intro k
  induction k with
  | zero =>
    intro f cd sz hk hf lo hi hg
    obtain ⟨g, rfl, _⟩ := wn_fuel hf
    exact br_t (by decide) (xi_64 hx hx7 hc hk lo hi (fun cd' sz' h => hp 0 cd' sz' hk (fun j hj => absurd hj (Nat.not_lt_zero j)) hg h))
  | succ k ih =>
    intro f cd sz hk hf lo hi hg
    obtain ⟨g, rfl, _⟩ := wn_fuel hf
    have hi6 : vp_in (nI k) 6 := vp_in_nI (by omega) (by decide)
    have hi7 : vp_in (nI (k + 1)) 6 := vp_in_nI (by omega) (by decide)
    refine br_f (nI_nle (by omega) (by omega)) ?_
    rw [nI_pred, nI_clamp (n := k) (by omega), nI_clamp (n := k + 1) (by omega), (lo k (by omega)).1, (lo k (by omega)).2]
    have hwk := hs.2.2 k (by omega)
    by_cases h : w k ≤ x
    · refine ⟨hi6, br_t (nI_le h (by omega)) (xi_64 hx hx7 hc hk lo hi (fun cd' sz' h2 => hp (k + 1) cd' sz' hk (fun j hj => ?_) hg h2))⟩
      have a := wc_inc_le hs.2.1 (i := j) (j := k) (by omega) (by omega)
      have b := hn k (by omega)
      omega
    · refine ⟨hi6, br_f (nI_ge (by omega) (by omega)) ⟨hi6, hi7, nm_e ⟨hi6, hi7, nm_e (nm_e (nm_r (pk_m1 k) (ih g _ _ (by omega) (by omega) ?_ ?_ ?_)))⟩⟩⟩
      · intro j hj
        rw [pk_un (by omega), pk_un (by omega)]
        exact lo j (by omega)
      · intro j h1 h2
        by_cases e : j = k + 1
        · rw [e, pk_us, pk_us]
          exact ⟨rfl, rfl⟩
        · rw [pk_un e, pk_un e]
          exact hi j (by omega) h2
      · intro j h1 h2
        by_cases e : j = k
        · rw [e]
          omega
        · exact hg j (by omega) h2
theorem xs_insert {post : Int32 → SX → Prop} {x : Nat} {xx : Int32} (hxx : xx = nI x) (hs : wc_Set w c) (hA : wc_XA w c cd sz) (hc : c < 6) (hx : 2 ≤ x) (hx7 : x < 128) (hn : ∀ j, j < c → w j ≠ x)
    (hp : ∀ q cd' sz', q ≤ c → (∀ j, j < q → w j < x) → (∀ j, q ≤ j → j < c → x < w j) → wc_XA (wc_in w q x) (c + 1) cd' sz' → post (nI q) (nI (c + 1), rc, rs, cd', sz', tn, wy, fw, sq, rd, rh)) :
    wpX_insert post (nI c, rc, rs, cd, sz, tn, wy, fw, sq, rd, rh) xx := by
  subst hxx
  exact ⟨c + 1, xi_L hs hc hx hx7 hn hp c (c + 1) cd sz (Nat.le_refl c) (by omega) hA (fun j h1 h2 => by omega) (fun j h1 h2 => by omega)⟩
theorem wc_in_set {x q : Nat} (hs : wc_Set w c) (hc : c < 6) (hx : 2 ≤ x) (hx7 : x < 128) (hq : q ≤ c) (lo : ∀ j, j < q → w j < x) (hi : ∀ j, q ≤ j → j < c → x < w j) : wc_Set (wc_in w q x) (c + 1) := by
  refine ⟨by omega, wc_in_inc hs.2.1 hq lo hi, fun k hk => ?_⟩
  rcases Nat.lt_trichotomy k q with z | z | z
  · rw [wc_in_lo z]
    exact hs.2.2 k (by omega)
  · rw [z, wc_in_at]
    exact ⟨hx, hx7⟩
  · rw [wc_in_hi z]
    exact hs.2.2 (k - 1) (by omega)
/-- put in at q: the same numbers as put behind -/
theorem wc_in_sub {x q : Nat} {v : Nat → Nat} (hq : q ≤ c) (h : wc_Sub w v c) (h2 : wc_Sub v w c) (hv : v c = x) : wc_Sub (wc_in w q x) v (c + 1) ∧ wc_Sub v (wc_in w q x) (c + 1) := by
  constructor
  · intro i hi
    rcases Nat.lt_trichotomy i q with z | z | z
    · obtain ⟨j, a, b⟩ := h i (by omega)
      exact ⟨j, by omega, by rw [wc_in_lo z]; exact b⟩
    · exact ⟨c, by omega, by rw [z, wc_in_at]; exact hv⟩
    · obtain ⟨j, a, b⟩ := h (i - 1) (by omega)
      exact ⟨j, by omega, by rw [wc_in_hi z]; exact b⟩
  · intro i hi
    by_cases e : i = c
    · exact ⟨q, by omega, by rw [e, wc_in_at]; exact hv.symm⟩
    · obtain ⟨j, a, b⟩ := h2 i (by omega)
      rcases Nat.lt_or_ge j q with z | z
      · exact ⟨j, by omega, by rw [wc_in_lo z]; exact b⟩
      · exact ⟨j + 1, by omega, by rw [wc_in_hi (by omega)]; exact b⟩
/-! Y's sort -/
theorem yo_in {post : SY → Prop} {J : Int32 → (Nat → Int32) → (Nat → Int32) → (Nat → Int32) → (Nat → Int32) → Prop} {w0 : Nat → Nat} {i : Nat} (h7 : c ≤ 6) (hB : ∀ k, k < c → w0 k < 128) (hi : i < c)
    (hJ : ∀ yw' w', wc_So w0 w' c i c → wc_YA w' c yw' → J (nI (i + 1)) yw' ya ye yh) :
    ∀ m j f yw w, j + m = c → i < j → m < f → wc_So w0 w c i j → wc_YA w c yw → wY_sort_14 post J (nI i) (nI c) yr f (nI j) yw ya ye yh := by
  intro m
  induction m with
  | zero =>
    intro j f yw w hj hij hf hS hA
    obtain ⟨g, rfl, _⟩ := wn_fuel hf
    have e : j = c := by omega
    subst e
    exact br_t (nI_le (Nat.le_refl _) (by omega)) (nm_r (nI_1 i) (hJ yw w hS hA))
  | succ m ih =>
    intro j f yw w hj hij hf hS hA
    obtain ⟨g, rfl, _⟩ := wn_fuel hf
    have hjc : j < c := by omega
    have vi : vp_in (nI i) 7 := vp_in_nI (by omega) (by decide)
    have vj : vp_in (nI j) 7 := vp_in_nI (by omega) (by decide)
    have bd : ∀ k, k < c → w k < 128 := fun k hk => by
      obtain ⟨t, a, b⟩ := hS.2.1 k hk
      rw [← b]
      exact hB t a
    have b1 := bd i hi
    have b2 := bd j hjc
    refine br_f (nI_ge (by omega) (by omega)) ⟨vj, vi, ?_⟩
    rw [ya_w hA (by omega) hi, ya_w hA (by omega) hjc]
    by_cases h : w i ≤ w j
    · exact br_t (nI_le h (by omega)) (nm_r (nI_1 j) (ih (j + 1) g yw w (by omega) (by omega) (by omega) (wc_so_keep hS hij hjc (by omega)) hA))
    · rw [nI_clamp (n := i) (by omega), nI_clamp (n := j) (by omega)]
      refine br_f (nI_ge (by omega) (by omega)) ⟨vi, nm_e ⟨vj, vi, nm_e ⟨vj, nm_e (nm_r (nI_1 j) (ih (j + 1) g _ _ (by omega) (by omega) (by omega) (wc_so_swap hS hij hjc (by omega)) ?_))⟩⟩⟩
      intro k hk
      show _ = nI (w (wc_tp i j k))
      by_cases ej : k = j
      · rw [ej, pk_us, wc_tp_j]
      · rw [pk_un ej]
        by_cases ei : k = i
        · rw [ei, pk_us, wc_tp_i]
        · rw [pk_un ei, wc_tp_n ei ej]
          exact hA k hk
theorem yo_out {post : SY → Prop} {w0 : Nat → Nat} (h7 : c ≤ 6) (hB : ∀ k, k < c → w0 k < 128) (hp : ∀ yw' w', wc_Inc w' c → wc_Sub w' w0 c → wc_Sub w0 w' c → wc_YA w' c yw' → post (nI c, yr, yw', ya, ye, yh)) :
    ∀ m i f yw w, i + m = c → m < f → wc_So w0 w c i (i + 1) → wc_YA w c yw → wY_sort_2 post (nI c) yr f (nI i) yw ya ye yh := by
  intro m
  induction m with
  | zero =>
    intro i f yw w hi hf hS hA
    obtain ⟨g, rfl, _⟩ := wn_fuel hf
    exact br_t (nI_le (by omega) (by omega)) (hp yw w (wc_so_inc hS (by omega)) hS.2.1 hS.2.2.1 hA)
  | succ m ih =>
    intro i f yw w hi hf hS hA
    obtain ⟨g, rfl, _⟩ := wn_fuel hf
    refine br_f (nI_ge (by omega) (by omega)) (nm_r (nI_1 i) ⟨c + 1, yo_in h7 hB (by omega) (fun yw' w' hS' hA' => ?_) (c - (i + 1)) (i + 1) (c + 1) yw w (by omega) (by omega) (by omega) hS hA⟩)
    exact ih (i + 1) g yw' w' (by omega) (by omega) (wc_so_next hS') hA'
theorem ys_sort {post : SY → Prop} (h7 : c ≤ 6) (hB : ∀ k, k < c → w k < 128) (hI : wc_Inj w c) (hA : wc_YA w c yw) (hp : ∀ yw' w', wc_Inc w' c → wc_Sub w' w c → wc_Sub w w' c → wc_YA w' c yw' → post (nI c, yr, yw', ya, ye, yh)) :
    wpY_sort post (nI c, yr, yw, ya, ye, yh) :=
  ⟨c + 1, yo_out h7 hB hp c 0 (c + 1) yw w (by omega) (by omega) (wc_so_0 hI) hA⟩
/-! taking out -/
theorem xr_L {post : Int32 → SX → Prop} {t : Nat} (hc : c + 1 ≤ 6) (hp : ∀ cd' sz', wc_XA (wc_rm w t) c cd' sz' → post (nI c) (nI c, rc, rs, cd', sz', tn, wy, fw, sq, rd, rh)) :
    ∀ m k f cd sz, k + m = c → m < f → t ≤ k → (∀ j, j < k → cd j = nI (wc_rm w t j) ∧ sz j = nI (Nat.log2 (wc_rm w t j))) → (∀ j, k ≤ j → j < c + 1 → cd j = nI (w j) ∧ sz j = nI (Nat.log2 (w j))) →
    wX_remove_17 post (nI (c + 1)) rc rs f (nI k) cd sz tn wy fw sq rd rh := by
  intro m
  induction m with
  | zero =>
    intro k f cd sz hk hf ht lo hi
    obtain ⟨g, rfl, _⟩ := wn_fuel hf
    have e : k = c := by omega
    subst e
    refine br_t ?_ (nm_r (nI_pred k) (hp cd sz lo))
    rw [nI_pred]
    exact nI_le (Nat.le_refl _) (by omega)
  | succ m ih =>
    intro k f cd sz hk hf ht lo hi
    obtain ⟨g, rfl, _⟩ := wn_fuel hf
    have v1 : vp_in (nI (k + 1)) 6 := vp_in_nI (by omega) (by decide)
    have v0 : vp_in (nI k) 6 := vp_in_nI (by omega) (by decide)
    have a := hi (k + 1) (by omega) (by omega)
    refine br_f ?_ ?_
    · rw [nI_pred]
      exact nI_ge (by omega) (by omega)
    · rw [nI_1 k, nI_clamp (n := k) (by omega), nI_clamp (n := k + 1) (by omega), a.1, a.2]
      refine ⟨v1, v0, nm_e ⟨v1, v0, nm_e (nm_e (ih (k + 1) g _ _ (by omega) (by omega) (by omega) ?_ ?_))⟩⟩
      · intro j hj
        by_cases e : j = k
        · rw [e, pk_us, pk_us, wc_rm_hi ht]
          exact ⟨rfl, rfl⟩
        · rw [pk_un e, pk_un e]
          exact lo j (by omega)
      · intro j h1 h2
        rw [pk_un (by omega), pk_un (by omega)]
        exact hi j (by omega) h2
theorem yr_L {post : Int32 → SY → Prop} {t : Nat} (hc : c + 1 ≤ 6) (hp : ∀ yw', wc_YA (wc_rm w t) c yw' → post (nI c) (nI c, yr, yw', ya, ye, yh)) :
    ∀ m k f yw, k + m = c → m < f → t ≤ k → (∀ j, j < k → yw j = nI (wc_rm w t j)) → (∀ j, k ≤ j → j < c + 1 → yw j = nI (w j)) →
    wY_remove_25 post (nI c) yr f (nI k) yw ya ye yh := by
  intro m
  induction m with
  | zero =>
    intro k f yw hk hf ht lo hi
    obtain ⟨g, rfl, _⟩ := wn_fuel hf
    have e : k = c := by omega
    subst e
    exact br_t (nI_le (Nat.le_refl _) (by omega)) (hp yw lo)
  | succ m ih =>
    intro k f yw hk hf ht lo hi
    obtain ⟨g, rfl, _⟩ := wn_fuel hf
    have v1 : vp_in (nI (k + 1)) 7 := vp_in_nI (by omega) (by decide)
    have v0 : vp_in (nI k) 7 := vp_in_nI (by omega) (by decide)
    refine br_f (nI_ge (by omega) (by omega)) ?_
    rw [nI_1 k, nI_clamp (n := k) (by omega), nI_clamp (n := k + 1) (by omega), hi (k + 1) (by omega) (by omega)]
    refine ⟨v1, v0, nm_e (nm_e (ih (k + 1) g _ (by omega) (by omega) (by omega) ?_ ?_))⟩
    · intro j hj
      by_cases e : j = k
      · rw [e, pk_us, wc_rm_hi ht]
      · rw [pk_un e]
        exact lo j (by omega)
    · intro j h1 h2
      rw [pk_un (by omega)]
      exact hi j (by omega) h2
/-! turning -/
theorem wn_and1 (n : Nat) : nI n &&& 1 = nI (n % 2) := by
  show nI n &&& nI 1 = nI (n % 2)
  rw [nx_and, Nat.and_one_is_mod]
theorem xt_L {post : Int32 → Prop} {x : Nat} (hx : 2 ≤ x) (hx7 : x < 128) (hp : post (nI (wc_tu x))) : ∀ m p f, p + m = Nat.log2 x → m < f → wX_turnRound_4 post (nI x) (nI (Nat.log2 x)) f (nI (wc_tq x p)) (nI p) := by
  have hm := wc_lg7 hx hx7
  intro m
  induction m with
  | zero =>
    intro p f hk hf
    obtain ⟨g, rfl, _⟩ := wn_fuel hf
    have e : p = Nat.log2 x := by omega
    rw [e]
    exact br_t (nI_le (Nat.le_refl _) (by omega)) hp
  | succ m ih =>
    intro p f hk hf
    obtain ⟨g, rfl, _⟩ := wn_fuel hf
    refine br_f (nI_ge (by omega) (by omega)) (nm_r (e' := nI (wc_tq x (p + 1))) ?_ (nm_r (nI_1 p) (ih (p + 1) g (by omega) (by omega))))
    rw [wc_shr (by omega) (by omega), wn_and1]
    exact (congrArg (fun y => y + nI (x / 2 ^ p % 2)) (pk_mul 2 (wc_tq x p))).trans (nI_add _ _)
theorem xs_turn {post : Int32 → Prop} {a b : Int32} (x : Nat) (ha : a = nI x) (hb : b = nI (Nat.log2 x)) (hx : 2 ≤ x) (hx7 : x < 128) (hp : post (nI (wc_tu x))) : wpX_turnRound post a b := by
  subst ha hb
  exact ⟨Nat.log2 x + 1, xt_L hx hx7 hp (Nat.log2 x) 0 (Nat.log2 x + 1) (by omega) (by omega)⟩
theorem yt_L {post : Int32 → SY → Prop} {J : Int32 → (Nat → Int32) → (Nat → Int32) → (Nat → Int32) → (Nat → Int32) → Prop} {x i : Nat} (hi : i < 7) (hx : 2 ≤ x) (hx7 : x < 128) (hp : J (nI (i + 1)) (upd yw i (nI (wc_tu x))) ya ye yh) :
    ∀ m p f, p + m = Nat.log2 x → m < f → wY_reverse_19 post J (nI i) (nI c) yr yw ya ye yh f (nI (wc_tq x p)) (nI (x / 2 ^ p)) := by
  have hm := wc_lg7 hx hx7
  intro m
  induction m with
  | zero =>
    intro p f hk hf
    obtain ⟨g, rfl, _⟩ := wn_fuel hf
    have e : p = Nat.log2 x := by omega
    have q : x / 2 ^ p < 2 := by
      rw [e]
      exact (Nat.div_lt_iff_lt_mul (Nat.two_pow_pos _)).mpr (wc_lgs x)
    refine br_t (nI_le (b := 1) (by omega) (by decide)) ⟨vp_in_nI (by omega) (by decide), ?_⟩
    rw [nI_clamp (by omega), e]
    exact nm_e (nm_r (nI_1 i) hp)
  | succ m ih =>
    intro p f hk hf
    obtain ⟨g, rfl, _⟩ := wn_fuel hf
    have q : 2 ≤ x / 2 ^ p := by
      rw [Nat.le_div_iff_mul_le (Nat.two_pow_pos p)]
      have a := wc_lge (a := x) (by omega)
      have b : 2 ^ (p + 1) ≤ 2 ^ Nat.log2 x := wc_p2 (by omega)
      rw [Nat.pow_succ] at b
      omega
    have le : x / 2 ^ p ≤ x := Nat.div_le_self _ _
    refine br_f (nI_ge (a := 1) (by omega) (by omega)) ⟨by decide, nm_r (e' := nI (wc_tq x (p + 1))) ?_ ⟨by decide, nm_r (e' := nI (x / 2 ^ (p + 1))) ?_ (ih (p + 1) g (by omega) (by omega))⟩⟩
    · have r := pk_rem (a := x / 2 ^ p) (d := 2) (by omega) (by decide) (by decide)
      exact (congrArg (fun y => 2 * nI (wc_tq x p) + y) r).trans ((congrArg (fun y => y + nI (x / 2 ^ p % 2)) (pk_mul 2 (wc_tq x p))).trans (nI_add _ _))
    · have r := pk_div (a := x / 2 ^ p) (d := 2) (by omega) (by decide) (by decide)
      rw [Nat.div_div_eq_div_mul, ← Nat.pow_succ] at r
      exact r
end
end
section
/-! add, remove, reverse -/
theorem wn_mid {x : Int32} (h1 : ¬ x < 2) (h2 : x ≤ 127) : ∃ n, x = nI n ∧ 2 ≤ n ∧ n < 128 := by
  have h0 : ¬ x < 0 := fun z => h1 (Int32.lt_trans z (by decide))
  obtain ⟨j, hj, rfl⟩ := nI_of h0
  refine ⟨j, rfl, ?_, ?_⟩
  · rcases Nat.lt_or_ge j 2 with z | z
    · exact absurd (nI_lt (b := 2) z (by decide)) h1
    · exact z
  · rcases Nat.lt_or_ge j 128 with z | z
    · exact z
    · exact absurd h2 (nI_ge (a := 127) (by omega) hj)
theorem i_vc_add {k : Nat} {u : SX} {v : SY} (I : i_Rel k u v) (hk : k + 3 ≤ 1536) (v1 : Int32) : wpX_add (fun r u' => wpY_add (fun r' v' => r' = r ∧ i_Rel (k + 3) u' v') v v1) u v1 := by
  obtain ⟨c, R, w, cd, sz, tn, wy, fw, sq, rd, rh, yw, ya, ye, yh, rfl, rfl, hs, hX, hY, h0, h1⟩ := I
  have J : i_Rel (k + 3) (nI c, nI R, nI (Nat.log2 R), cd, sz, tn, wy, fw, sq, rd, rh) (nI c, nI R, yw, ya, ye, yh) := i_mk hs hX hY h0 h1
  have h6 := hs.1
  unfold wpX_add wpY_add
  dsimp only
  by_cases a : v1 < 2
  · exact br_t a (br_t a ⟨rfl, J⟩)
  by_cases b : v1 ≤ 127
  · obtain ⟨x, rfl, hx, hx7⟩ := wn_mid a b
    refine br_f a (br_t b (xs_number h6 hX (fun t ht e => ?_) (fun hn => ?_)))
    · have ew : w t = x := (nI_eq (by have := hs.2.2 t ht; omega) (by omega)).mp e
      refine br_f (wn_4 (by omega)) (br_f a (br_t b (ys_find h6 hY (fun t' ht' e' => ?_) (fun hn' => absurd e (hn' t ht)))))
      have ew' : w t' = x := (nI_eq (by have := hs.2.2 t' ht'; omega) (by omega)).mp e'
      have et := wc_inc_inj hs.2.1 t' t ht' ht (by omega)
      refine br_f (nI_pos (by omega)) ⟨?_, J⟩
      rw [et]
    · have hn' : ∀ j, j < c → w j ≠ x := fun j hj e => hn j hj (by rw [e])
      by_cases hc : c < 6
      · refine br_t rfl (br_t (nI_lt (b := 6) hc (by decide)) (xs_insert rfl hs hX hc hx hx7 hn' (fun q cd' sz' hq lo hi hXA => ?_)))
        have hS := wc_in_set hs hc hx hx7 hq lo hi
        refine br_f a (br_t b (ys_find h6 hY (fun t ht e => absurd e (hn t ht)) (fun _ => br_t (by decide) (br_f (fun z => ?_) ⟨vp_in_nI (by omega) (by decide), ?_⟩))))
        · have := (nI_eq (a := c) (b := 6) (by omega) (by decide)).mp z
          omega
        · rw [nI_clamp (n := c) (by omega)]
          refine nm_e (nm_r (nI_1 c) (ys_sort (w := wc_set w c x) (by omega) (fun j hj => ?_) ?_ ?_ (fun yw' w' hI' s1 s2 hA' => ?_)))
          · by_cases e : j = c
            · rw [e, wc_set_s]
              exact hx7
            · rw [wc_set_n e]
              exact (hs.2.2 j (by omega)).2
          · intro i j hi hj e
            by_cases ei : i = c
            · by_cases ej : j = c
              · omega
              · rw [ei, wc_set_s, wc_set_n ej] at e
                exact absurd e.symm (hn' j (by omega))
            · by_cases ej : j = c
              · rw [ej, wc_set_s, wc_set_n ei] at e
                exact absurd e (hn' i (by omega))
              · rw [wc_set_n ei, wc_set_n ej] at e
                exact wc_inc_inj hs.2.1 i j (by omega) (by omega) e
          · intro j hj
            by_cases e : j = c
            · rw [e, pk_us, wc_set_s]
            · rw [pk_un e, wc_set_n e]
              exact hY j (by omega)
          · have sub := wc_in_sub (w := w) (c := c) (x := x) (q := q) (v := wc_set w c x) hq
              (fun i hi => ⟨i, hi, wc_set_n (by omega)⟩) (fun i hi => ⟨i, hi, (wc_set_n (by omega)).symm⟩) wc_set_s
            have eq := wc_uniq hS.2.1 hI' (wc_sub_trans sub.1 s2) (wc_sub_trans s1 sub.2)
            have hA2 : wc_YA (wc_in w q x) (c + 1) yw' := fun j hj => by
              rw [eq j hj]
              exact hA' j hj
            refine ys_find (w := wc_in w q x) (by omega) hA2 (fun t ht e => ⟨?_, i_mk hS hXA hA2 h0 h1⟩) (fun hno => ?_)
            · have ew : wc_in w q x t = x := (nI_eq (by have := hS.2.2 t ht; omega) (by omega)).mp e
              have et := wc_inc_inj hS.2.1 t q ht (by omega) (by rw [ew, wc_in_at])
              rw [et]
            · exact absurd (by rw [wc_in_at]) (hno q (by omega))
      · have e6 : c = 6 := by omega
        subst e6
        exact br_t rfl (br_f (by decide) (br_f a (br_t b (ys_find h6 hY (fun t ht e => absurd e (hn t ht)) (fun _ => br_t (by decide) (br_t rfl ⟨rfl, J⟩))))))
  · exact br_f a (br_f b (br_f a (br_f b ⟨rfl, J⟩)))
theorem i_vc_remove {k : Nat} {u : SX} {v : SY} (I : i_Rel k u v) (hk : k + 3 ≤ 1536) (v1 : Int32) : wpX_remove (fun r u' => wpY_remove (fun r' v' => r' = r ∧ i_Rel (k + 3) u' v') v v1) u v1 := by
  obtain ⟨c, R, w, cd, sz, tn, wy, fw, sq, rd, rh, yw, ya, ye, yh, rfl, rfl, hs, hX, hY, h0, h1⟩ := I
  have J : i_Rel (k + 3) (nI c, nI R, nI (Nat.log2 R), cd, sz, tn, wy, fw, sq, rd, rh) (nI c, nI R, yw, ya, ye, yh) := i_mk hs hX hY h0 h1
  have h6 := hs.1
  unfold wpX_remove wpY_remove
  dsimp only
  refine xs_number h6 hX (fun t ht e => ?_) (fun hn => ?_)
  · obtain ⟨c, rfl⟩ : ∃ d, c = d + 1 := ⟨c - 1, by omega⟩
    refine br_f (wn_4 (by omega)) ⟨c + 1, xr_L (w := w) (t := t) h6 (fun cd' sz' hXA => ?_) (c - t) t (c + 1) cd sz (by omega) (by omega) (Nat.le_refl t) (fun j hj => by rw [wc_rm_lo hj]; exact hX j (by omega)) (fun j _ hj => hX j hj)⟩
    refine ys_find h6 hY (fun t' ht' e' => ?_) (fun hn' => absurd e (hn' t ht))
    have et : t' = t := wc_inc_inj hs.2.1 t' t ht' ht ((nI_eq (by have := hs.2.2 t' ht'; omega) (by have := hs.2.2 t ht; omega)).mp (e'.trans e.symm))
    subst et
    refine br_t (nI_pos' (by omega)) (nm_r (nI_pred c) ⟨c + 1, yr_L (w := w) (t := t') h6 (fun yw' hYA => ⟨rfl, i_mk ⟨by omega, wc_rm_inc hs.2.1, fun j hj => ?_⟩ hXA hYA h0 h1⟩) (c - t') t' (c + 1) yw (by omega) (by omega) (Nat.le_refl _) (fun j hj => by rw [wc_rm_lo hj]; exact hY j (by omega)) (fun j _ hj => hY j hj)⟩)
    rcases Nat.lt_or_ge j t' with z | z
    · rw [wc_rm_lo z]
      exact hs.2.2 j (by omega)
    · rw [wc_rm_hi z]
      exact hs.2.2 (j + 1) (by omega)
  · exact br_t rfl (ys_find h6 hY (fun t ht e => absurd e (hn t ht)) (fun _ => br_f (by decide) ⟨rfl, J⟩))
section
variable {rc rs : Int32} {cd sz tn wy fw sq rd rh : Nat → Int32} {yr : Int32} {yw ya ye yh : Nat → Int32} {w : Nat → Nat} {c : Nat}
/-- X's second loop: the turned words put in one by one -/
theorem xv_46 {post : Int32 → SX → Prop} (hs : wc_Set w c) (hT : ∀ j, j < c → tn j = nI (wc_tu (w j)))
    (hp : ∀ cd' sz' v, wc_Set v c → wc_Sub v (fun j => wc_tu (w j)) c → wc_Sub (fun j => wc_tu (w j)) v c → wc_XA v c cd' sz' → post (nI c) (nI c, rc, rs, cd', sz', tn, wy, fw, sq, rd, rh)) :
    ∀ m k f cd sz v, k + m = c → m < f → wc_Set v k → wc_Sub v (fun j => wc_tu (w j)) k → wc_Sub (fun j => wc_tu (w j)) v k → wc_XA v k cd sz → wX_reverse_46 post (nI c) f (nI k) (nI k) rc rs cd sz tn wy fw sq rd rh := by
  have h6 := hs.1
  intro m
  induction m with
  | zero =>
    intro k f cd sz v hk hf hS s1 s2 hA
    obtain ⟨g, rfl, _⟩ := wn_fuel hf
    have e : k = c := by omega
    subst e
    exact br_t (nI_le (Nat.le_refl _) (by omega)) (hp cd sz v hS s1 s2 hA)
  | succ m ih =>
    intro k f cd sz v hk hf hS s1 s2 hA
    obtain ⟨g, rfl, _⟩ := wn_fuel hf
    have hw := hs.2.2 k (by omega)
    have tab := wc_tu_tab (w k) hw.2 hw.1
    have inj := wc_tu_inj (fun j hj => hs.2.2 j hj) (wc_inc_inj hs.2.1)
    have hn : ∀ j, j < k → v j ≠ wc_tu (w k) := fun j hj e => by
      obtain ⟨i, a, b⟩ := s1 j hj
      have := inj i k (by omega) (by omega) (b.trans e)
      omega
    refine br_f (nI_ge (by omega) (by omega)) ⟨vp_in_nI (by omega) (by decide), ?_⟩
    rw [nI_clamp (by omega)]
    refine xs_insert (hT k (by omega)) hS hA (by omega) tab.1 tab.2.1 hn (fun q cd' sz' hq lo hi hXA => ?_)
    have sub := wc_in_sub (w := v) (c := k) (x := wc_tu (w k)) (q := q) (v := fun j => wc_tu (w j)) hq s1 s2 rfl
    exact nm_r (nI_1 k) (ih (k + 1) g cd' sz' _ (by omega) (by omega) (wc_in_set hS (by omega) tab.1 tab.2.1 hq lo hi) sub.1 sub.2 hXA)
theorem xv_7 {post : Int32 → SX → Prop} (hs : wc_Set w c) (hA : wc_XA w c cd sz)
    (hp : ∀ cd' sz' tn' v, wc_Set v c → wc_Sub v (fun j => wc_tu (w j)) c → wc_Sub (fun j => wc_tu (w j)) v c → wc_XA v c cd' sz' → post (nI c) (nI c, rc, rs, cd', sz', tn', wy, fw, sq, rd, rh)) :
    ∀ m k f tn, k + m = c → m < f → (∀ j, j < k → tn j = nI (wc_tu (w j))) → wX_reverse_7 post (nI c) (nI c) rc rs f (nI k) cd sz tn wy fw sq rd rh := by
  have h6 := hs.1
  intro m
  induction m with
  | zero =>
    intro k f tn hk hf hT
    obtain ⟨g, rfl, _⟩ := wn_fuel hf
    refine br_t (nI_le (by omega) (by omega)) ⟨c + 1, xv_46 hs (fun j hj => hT j (by omega)) (fun cd' sz' v => hp cd' sz' tn v) c 0 (c + 1) cd sz (fun _ => 0) (by omega) (by omega) ?_ ?_ ?_ ?_⟩
    · exact ⟨by omega, fun i j _ h => absurd h (Nat.not_lt_zero j), fun k h => absurd h (Nat.not_lt_zero k)⟩
    · exact fun i h => absurd h (Nat.not_lt_zero i)
    · exact fun i h => absurd h (Nat.not_lt_zero i)
    · exact fun i h => absurd h (Nat.not_lt_zero i)
  | succ m ih =>
    intro k f tn hk hf hT
    obtain ⟨g, rfl, _⟩ := wn_fuel hf
    have hw := hs.2.2 k (by omega)
    have v0 : vp_in (nI k) 6 := vp_in_nI (by omega) (by decide)
    refine br_f (nI_ge (by omega) (by omega)) ⟨v0, v0, xs_turn (w k) (xa_c hA h6 (by omega)) (xa_s hA h6 (by omega)) hw.1 hw.2 ⟨v0, ?_⟩⟩
    rw [nI_clamp (by omega)]
    refine nm_e (nm_r (nI_1 k) (ih (k + 1) g _ (by omega) (by omega) (fun j hj => ?_)))
    by_cases e : j = k
    · rw [e, pk_us]
    · rw [pk_un e]
      exact hT j (by omega)
theorem yv_2 {post : Int32 → SY → Prop} (hs : wc_Set w c)
    (hp : ∀ yw' w', wc_Inc w' c → wc_Sub w' (fun j => wc_tu (w j)) c → wc_Sub (fun j => wc_tu (w j)) w' c → wc_YA w' c yw' → post (nI c) (nI c, yr, yw', ya, ye, yh)) :
    ∀ m k f yw, k + m = c → m < f → (∀ j, j < k → yw j = nI (wc_tu (w j))) → (∀ j, k ≤ j → j < c → yw j = nI (w j)) → wY_reverse_2 post (nI c) yr f (nI k) yw ya ye yh := by
  have h6 := hs.1
  intro m
  induction m with
  | zero =>
    intro k f yw hk hf lo hi
    obtain ⟨g, rfl, _⟩ := wn_fuel hf
    refine br_t (nI_le (by omega) (by omega)) (ys_sort (w := fun j => wc_tu (w j)) h6 (fun j hj => ?_) (wc_tu_inj (fun j hj => hs.2.2 j hj) (wc_inc_inj hs.2.1)) (fun j hj => lo j (by omega)) hp)
    exact (wc_tu_tab (w j) (hs.2.2 j hj).2 (hs.2.2 j hj).1).2.1
  | succ m ih =>
    intro k f yw hk hf lo hi
    obtain ⟨g, rfl, _⟩ := wn_fuel hf
    have hw := hs.2.2 k (by omega)
    refine br_f (nI_ge (by omega) (by omega)) ⟨vp_in_nI (by omega) (by decide), ?_⟩
    rw [nI_clamp (by omega), hi k (Nat.le_refl _) (by omega)]
    refine nm_e ⟨Nat.log2 (w k) + 1, ?_⟩
    have st := yt_L (post := post) (J := wY_reverse_2 post (nI c) yr g) (yw := yw) (ya := ya) (ye := ye) (yh := yh) (c := c) (yr := yr) (i := k) (x := w k) (by omega) hw.1 hw.2 (ih (k + 1) g _ (by omega) (by omega) (fun j hj => ?_) (fun j h1 h2 => ?_)) (Nat.log2 (w k)) 0 (Nat.log2 (w k) + 1) (by omega) (by omega)
    · rw [Nat.pow_zero, Nat.div_one] at st
      exact st
    · by_cases e : j = k
      · rw [e, pk_us]
      · rw [pk_un e]
        exact lo j (by omega)
    · rw [pk_un (by omega)]
      exact hi j (by omega) h2
end
theorem i_vc_reverse {k : Nat} {u : SX} {v : SY} (I : i_Rel k u v) (hk : k + 3 ≤ 1536) : wpX_reverse (fun r u' => wpY_reverse (fun r' v' => r' = r ∧ i_Rel (k + 3) u' v') v) u := by
  obtain ⟨c, R, w, cd, sz, tn, wy, fw, sq, rd, rh, yw, ya, ye, yh, rfl, rfl, hs, hX, hY, h0, h1⟩ := I
  refine ⟨c + 1, xv_7 hs hX (fun cd' sz' tn' v hS s1 s2 hXA => ?_) c 0 (c + 1) tn (by omega) (by omega) (fun j h => absurd h (Nat.not_lt_zero j))⟩
  refine ⟨c + 1, yv_2 hs (fun yw' w' hI t1 t2 hYA => ⟨rfl, i_mk hS hXA (fun j hj => ?_) h0 h1⟩) c 0 (c + 1) yw (by omega) (by omega) (fun j h => absurd h (Nat.not_lt_zero j)) (fun j _ hj => hY j hj)⟩
  rw [wc_uniq hS.2.1 hI (wc_sub_trans s1 t2) (wc_sub_trans t1 s2) j hj]
  exact hYA j hj
end
section
/-! the readings counted on both sides -/
theorem wn_m1 (q : Nat) : nI q + (-1) = nI q - 1 := (Int32.sub_eq_add_neg (nI q) 1).symm
section
variable {rc rs : Int32} {cd sz tn wy fw sq rd rh : Nat → Int32} {yr : Int32} {yw ya ye yh : Nat → Int32} {w : Nat → Nat} {c : Nat}
theorem xc_in {post : Int32 → SX → Prop} {J : Int32 → (Nat → Int32) → (Nat → Int32) → (Nat → Int32) → (Nat → Int32) → (Nat → Int32) → (Nat → Int32) → (Nat → Int32) → (Nat → Int32) → Prop} {code n p : Nat} {F : Nat → Nat}
    (hs : wc_Set w c) (hA : wc_XA w c cd sz) (hcode : code < 2 ^ 31) (hn : n ≤ 16) (hp : p < n) (hW : ∀ j, p < j → j ≤ n → wy j = nI (F j))
    (hJ : J (nI p + (-1)) cd sz tn (upd wy p (nI (wc_sum (wc_thr w code n F 0 p) c))) fw sq rd rh) :
    ∀ m k f, k + m = c → m < f → wX_countReadings_21 post J (nI code) (nI n) (nI p) (nI c) rc rs cd sz tn wy fw sq rd rh f (nI (wc_sum (wc_thr w code n F 0 p) k)) (nI k) := by
  have h6 := hs.1
  intro m
  induction m with
  | zero =>
    intro k f hk hf
    obtain ⟨g, rfl, _⟩ := wn_fuel hf
    have e : k = c := by omega
    subst e
    refine br_t (nI_le (Nat.le_refl _) (by omega)) ⟨vp_in_nI (by omega) (by decide), ?_⟩
    rw [nI_clamp (by omega)]
    exact nm_e (nm_e hJ)
  | succ m ih =>
    intro k f hk hf
    obtain ⟨g, rfl, _⟩ := wn_fuel hf
    refine br_f (nI_ge (by omega) (by omega)) (xs_ways hs hA hcode hn hp (by omega) hW ?_)
    exact nm_r (nI_add _ _) (nm_r (nI_1 k) (ih (k + 1) g (by omega) (by omega)))
theorem xc_out {post : Int32 → SX → Prop} {code n : Nat} {F : Nat → Nat} (hs : wc_Set w c) (hA : wc_XA w c cd sz) (hcode : code < 2 ^ 31) (hn : n ≤ 16) (hF : wc_W w c code n F)
    (hp : ∀ wy', (∀ j, j ≤ n → wy' j = nI (F j)) → post (nI (F 0)) (nI c, rc, rs, cd, sz, tn, wy', fw, sq, rd, rh)) :
    ∀ q f wy, q ≤ n → q < f → (∀ j, q ≤ j → j ≤ n → wy j = nI (F j)) → wX_countReadings_11 post (nI code) (nI n) (nI c) rc rs f (nI q - 1) cd sz tn wy fw sq rd rh := by
  intro q
  induction q with
  | zero =>
    intro f wy hq hf h
    obtain ⟨g, rfl, _⟩ := wn_fuel hf
    refine br_t (by decide) ?_
    rw [h 0 (Nat.le_refl _) hq]
    exact hp wy (fun j hj => h j (Nat.zero_le _) hj)
  | succ q ih =>
    intro f wy hq hf h
    obtain ⟨g, rfl, _⟩ := wn_fuel hf
    rw [nI_pred]
    refine br_f (nI_pos (by omega)) ⟨c + 1, xc_in hs hA hcode hn (by omega) (fun j h1 h2 => h j (by omega) h2) ?_ c 0 (c + 1) (by omega) (by omega)⟩
    rw [wn_m1, ← hF.2 q (by omega)]
    refine ih g _ (by omega) (by omega) (fun j h1 h2 => ?_)
    by_cases e : j = q
    · rw [e, pk_us]
    · rw [pk_un e]
      exact h j (by omega) h2
theorem xs_count {post : Int32 → SX → Prop} {code n : Nat} {F : Nat → Nat} (hs : wc_Set w c) (hA : wc_XA w c cd sz) (hcode : code < 2 ^ 31) (hn : n ≤ 16) (hF : wc_W w c code n F)
    (hp : ∀ wy', (∀ j, j ≤ n → wy' j = nI (F j)) → post (nI (F 0)) (nI c, rc, rs, cd, sz, tn, wy', fw, sq, rd, rh)) :
    wpX_countReadings post (nI c, rc, rs, cd, sz, tn, wy, fw, sq, rd, rh) (nI code) (nI n) := by
  unfold wpX_countReadings
  dsimp only
  refine ⟨vp_in_nI (by omega) (by decide), ?_⟩
  rw [nI_clamp (by omega)]
  refine nm_e (nm_e ⟨n + 1, xc_out hs hA hcode hn hF hp n (n + 1) _ (Nat.le_refl _) (by omega) (fun j h1 h2 => ?_)⟩)
  have e : j = n := by omega
  rw [e, pk_us, hF.1]
  rfl
theorem yc_in {post : Int32 → SY → Prop} {J : Int32 → (Nat → Int32) → (Nat → Int32) → (Nat → Int32) → (Nat → Int32) → Prop} {code n p : Nat} {F G : Nat → Nat}
    (hs : wc_Set w c) (hA : wc_YA w c yw) (hcode : code < 2 ^ 31) (hn : n ≤ 16) (hp : p < n)
    (hFG : ∀ j, j ≤ n → (F j = 0 ↔ G j = 99) ∧ F j ≤ 65536 ∧ (G j = 99 ∨ G j ≤ 16))
    (hJ : ∀ ya' ye', ya' p = nI (wc_sum (wc_thr w code n F 0 p) c) → ye' p = nI (wc_mn (wc_thr w code n G 99 p) c) → (∀ j, p < j → j ≤ n → ya' j = nI (F j) ∧ ye' j = nI (G j)) → J (nI p + (-1)) yw ya' ye' yh) :
    ∀ m k f ya ye, k + m = c → m < f → ya p = nI (wc_sum (wc_thr w code n F 0 p) k) → ye p = nI (wc_mn (wc_thr w code n G 99 p) k) → (∀ j, p < j → j ≤ n → ya j = nI (F j) ∧ ye j = nI (G j)) →
    wY_count_46 post J (nI code) (nI n) (nI p) (nI c) yr f (nI k) yw ya ye yh := by
  have h6 := hs.1
  intro m
  induction m with
  | zero =>
    intro k f ya ye hk hf ha he hr
    obtain ⟨g, rfl, _⟩ := wn_fuel hf
    have e : k = c := by omega
    subst e
    exact br_t (nI_le (Nat.le_refl _) (by omega)) (nm_e (hJ ya ye ha he hr))
  | succ m ih =>
    intro k f ya ye hk hf ha he hr
    obtain ⟨g, rfl, _⟩ := wn_fuel hf
    have hkc : k < c := by omega
    have hw := hs.2.2 k hkc
    have hm := wc_lg7 hw.1 hw.2
    have vk : vp_in (nI k) 7 := vp_in_nI (by omega) (by decide)
    have sS : wc_sum (wc_thr w code n F 0 p) (k + 1) = wc_sum (wc_thr w code n F 0 p) k + wc_thr w code n F 0 p k := rfl
    have sM := wc_mn_s (T := wc_thr w code n G 99 p) (k := k)
    refine br_f (nI_ge (by omega) (by omega)) ⟨vk, ys_stands (w k) (ya_w hA h6 hkc) hw.1 hw.2 hcode hn (by omega) (fun z => ?_) (fun z => ?_)⟩
    · have hl := wc_st_le z
      rw [wc_thr_t z] at sS sM
      refine br_f (by decide) ⟨vk, ys_len (w k) (ya_w hA h6 hkc) (by omega) (nm_r (nI_add p _) ?_)⟩
      generalize hx5 : p + Nat.log2 (w k) = x5 at *
      have hx : p < x5 := by omega
      have r5 := hr x5 hx hl
      have q5 := hFG x5 hl
      have vp : vp_in (nI p) 18 := vp_in_nI (by omega) (by decide)
      have v5 : vp_in (nI x5) 18 := vp_in_nI (by omega) (by decide)
      rw [nI_clamp (n := p) (by omega), nI_clamp (n := x5) (by omega), ha, r5.1, r5.2, he, nI_add, ← sS]
      refine ⟨vp, v5, vp, nm_e ⟨v5, ?_⟩⟩
      rw [pk_un (show x5 ≠ p by omega), r5.1]
      have hr' : ∀ j, p < j → j ≤ n → upd ya p (nI (wc_sum (wc_thr w code n F 0 p) (k + 1))) j = nI (F j) ∧ ye j = nI (G j) := fun j h1 h2 => by
        rw [pk_un (by omega)]
        exact hr j h1 h2
      by_cases f0 : F x5 = 0
      · have g9 := q5.1.mp f0
        rw [if_neg (by omega)] at sM
        refine br_t ?_ (nm_r (nI_1 k) (ih (k + 1) g _ _ (by omega) (by omega) pk_us (by rw [sM]; exact he) hr'))
        rw [f0]
        decide
      · have g9 : G x5 ≤ 16 := by
          rcases q5.2.2 with y | y
          · exact absurd (q5.1.mpr y) f0
          · exact y
        have mb := wc_mn_bnd (T := wc_thr w code n G 99 p) (m := 99) (c := k) (fun i hi => by
          by_cases hst : wc_st code n p (w i) = true
          · rw [wc_thr_t hst]
            have := hFG _ (wc_st_le hst)
            omega
          · rw [wc_thr_f hst]
            exact Or.inl rfl)
        refine br_f (nI_nle (by omega) (by omega)) ⟨v5, vp, ?_⟩
        rw [nI_1 (G x5)]
        by_cases h : wc_mn (wc_thr w code n G 99 p) k ≤ G x5 + 1
        · rw [if_neg (by omega)] at sM
          exact br_t (nI_le h (by omega)) (nm_r (nI_1 k) (ih (k + 1) g _ _ (by omega) (by omega) pk_us (by rw [sM]; exact he) hr'))
        · rw [if_pos (by omega)] at sM
          refine br_f (nI_ge (by omega) (by omega)) ⟨v5, vp, nm_e (nm_r (nI_1 k) (ih (k + 1) g _ _ (by omega) (by omega) pk_us (by rw [sM, pk_us]) (fun j h1 h2 => ?_)))⟩
          rw [pk_un (show j ≠ p by omega), pk_un (show j ≠ p by omega)]
          exact hr j h1 h2
    · rw [wc_thr_f z] at sS sM
      rw [if_neg (by omega)] at sM
      exact br_t rfl (nm_r (nI_1 k) (ih (k + 1) g ya ye (by omega) (by omega) (by rw [sS]; exact ha) (by rw [sM]; exact he) hr))
theorem yc_out {post : Int32 → SY → Prop} {code n : Nat} {F G : Nat → Nat} (hs : wc_Set w c) (hA : wc_YA w c yw) (hcode : code < 2 ^ 31) (hn : n ≤ 16) (hF : wc_W w c code n F) (hG : wc_G w c code n G)
    (hFG : ∀ j, j ≤ n → (F j = 0 ↔ G j = 99) ∧ F j ≤ 65536 ∧ (G j = 99 ∨ G j ≤ 16))
    (hp : ∀ ya' ye', (∀ j, j ≤ n → ya' j = nI (F j) ∧ ye' j = nI (G j)) → post (nI (F 0)) (nI c, yr, yw, ya', ye', yh)) :
    ∀ q f ya ye, q ≤ n → q < f → (∀ j, q ≤ j → j ≤ n → ya j = nI (F j) ∧ ye j = nI (G j)) → wY_count_24 post (nI code) (nI n) (nI c) yr f (nI q - 1) yw ya ye yh := by
  intro q
  induction q with
  | zero =>
    intro f ya ye hq hf h
    obtain ⟨g, rfl, _⟩ := wn_fuel hf
    refine br_t (by decide) ?_
    rw [(h 0 (Nat.le_refl _) hq).1]
    exact hp ya ye (fun j hj => h j (Nat.zero_le _) hj)
  | succ q ih =>
    intro f ya ye hq hf h
    obtain ⟨g, rfl, _⟩ := wn_fuel hf
    rw [nI_pred]
    have vq : vp_in (nI q) 18 := vp_in_nI (by omega) (by decide)
    refine br_f (nI_pos (by omega)) ⟨vq, ?_⟩
    rw [nI_clamp (by omega)]
    refine nm_e ⟨vq, nm_e ⟨c + 1, yc_in hs hA hcode hn (by omega) hFG (fun ya' ye' h1 h2 h3 => ?_) c 0 (c + 1) _ _ (by omega) (by omega) pk_us pk_us (fun j h1 h2 => ?_)⟩⟩
    · rw [wn_m1]
      refine ih g ya' ye' (by omega) (by omega) (fun j h4 h5 => ?_)
      by_cases e : j = q
      · rw [e, hF.2 q (by omega), hG.2 q (by omega)]
        exact ⟨h1, h2⟩
      · exact h3 j (by omega) h5
    · rw [pk_un (by omega), pk_un (by omega)]
      exact h j (by omega) h2
theorem wc_FG {code n : Nat} {F G : Nat → Nat} (hs : wc_Set w c) (hn : n ≤ 16) (hF : wc_W w c code n F) (hG : wc_G w c code n G) : ∀ j, j ≤ n → (F j = 0 ↔ G j = 99) ∧ F j ≤ 65536 ∧ (G j = 99 ∨ G j ≤ 16) := by
  intro j hj
  refine ⟨wc_GW hs hn hF hG (n - j) j (by omega), wc_W_16 hs hF hn hj, ?_⟩
  have := wc_G_bnd hs hG (n - j) j (by omega)
  omega
theorem ys_count {post : Int32 → SY → Prop} {code n : Nat} {F G : Nat → Nat} (hs : wc_Set w c) (hA : wc_YA w c yw) (hcode : code < 2 ^ 31) (hn : n ≤ 16) (hl : Nat.log2 code = n) (hF : wc_W w c code n F) (hG : wc_G w c code n G)
    (hp : ∀ ya' ye', (∀ j, j ≤ n → ya' j = nI (F j) ∧ ye' j = nI (G j)) → post (nI (F 0)) (nI c, yr, yw, ya', ye', yh)) :
    wpY_count post (nI c, yr, yw, ya, ye, yh) (nI code) := by
  unfold wpY_count
  dsimp only
  refine ys_len code rfl hcode ?_
  rw [hl]
  have vn : vp_in (nI n) 18 := vp_in_nI (by omega) (by decide)
  refine ⟨vn, ?_⟩
  rw [nI_clamp (by omega)]
  refine nm_e ⟨vn, nm_e (nm_e ⟨n + 1, yc_out hs hA hcode hn hF hG (wc_FG hs hn hF hG) hp n (n + 1) _ _ (Nat.le_refl _) (by omega) (fun j h1 h2 => ?_)⟩)⟩
  have e : j = n := by omega
  rw [e, pk_us, pk_us, hF.1, hG.1]
  exact ⟨rfl, rfl⟩
end
theorem i_vc_readings {k : Nat} {u : SX} {v : SY} (I : i_Rel k u v) (hk : k + 3 ≤ 1536) : wpX_readings (fun r u' => wpY_readings (fun r' v' => r' = r ∧ i_Rel (k + 3) u' v') v) u := by
  obtain ⟨c, R, w, cd, sz, tn, wy, fw, sq, rd, rh, yw, ya, ye, yh, rfl, rfl, hs, hX, hY, h0, h1⟩ := I
  have h16 := wn_r16 h0 h1
  unfold wpX_readings wpY_readings
  dsimp only
  refine xs_count hs hX (by omega) h16 (wc_wf_W hs) (fun wy' hw' => ?_)
  exact ys_count hs hY (by omega) h16 rfl (wc_wf_W hs) (wc_gf_G hs) (fun ya' ye' _ => ⟨rfl, i_mk hs hX hY h0 h1⟩)
end
section
/-! fewest, messages, doubtful, total -/
def wc_xv (g : Nat) : Int32 := if g = 99 then -4 else nI g
theorem wc_xv_99 : wc_xv 99 = -4 := rfl
theorem wc_xv_n {g : Nat} (h : g ≠ 99) : wc_xv g = nI g := if_neg h
section
variable {rc rs : Int32} {cd sz tn wy fw sq rd rh : Nat → Int32} {yr : Int32} {yw ya ye yh : Nat → Int32} {w : Nat → Nat} {c : Nat}
theorem xg_in {post : Int32 → Prop} {code n p : Nat} {G : Nat → Nat} (hs : wc_Set w c) (hA : wc_XA w c cd sz) (hcode : code < 2 ^ 31) (hn : n ≤ 16) (hp : p < n)
    (hG : ∀ j, j ≤ n → G j = 99 ∨ G j ≤ 16) (hf : ∀ j, p < j → j ≤ n → fw j = wc_xv (G j)) (h : post (wc_xv (wc_mn (wc_thr w code n G 99 p) c))) :
    ∀ m k f, k + m = c → m < f → wX_fewestWordsFrom_5 post (nI p) (nI c) (nI code) (nI n) cd sz tn wy fw sq rd rh f (wc_xv (wc_mn (wc_thr w code n G 99 p) k)) (nI k) := by
  have h6 := hs.1
  intro m
  induction m with
  | zero =>
    intro k f hk hf
    obtain ⟨g, rfl, _⟩ := wn_fuel hf
    have e : k = c := by omega
    subst e
    exact br_t (nI_le (Nat.le_refl _) (by omega)) h
  | succ m ih =>
    intro k f hk hff
    obtain ⟨g, rfl, _⟩ := wn_fuel hff
    have hkc : k < c := by omega
    have hw := hs.2.2 k hkc
    have hm := wc_lg7 hw.1 hw.2
    have vk : vp_in (nI k) 6 := vp_in_nI (by omega) (by decide)
    have sM := wc_mn_s (T := wc_thr w code n G 99 p) (k := k)
    have nx := ih (k + 1) g (by omega) (by omega)
    refine br_f (nI_ge (by omega) (by omega)) (xs_stands hs hA hcode hn (by omega) hkc (fun z => ?_) (fun z => ?_))
    · have hl := wc_st_le z
      rw [wc_thr_t z] at sM
      rw [xa_s hA h6 hkc, nI_add]
      generalize hx5 : p + Nat.log2 (w k) = x5 at *
      have q5 := hG x5 hl
      refine br_f (by decide) ⟨vk, vp_in_nI (by omega) (by decide), ?_⟩
      rw [nI_clamp (by omega), hf x5 (by omega) hl]
      by_cases g9 : G x5 = 99
      · rw [if_neg (by omega)] at sM
        rw [sM] at nx
        rw [g9, wc_xv_99]
        exact nm_e (br_t rfl (nm_r (nI_1 k) nx))
      · have g16 : G x5 ≤ 16 := by omega
        rw [wc_xv_n g9]
        refine nm_e (br_f (wn_4 (by omega)) ?_)
        have mb := wc_mn_bnd (T := wc_thr w code n G 99 p) (m := 17) (c := k) (fun i hi => by
          by_cases hst : wc_st code n p (w i) = true
          · rw [wc_thr_t hst]
            have := hG _ (wc_st_le hst)
            omega
          · rw [wc_thr_f hst]
            exact Or.inl rfl)
        by_cases m9 : wc_mn (wc_thr w code n G 99 p) k = 99
        · rw [if_pos (by omega)] at sM
          rw [sM, wc_xv_n (by omega)] at nx
          rw [m9, wc_xv_99]
          exact br_t rfl (nm_r (nI_1 _) (nm_r (nI_1 k) nx))
        · rw [wc_xv_n m9] at *
          refine br_f (wn_4 (by omega)) ?_
          rw [nI_1 (G x5)]
          by_cases hle : wc_mn (wc_thr w code n G 99 p) k ≤ G x5 + 1
          · rw [if_neg (by omega)] at sM
            rw [sM, wc_xv_n m9] at nx
            exact br_t (nI_le hle (by omega)) (nm_r (nI_1 k) nx)
          · rw [if_pos (by omega)] at sM
            rw [sM, wc_xv_n (by omega)] at nx
            exact br_f (nI_ge (by omega) (by omega)) (nm_e (nm_r (nI_1 k) nx))
    · rw [wc_thr_f z, if_neg (by omega)] at sM
      rw [sM] at nx
      exact br_t rfl (nm_r (nI_1 k) nx)
theorem xg_out {post : Int32 → SX → Prop} {code n : Nat} {G : Nat → Nat} (hs : wc_Set w c) (hA : wc_XA w c cd sz) (hcode : code < 2 ^ 31) (hn : n ≤ 16) (hG : wc_G w c code n G)
    (hp : ∀ fw', post (wc_xv (G 0)) (nI c, nI code, nI n, cd, sz, tn, wy, fw', sq, rd, rh)) :
    ∀ q f fw, q ≤ n → q < f → (∀ j, q ≤ j → j ≤ n → fw j = wc_xv (G j)) → wX_fewest_17 post (nI c) (nI code) (nI n) f (nI q - 1) cd sz tn wy fw sq rd rh := by
  have hb : ∀ j, j ≤ n → G j = 99 ∨ G j ≤ 16 := fun j hj => by
    have := wc_G_bnd hs hG (n - j) j (by omega)
    omega
  intro q
  induction q with
  | zero =>
    intro f fw hq hf h
    obtain ⟨g, rfl, _⟩ := wn_fuel hf
    refine br_t (by decide) ?_
    rw [h 0 (Nat.le_refl _) hq]
    exact hp fw
  | succ q ih =>
    intro f fw hq hf h
    obtain ⟨g, rfl, _⟩ := wn_fuel hf
    rw [nI_pred]
    refine br_f (nI_pos (by omega)) ?_
    unfold wpX_fewestWordsFrom
    dsimp only
    refine ⟨c + 1, xg_in hs hA hcode hn (by omega) hb (fun j h1 h2 => h j (by omega) h2) ⟨vp_in_nI (by omega) (by decide), ?_⟩ c 0 (c + 1) (by omega) (by omega)⟩
    rw [nI_clamp (by omega), wn_m1, ← hG.2 q (by omega)]
    refine nm_e (nm_e (ih g _ (by omega) (by omega) (fun j h1 h2 => ?_)))
    by_cases e : j = q
    · rw [e, pk_us]
    · rw [pk_un e]
      exact h j (by omega) h2
/-! messages and doubtful: rows with at least so many readings -/
def wc_rw (w : Nat → Nat) (c n lo : Nat) (b : Nat) : Nat → Nat
  | 0 => 0
  | d + 1 => wc_rw w c n lo b d + (if b ≤ wc_wf w c (lo + d) n n 0 then 1 else 0)
theorem wc_lgr {n d : Nat} (h : d < 2 ^ n) : Nat.log2 (2 ^ n + d) = n := wc_lgq (by omega) (by omega)
theorem wc_rw_le {n lo b : Nat} : ∀ d, wc_rw w c n lo b d ≤ d
  | 0 => Nat.le_refl 0
  | d + 1 => by
    have ih := wc_rw_le (n := n) (lo := lo) (b := b) d
    show wc_rw w c n lo b d + (if b ≤ wc_wf w c (lo + d) n n 0 then 1 else 0) ≤ d + 1
    split <;> omega
theorem xm_L {post : Int32 → SX → Prop} {n b : Nat} (hs : wc_Set w c) (hA : wc_XA w c cd sz) (hn : n ≤ 10) (hb : b ≤ 2) (hp : ∀ wy', post (nI (wc_rw w c n (2 ^ n) b (2 ^ n))) (nI c, rc, rs, cd, sz, tn, wy', fw, sq, rd, rh)) :
    ∀ m d f wy, d + m = 2 ^ n → m < f → wX_countRows_10 post (nI n) (nI b) (nI (2 ^ n)) f (nI (wc_rw w c n (2 ^ n) b d)) (nI (2 ^ n + d)) (nI c) rc rs cd sz tn wy fw sq rd rh := by
  have p10 : 2 ^ n ≤ 2 ^ 10 := wc_p2 hn
  have e10 : 2 ^ 10 = 1024 := by decide
  have e2 : (2 : Int32) * nI (2 ^ n) = nI (2 * 2 ^ n) := pk_mul 2 (2 ^ n)
  intro m
  induction m with
  | zero =>
    intro d f wy hd hf
    obtain ⟨g, rfl, _⟩ := wn_fuel hf
    have e : d = 2 ^ n := by omega
    refine br_t ?_ ?_
    · rw [e2]
      exact nI_le (by omega) (by omega)
    · rw [e]
      exact hp wy
  | succ m ih =>
    intro d f wy hd hf
    obtain ⟨g, rfl, _⟩ := wn_fuel hf
    refine br_f ?_ (xs_count hs hA (by omega) (by omega) (wc_wf_W hs) (fun wy' _ => ?_))
    · rw [e2]
      exact nI_ge (by omega) (by omega)
    · have nx := ih (d + 1) g wy' (by omega) (by omega)
      have hB := wc_W_16 hs (wc_wf_W (code := 2 ^ n + d) (n := n) hs) (by omega) (Nat.zero_le n)
      have sR : wc_rw w c n (2 ^ n) b (d + 1) = wc_rw w c n (2 ^ n) b d + (if b ≤ wc_wf w c (2 ^ n + d) n n 0 then 1 else 0) := rfl
      rw [sR] at nx
      by_cases h : b ≤ wc_wf w c (2 ^ n + d) n n 0
      · rw [if_pos h] at nx
        exact br_f (nI_nlt h (by omega)) (nm_r (nI_1 _) (nm_r (nI_1 _) nx))
      · rw [if_neg h] at nx
        exact br_t (nI_lt (by omega) (by omega)) (nm_r (nI_1 _) nx)
theorem xs_rows {post : Int32 → SX → Prop} {n b : Nat} (hs : wc_Set w c) (hA : wc_XA w c cd sz) (hn : n ≤ 10) (hb : b ≤ 2) (hp : ∀ wy', post (nI (wc_rw w c n (2 ^ n) b (2 ^ n))) (nI c, rc, rs, cd, sz, tn, wy', fw, sq, rd, rh)) :
    wpX_countRows post (nI c, rc, rs, cd, sz, tn, wy, fw, sq, rd, rh) (nI n) (nI b) := by
  unfold wpX_countRows
  dsimp only
  exact nm_r (wc_mk (by omega)) ⟨2 ^ n + 1, xm_L hs hA hn hb hp (2 ^ n) 0 (2 ^ n + 1) wy (by omega) (by omega)⟩
theorem ym_L {post : Int32 → SY → Prop} {n b : Nat} (hs : wc_Set w c) (hA : wc_YA w c yw) (hn : n ≤ 10) (hb : b ≤ 2) (hp : ∀ ya' ye', post (nI (wc_rw w c n (2 ^ n) b (2 ^ n))) (nI c, yr, yw, ya', ye', yh)) :
    ∀ m d f ya ye, d + m = 2 ^ n → m < f → wY_rowsWith_7 post (nI n) (nI b) f (nI (wc_rw w c n (2 ^ n) b d)) (nI (2 ^ n + d)) (nI c) yr yw ya ye yh := by
  have p10 : 2 ^ n ≤ 2 ^ 10 := wc_p2 hn
  have e10 : 2 ^ 10 = 1024 := by decide
  have e2 : (2 : Int32) <<< (nI n &&& 31) = nI (2 * 2 ^ n) := wc_shl (n := 2) (by omega) (by omega)
  intro m
  induction m with
  | zero =>
    intro d f ya ye hd hf
    obtain ⟨g, rfl, _⟩ := wn_fuel hf
    have e : d = 2 ^ n := by omega
    refine br_t ?_ ?_
    · rw [e2]
      exact nI_le (by omega) (by omega)
    · rw [e]
      exact hp ya ye
  | succ m ih =>
    intro d f ya ye hd hf
    obtain ⟨g, rfl, _⟩ := wn_fuel hf
    refine br_f ?_ (ys_count hs hA (by omega) (by omega) (wc_lgr (by omega)) (wc_wf_W hs) (wc_gf_G hs) (fun ya' ye' _ => ?_))
    · rw [e2]
      exact nI_ge (by omega) (by omega)
    · have nx := ih (d + 1) g ya' ye' (by omega) (by omega)
      have hB := wc_W_16 hs (wc_wf_W (code := 2 ^ n + d) (n := n) hs) (by omega) (Nat.zero_le n)
      have sR : wc_rw w c n (2 ^ n) b (d + 1) = wc_rw w c n (2 ^ n) b d + (if b ≤ wc_wf w c (2 ^ n + d) n n 0 then 1 else 0) := rfl
      rw [sR] at nx
      by_cases h : b ≤ wc_wf w c (2 ^ n + d) n n 0
      · rw [if_pos h] at nx
        exact br_f (nI_nlt h (by omega)) (nm_r (nI_1 _) (nm_r (nI_1 _) nx))
      · rw [if_neg h] at nx
        exact br_t (nI_lt (by omega) (by omega)) (nm_r (nI_1 _) nx)
theorem ys_rows {post : Int32 → SY → Prop} {n b : Nat} (hs : wc_Set w c) (hA : wc_YA w c yw) (hn : n ≤ 10) (hb : b ≤ 2) (hp : ∀ ya' ye', post (nI (wc_rw w c n (2 ^ n) b (2 ^ n))) (nI c, yr, yw, ya', ye', yh)) :
    wpY_rowsWith post (nI c, yr, yw, ya, ye, yh) (nI n) (nI b) := by
  unfold wpY_rowsWith
  dsimp only
  exact nm_r (wc_mk (by omega)) ⟨2 ^ n + 1, ym_L hs hA hn hb hp (2 ^ n) 0 (2 ^ n + 1) ya ye (by omega) (by omega)⟩
end
theorem i_vc_fewest {k : Nat} {u : SX} {v : SY} (I : i_Rel k u v) (hk : k + 3 ≤ 1536) : wpX_fewest (fun r u' => wpY_fewest (fun r' v' => r' = r ∧ i_Rel (k + 3) u' v') v) u := by
  obtain ⟨c, R, w, cd, sz, tn, wy, fw, sq, rd, rh, yw, ya, ye, yh, rfl, rfl, hs, hX, hY, h0, h1⟩ := I
  have h16 := wn_r16 h0 h1
  have hF : wc_W w c R (Nat.log2 R) (wc_wf w c R (Nat.log2 R) (Nat.log2 R)) := wc_wf_W hs
  have hG : wc_G w c R (Nat.log2 R) (wc_gf w c R (Nat.log2 R) (Nat.log2 R)) := wc_gf_G hs
  have q := wc_FG hs h16 hF hG 0 (Nat.zero_le _)
  unfold wpX_fewest wpY_fewest
  dsimp only
  refine ⟨vp_in_nI (by omega) (by decide), ?_⟩
  rw [nI_clamp (by omega)]
  refine nm_e (nm_e ⟨Nat.log2 R + 1, xg_out hs hX (by omega) h16 hG (fun fw' => ?_) (Nat.log2 R) (Nat.log2 R + 1) _ (Nat.le_refl _) (by omega) (fun j h2 h3 => ?_)⟩)
  · refine ys_count hs hY (by omega) h16 rfl hF hG (fun ya' ye' hr => ?_)
    have r0 := hr 0 (Nat.zero_le _)
    dsimp only
    rw [r0.2]
    generalize wc_wf w c R (Nat.log2 R) (Nat.log2 R) 0 = f0 at *
    generalize wc_gf w c R (Nat.log2 R) (Nat.log2 R) 0 = g0 at *
    refine pk_eq f0 0 (fun e => ⟨?_, i_mk hs hX hY h0 h1⟩) (fun e => ⟨?_, i_mk hs hX hY h0 h1⟩)
    · rw [q.1.mp e, wc_xv_99]
    · rw [wc_xv_n (fun z => e (q.1.mpr z))]
  · have e : j = Nat.log2 R := by omega
    rw [e, pk_us, hG.1]
    rfl
theorem wn_0t {x : Int32} {b : Nat} (hb : b < 2 ^ 31) (h1 : ¬ x < 0) (h2 : x ≤ nI b) : ∃ n, x = nI n ∧ n ≤ b := by
  obtain ⟨j, hj, rfl⟩ := nI_of h1
  exact ⟨j, rfl, (nI_leI hj hb).mp h2⟩
theorem i_vc_messages {k : Nat} {u : SX} {v : SY} (I : i_Rel k u v) (hk : k + 3 ≤ 1536) (v1 : Int32) : wpX_messages (fun r u' => wpY_messages (fun r' v' => r' = r ∧ i_Rel (k + 3) u' v') v v1) u v1 := by
  obtain ⟨c, R, w, cd, sz, tn, wy, fw, sq, rd, rh, yw, ya, ye, yh, rfl, rfl, hs, hX, hY, h0, h1⟩ := I
  have J : i_Rel (k + 3) (nI c, nI R, nI (Nat.log2 R), cd, sz, tn, wy, fw, sq, rd, rh) (nI c, nI R, yw, ya, ye, yh) := i_mk hs hX hY h0 h1
  unfold wpX_messages wpY_messages
  dsimp only
  by_cases a : v1 < 0
  · exact br_t a (br_t a ⟨rfl, J⟩)
  by_cases b : v1 ≤ 10
  · obtain ⟨n, rfl, hn⟩ := wn_0t (b := 10) (by decide) a b
    refine br_f a (br_t b (xs_rows (b := 1) hs hX hn (by omega) (fun wy' => ?_)))
    exact br_f a (br_t b (ys_rows (b := 1) hs hY hn (by omega) (fun ya' ye' => ⟨rfl, i_mk hs hX hY h0 h1⟩)))
  · exact br_f a (br_f b (br_f a (br_f b ⟨rfl, J⟩)))
theorem i_vc_doubtful {k : Nat} {u : SX} {v : SY} (I : i_Rel k u v) (hk : k + 3 ≤ 1536) (v1 : Int32) : wpX_doubtful (fun r u' => wpY_doubtful (fun r' v' => r' = r ∧ i_Rel (k + 3) u' v') v v1) u v1 := by
  obtain ⟨c, R, w, cd, sz, tn, wy, fw, sq, rd, rh, yw, ya, ye, yh, rfl, rfl, hs, hX, hY, h0, h1⟩ := I
  have J : i_Rel (k + 3) (nI c, nI R, nI (Nat.log2 R), cd, sz, tn, wy, fw, sq, rd, rh) (nI c, nI R, yw, ya, ye, yh) := i_mk hs hX hY h0 h1
  unfold wpX_doubtful wpY_doubtful
  dsimp only
  by_cases a : v1 < 0
  · exact br_t a (br_t a ⟨rfl, J⟩)
  by_cases b : v1 ≤ 10
  · obtain ⟨n, rfl, hn⟩ := wn_0t (b := 10) (by decide) a b
    refine br_f a (br_t b (xs_rows (b := 2) hs hX hn (by omega) (fun wy' => ?_)))
    exact br_f a (br_t b (ys_rows (b := 2) hs hY hn (by omega) (fun ya' ye' => ⟨rfl, i_mk hs hX hY h0 h1⟩)))
  · exact br_f a (br_f b (br_f a (br_f b ⟨rfl, J⟩)))
end
section
/-! total -/
section
variable {rc rs : Int32} {cd sz tn wy fw sq rd rh : Nat → Int32} {yr : Int32} {yw ya ye yh : Nat → Int32} {w : Nat → Nat} {c : Nat}
theorem wc_tf_s {b : Nat} : wc_tf w c (b + 1) = wc_set (wc_tf w c b) (b + 1) (wc_sum (wc_tt w (wc_tf w c b) (b + 1)) c) := rfl
theorem xa_in {post : Int32 → SX → Prop} {J : Int32 → (Nat → Int32) → (Nat → Int32) → (Nat → Int32) → (Nat → Int32) → (Nat → Int32) → (Nat → Int32) → (Nat → Int32) → (Nat → Int32) → Prop} {b : Nat} {x1 : Int32} {F : Nat → Nat}
    (hs : wc_Set w c) (hA : wc_XA w c cd sz) (hb : b ≤ 16) (hF : ∀ j, j < b → sq j = nI (F j))
    (hJ : J (nI (b + 1)) cd sz tn wy fw (upd sq b (nI (wc_sum (wc_tt w F b) c))) rd rh) :
    ∀ m k f, k + m = c → m < f → wX_total_31 post J x1 (nI b) (nI c) rc rs cd sz tn wy fw sq rd rh f (nI (wc_sum (wc_tt w F b) k)) (nI k) := by
  have h6 := hs.1
  intro m
  induction m with
  | zero =>
    intro k f hk hf
    obtain ⟨g, rfl, _⟩ := wn_fuel hf
    have e : k = c := by omega
    subst e
    refine br_t (nI_le (Nat.le_refl _) (by omega)) ⟨vp_in_nI (by omega) (by decide), ?_⟩
    rw [nI_clamp (by omega)]
    exact nm_e (nm_r (nI_1 b) hJ)
  | succ m ih =>
    intro k f hk hf
    obtain ⟨g, rfl, _⟩ := wn_fuel hf
    have hkc : k < c := by omega
    have hw := hs.2.2 k hkc
    have hm := wc_lg7 hw.1 hw.2
    have vk : vp_in (nI k) 6 := vp_in_nI (by omega) (by decide)
    have nx := ih (k + 1) g (by omega) (by omega)
    have sS : wc_sum (wc_tt w F b) (k + 1) = wc_sum (wc_tt w F b) k + wc_tt w F b k := rfl
    refine br_f (nI_ge (by omega) (by omega)) ⟨vk, ?_⟩
    rw [xa_s hA h6 hkc]
    by_cases h : Nat.log2 (w k) ≤ b
    · have e : wc_tt w F b k = F (b - Nat.log2 (w k)) := if_pos h
      rw [sS, e] at nx
      refine br_f (nI_nlt h (by omega)) ⟨vk, ?_⟩
      rw [pk_sub h]
      refine ⟨vp_in_nI (by omega) (by decide), ?_⟩
      rw [nI_clamp (n := b - Nat.log2 (w k)) (by omega), hF _ (by omega)]
      exact nm_r (nI_add _ _) (nm_r (nI_1 k) nx)
    · have e : wc_tt w F b k = 0 := if_neg h
      rw [sS, e, Nat.add_zero] at nx
      exact br_t (nI_lt (by omega) (by omega)) (nm_r (nI_1 k) nx)
theorem xa_out {post : Int32 → SX → Prop} {n : Nat} (hs : wc_Set w c) (hA : wc_XA w c cd sz) (hn : n ≤ 16)
    (hp : ∀ sq', post (nI (wc_tf w c n n)) (nI c, rc, rs, cd, sz, tn, wy, fw, sq', rd, rh)) :
    ∀ m b f sq, b + m = n → m < f → (∀ j, j ≤ b → sq j = nI (wc_tf w c b j)) → wX_total_21 post (nI n) (nI c) rc rs f (nI (b + 1)) cd sz tn wy fw sq rd rh := by
  intro m
  induction m with
  | zero =>
    intro b f sq hb hf h
    obtain ⟨g, rfl, _⟩ := wn_fuel hf
    have e : b = n := by omega
    subst e
    refine br_t (nI_lt (by omega) (by omega)) ⟨vp_in_nI (by omega) (by decide), ?_⟩
    rw [nI_clamp (by omega), h b (Nat.le_refl _)]
    exact hp sq
  | succ m ih =>
    intro b f sq hb hf h
    obtain ⟨g, rfl, _⟩ := wn_fuel hf
    refine br_f (nI_nlt (by omega) (by omega)) ⟨c + 1, xa_in (F := wc_tf w c b) hs hA (by omega) (fun j hj => h j (by omega)) ?_ c 0 (c + 1) (by omega) (by omega)⟩
    refine ih (b + 1) g _ (by omega) (by omega) (fun j hj => ?_)
    rw [wc_tf_s]
    by_cases e : j = b + 1
    · rw [e, pk_us, wc_set_s]
    · rw [pk_un e, wc_set_n e]
      exact h j (by omega)
theorem yb_in {post : Int32 → SY → Prop} {J : Int32 → (Nat → Int32) → (Nat → Int32) → (Nat → Int32) → (Nat → Int32) → Prop} {b : Nat} {x1 : Int32} {F : Nat → Nat}
    (hs : wc_Set w c) (hA : wc_YA w c yw) (hb : b ≤ 16)
    (hJ : ∀ ya', ya' b = nI (wc_sum (wc_tt w F b) c) → (∀ j, j < b → ya' j = nI (F j)) → J (nI (b + 1)) yw ya' ye yh) :
    ∀ m k f ya, k + m = c → m < f → ya b = nI (wc_sum (wc_tt w F b) k) → (∀ j, j < b → ya j = nI (F j)) → wY_total_35 post J x1 (nI b) (nI c) yr f (nI k) yw ya ye yh := by
  have h6 := hs.1
  intro m
  induction m with
  | zero =>
    intro k f ya hk hf ha hF
    obtain ⟨g, rfl, _⟩ := wn_fuel hf
    have e : k = c := by omega
    subst e
    exact br_t (nI_le (Nat.le_refl _) (by omega)) (nm_r (nI_1 b) (hJ ya ha hF))
  | succ m ih =>
    intro k f ya hk hf ha hF
    obtain ⟨g, rfl, _⟩ := wn_fuel hf
    have hkc : k < c := by omega
    have hw := hs.2.2 k hkc
    have hm := wc_lg7 hw.1 hw.2
    have sS : wc_sum (wc_tt w F b) (k + 1) = wc_sum (wc_tt w F b) k + wc_tt w F b k := rfl
    refine br_f (nI_ge (by omega) (by omega)) ⟨vp_in_nI (by omega) (by decide), ys_len (w k) (ya_w hA h6 hkc) (by omega) ?_⟩
    by_cases h : Nat.log2 (w k) ≤ b
    · have e : wc_tt w F b k = F (b - Nat.log2 (w k)) := if_pos h
      rw [e] at sS
      have vb : vp_in (nI b) 18 := vp_in_nI (by omega) (by decide)
      refine br_f (nI_nlt h (by omega)) ⟨vb, ?_⟩
      rw [pk_sub h]
      refine ⟨vp_in_nI (by omega) (by decide), vb, ?_⟩
      rw [nI_clamp (n := b) (by omega), nI_clamp (n := b - Nat.log2 (w k)) (by omega), ha, hF (b - Nat.log2 (w k)) (by omega), nI_add, ← sS]
      refine nm_e (nm_r (nI_1 k) (ih (k + 1) g _ (by omega) (by omega) pk_us (fun j hj => ?_)))
      rw [pk_un (by omega)]
      exact hF j hj
    · have e : wc_tt w F b k = 0 := if_neg h
      rw [e, Nat.add_zero] at sS
      exact br_t (nI_lt (by omega) (by omega)) (nm_r (nI_1 k) (ih (k + 1) g ya (by omega) (by omega) (by rw [sS]; exact ha) hF))
theorem yb_out {post : Int32 → SY → Prop} {n : Nat} (hs : wc_Set w c) (hA : wc_YA w c yw) (hn : n ≤ 16)
    (hp : ∀ ya', post (nI (wc_tf w c n n)) (nI c, yr, yw, ya', ye, yh)) :
    ∀ m b f ya, b + m = n → m < f → (∀ j, j ≤ b → ya j = nI (wc_tf w c b j)) → wY_total_21 post (nI n) (nI c) yr f (nI (b + 1)) yw ya ye yh := by
  intro m
  induction m with
  | zero =>
    intro b f ya hb hf h
    obtain ⟨g, rfl, _⟩ := wn_fuel hf
    have e : b = n := by omega
    subst e
    refine br_t (nI_lt (by omega) (by omega)) ⟨vp_in_nI (by omega) (by decide), ?_⟩
    rw [nI_clamp (by omega), h b (Nat.le_refl _)]
    exact hp ya
  | succ m ih =>
    intro b f ya hb hf h
    obtain ⟨g, rfl, _⟩ := wn_fuel hf
    refine br_f (nI_nlt (by omega) (by omega)) ⟨vp_in_nI (by omega) (by decide), ?_⟩
    rw [nI_clamp (by omega)]
    refine nm_e ⟨c + 1, yb_in (F := wc_tf w c b) hs hA (by omega) (fun ya' h1 h2 => ?_) c 0 (c + 1) _ (by omega) (by omega) pk_us (fun j hj => ?_)⟩
    · refine ih (b + 1) g _ (by omega) (by omega) (fun j hj => ?_)
      rw [wc_tf_s]
      by_cases e : j = b + 1
      · rw [e, wc_set_s]
        exact h1
      · rw [wc_set_n e]
        exact h2 j (by omega)
    · rw [pk_un (by omega)]
      exact h j (by omega)
end
theorem i_vc_total {k : Nat} {u : SX} {v : SY} (I : i_Rel k u v) (hk : k + 3 ≤ 1536) (v1 : Int32) : wpX_total (fun r u' => wpY_total (fun r' v' => r' = r ∧ i_Rel (k + 3) u' v') v v1) u v1 := by
  obtain ⟨c, R, w, cd, sz, tn, wy, fw, sq, rd, rh, yw, ya, ye, yh, rfl, rfl, hs, hX, hY, h0, h1⟩ := I
  have J : i_Rel (k + 3) (nI c, nI R, nI (Nat.log2 R), cd, sz, tn, wy, fw, sq, rd, rh) (nI c, nI R, yw, ya, ye, yh) := i_mk hs hX hY h0 h1
  unfold wpX_total wpY_total
  dsimp only
  by_cases a : v1 < 0
  · exact br_t a (br_t a ⟨rfl, J⟩)
  by_cases b : v1 ≤ 16
  · obtain ⟨n, rfl, hn⟩ := wn_0t (b := 16) (by decide) a b
    have st : ∀ (z : Nat → Int32) j, j ≤ 0 → upd z 0 1 j = nI (wc_tf w c 0 j) := fun z j hj => by
      have e : j = 0 := by omega
      rw [e, pk_us]
      rfl
    refine br_f a (br_t b (nm_e ⟨n + 1, xa_out hs hX hn (fun sq' => ?_) n 0 (n + 1) _ (by omega) (by omega) (st sq)⟩))
    exact br_f a (br_t b (nm_e ⟨n + 1, yb_out hs hY hn (fun ya' => ⟨rfl, i_mk hs hX hY h0 h1⟩) n 0 (n + 1) _ (by omega) (by omega) (st ya)⟩))
  · exact br_f a (br_f b (br_f a (br_f b ⟨rfl, J⟩)))
end
section
/-! read: the n-th reading, word by word -/
def wc_at : List Nat → Nat → Nat
  | [], _ => 0
  | k :: _, 0 => k
  | _ :: l, i + 1 => wc_at l i
section
variable {cd sz tn wy fw sq rd rh : Nat → Int32} {yw ya ye yh : Nat → Int32} {w : Nat → Nat} {c code n : Nat} {F : Nat → Nat}
theorem xk_in {post : Int32 → SX → Prop} {J : Int32 → Int32 → Int32 → Int32 → (Nat → Int32) → (Nat → Int32) → (Nat → Int32) → (Nat → Int32) → (Nat → Int32) → (Nat → Int32) → (Nat → Int32) → (Nat → Int32) → Prop} {p b b' k' : Nat} {x5 : Int32}
    (hs : wc_Set w c) (hA : wc_XA w c cd sz) (hcode : code < 2 ^ 31) (hn : n ≤ 16) (hp : p < n) (hW : ∀ j, p < j → j ≤ n → wy j = nI (F j)) (hB : ∀ j, j ≤ n → F j ≤ 65536)
    (hb : b ≤ 65536) (hk' : k' < c) (e : b = wc_sum (wc_thr w code n F 0 p) k' + b') (hb' : b' < wc_thr w code n F 0 p k')
    (hend : wX_takeReading_81 post J (nI b') (nI p) x5 (nI k') (nI c) (nI code) (nI n) cd sz tn wy fw sq rd rh) :
    ∀ m k f, k + m = k' → m < f → wX_takeReading_31 post J (nI p) x5 0 (nI c) (nI code) (nI n) cd sz tn wy fw sq rd rh f (nI (b - wc_sum (wc_thr w code n F 0 p) k)) (nI k) := by
  have h6 := hs.1
  have tb : ∀ k, wc_thr w code n F 0 p k ≤ 65536 := fun k => by
    by_cases hst : wc_st code n p (w k) = true
    · rw [wc_thr_t hst]
      exact hB _ (wc_st_le hst)
    · rw [wc_thr_f hst]
      omega
  intro m
  induction m with
  | zero =>
    intro k f hk hf
    obtain ⟨g, rfl, _⟩ := wn_fuel hf
    have ek : k = k' := by omega
    subst ek
    have eb : b - wc_sum (wc_thr w code n F 0 p) k = b' := by omega
    have t := tb k
    rw [eb]
    exact br_f (nI_ge hk' (by omega)) (xs_ways hs hA hcode hn hp hk' hW (br_f (nI_ge hb' (by omega)) hend))
  | succ m ih =>
    intro k f hk hf
    obtain ⟨g, rfl, _⟩ := wn_fuel hf
    have t := tb k
    have sS : wc_sum (wc_thr w code n F 0 p) (k + 1) = wc_sum (wc_thr w code n F 0 p) k + wc_thr w code n F 0 p k := rfl
    have sl := wc_sum_le (T := wc_thr w code n F 0 p) (a := k + 1) (b := k') (by omega)
    have nx := ih (k + 1) g (by omega) (by omega)
    rw [sS, ← Nat.sub_sub] at nx
    exact br_f (nI_ge (by omega) (by omega)) (xs_ways hs hA hcode hn hp (by omega) hW (br_t (nI_le (by omega) (by omega)) (nm_r (pk_sub (by omega)) (nm_r (nI_1 k) nx))))
theorem xk_out {post : Int32 → SX → Prop} (hs : wc_Set w c) (hA : wc_XA w c cd sz) (hcode : code < 2 ^ 31) (hn : n ≤ 16) (hW : ∀ j, j ≤ n → wy j = nI (F j)) (hB : ∀ j, j ≤ n → F j ≤ 65536) :
    ∀ (l : List Nat) (p b pl f : Nat) (rd : Nat → Int32), wc_path w c code n F l p b → p ≤ n → b ≤ 65536 → pl + l.length ≤ 16 → l.length < f →
    (∀ rd', (∀ i, i < pl → rd' i = rd i) → (∀ i, i < l.length → rd' (pl + i) = nI (wc_at l i)) → post (nI (pl + l.length)) (nI c, nI code, nI n, cd, sz, tn, wy, fw, sq, rd', rh)) →
    wX_takeReading_10 post (nI c) (nI code) (nI n) f (nI b) (nI p) (nI pl) (nI pl) cd sz tn wy fw sq rd rh := by
  have h6 := hs.1
  intro l
  induction l with
  | nil =>
    intro p b pl f rd hP hp hb hl hf h
    obtain ⟨g, rfl, _⟩ := wn_fuel hf
    have e : p = n := hP
    have H := h rd (fun _ _ => rfl) (fun i hi => absurd hi (Nat.not_lt_zero i))
    exact br_c (fun _ => H) (fun _ => br_t (nI_le (by omega) (by omega)) H)
  | cons k l ih =>
    intro p b pl f rd hP hp hb hl hf h
    obtain ⟨g, rfl, hg⟩ := wn_fuel hf
    obtain ⟨h1, h2, h3, b', h4, h5, h7⟩ := hP
    have hw := hs.2.2 k h2
    have hm := wc_lg7 hw.1 hw.2
    have hle := wc_st_le h3
    have hl2 : pl + (l.length + 1) ≤ 16 := hl
    have hg2 : l.length + 1 ≤ g := hg
    have b6 := hB _ hle
    have T := wc_thr_t (F := F) (z := 0) h3
    refine br_f (nI_ge (b := 16) (by omega) (by decide)) (br_f (nI_ge h1 (by omega)) ⟨c + 1, xk_in (b := b) (b' := b') (k' := k) hs hA hcode hn h1 (fun j _ q => hW j q) hB hb h2 h4 (by rw [T]; exact h5) ?_ k 0 (c + 1) (by omega) (by omega)⟩)
    unfold wX_takeReading_81
    refine ⟨vp_in_nI (by omega) (by decide), ?_⟩
    rw [nI_clamp (n := pl) (by omega), xa_s hA h6 h2]
    refine nm_e ⟨vp_in_nI (by omega) (by decide), nm_r (nI_add _ _) (nm_r (nI_1 pl) (nm_r (nI_1 pl) (ih _ b' (pl + 1) g _ h7 hle (by omega) (by omega) (by omega) (fun rd' q1 q2 => ?_))))⟩
    have E : pl + (k :: l).length = pl + 1 + l.length := by
      show pl + (l.length + 1) = pl + 1 + l.length
      omega
    have H := h rd' (fun i hi => by rw [q1 i (by omega), pk_un (by omega)]) (fun i hi => ?_)
    · rw [E] at H
      exact H
    · cases i with
      | zero =>
        rw [Nat.add_zero, q1 pl (by omega), pk_us]
        rfl
      | succ i =>
        have hi : i + 1 < l.length + 1 := hi
        have := q2 i (by omega)
        rw [show pl + (i + 1) = pl + 1 + i by omega, this]
        rfl
theorem yk_in {post : Int32 → SY → Prop} {J : Int32 → Int32 → Int32 → Prop} {p b b' k' : Nat} {x2 x7 : Int32}
    (hs : wc_Set w c) (hA : wc_YA w c yw) (hcode : code < 2 ^ 31) (hn : n ≤ 16) (hp : p < n) (hW : ∀ j, j ≤ n → ya j = nI (F j)) (hB : ∀ j, j ≤ n → F j ≤ 65536)
    (hb : b ≤ 65536) (hk' : k' < c) (e : b = wc_sum (wc_thr w code n F 0 p) k' + b') (hb' : b' < wc_thr w code n F 0 p k')
    (hend : wY_read_141 post J x2 (nI n) (nI p) (nI b') x7 (nI k') (nI c) (nI code) yw ya ye yh) :
    ∀ m k f, k + m = k' → m + 1 < f → wY_read_57 post J x2 (nI n) (nI p) x7 (nI c) (nI code) yw ya ye yh f (nI (b - wc_sum (wc_thr w code n F 0 p) k)) (-1) (nI k) := by
  have h6 := hs.1
  intro m
  induction m with
  | zero =>
    intro k f hk hf
    obtain ⟨g, rfl, hg⟩ := wn_fuel hf
    obtain ⟨g, rfl, _⟩ := wn_fuel hg
    have ek : k = k' := by omega
    subst ek
    have eb : b - wc_sum (wc_thr w code n F 0 p) k = b' := by omega
    have hw := hs.2.2 k hk'
    have hm := wc_lg7 hw.1 hw.2
    rw [eb]
    refine br_f (nI_ge hk' (by omega)) (br_f (by decide) ⟨vp_in_nI (by omega) (by decide), ys_stands (w k) (ya_w hA h6 hk') hw.1 hw.2 hcode hn (by omega) (fun z => ?_) (fun z => ?_)⟩)
    · have hle := wc_st_le z
      have b6 := hB _ hle
      rw [wc_thr_t z] at hb'
      refine br_f (by decide) ⟨vp_in_nI (by omega) (by decide), ys_len (w k) (ya_w hA h6 hk') (by omega) ?_⟩
      rw [nI_add]
      refine ⟨vp_in_nI (by omega) (by decide), ?_⟩
      rw [nI_clamp (n := p + Nat.log2 (w k)) (by omega), hW _ hle]
      exact nm_e (br_f (nI_ge hb' (by omega)) (nm_r (nI_1 k) (br_c (fun _ => hend) (fun _ => br_t (nI_pos' (by omega)) hend))))
    · rw [wc_thr_f z] at hb'
      omega
  | succ m ih =>
    intro k f hk hf
    obtain ⟨g, rfl, hg⟩ := wn_fuel hf
    have hkc : k < c := by omega
    have hw := hs.2.2 k hkc
    have hm := wc_lg7 hw.1 hw.2
    have sS : wc_sum (wc_thr w code n F 0 p) (k + 1) = wc_sum (wc_thr w code n F 0 p) k + wc_thr w code n F 0 p k := rfl
    have sl := wc_sum_le (T := wc_thr w code n F 0 p) (a := k + 1) (b := k') (by omega)
    have nx := ih (k + 1) g (by omega) (by omega)
    rw [sS, ← Nat.sub_sub] at nx
    refine br_f (nI_ge hkc (by omega)) (br_f (by decide) ⟨vp_in_nI (by omega) (by decide), ys_stands (w k) (ya_w hA h6 hkc) hw.1 hw.2 hcode hn (by omega) (fun z => ?_) (fun z => ?_)⟩)
    · have hle := wc_st_le z
      have b6 := hB _ hle
      rw [wc_thr_t z] at nx sS
      refine br_f (by decide) ⟨vp_in_nI (by omega) (by decide), ys_len (w k) (ya_w hA h6 hkc) (by omega) ?_⟩
      rw [nI_add]
      refine ⟨vp_in_nI (by omega) (by decide), ?_⟩
      rw [nI_clamp (n := p + Nat.log2 (w k)) (by omega), hW _ hle]
      exact nm_e (br_t (nI_le (by omega) (by omega)) (nm_r (pk_sub (by omega)) (nm_r (nI_1 k) nx)))
    · rw [wc_thr_f z, Nat.sub_zero] at nx
      exact br_t rfl (nm_r (nI_1 k) nx)
theorem yk_out {post : Int32 → SY → Prop} {i : Nat} (hi : i < 2 ^ 31) (hs : wc_Set w c) (hA : wc_YA w c yw) (hcode : code < 2 ^ 31) (hn : n ≤ 16) (hW : ∀ j, j ≤ n → ya j = nI (F j)) (hB : ∀ j, j ≤ n → F j ≤ 65536) :
    ∀ (l : List Nat) (p b dn f : Nat), wc_path w c code n F l p b → p ≤ n → b ≤ 65536 → dn ≤ i → l.length < f →
    (i - dn < l.length → post (nI (wc_at l (i - dn))) (nI c, nI code, yw, ya, ye, yh)) → (l.length ≤ i - dn → post (-4) (nI c, nI code, yw, ya, ye, yh)) →
    wY_read_44 post (nI i) (nI n) (nI c) (nI code) yw ya ye yh f (nI p) (nI b) (nI dn) := by
  have h6 := hs.1
  intro l
  induction l with
  | nil =>
    intro p b dn f hP hp hb hd hf ha hz
    obtain ⟨g, rfl, _⟩ := wn_fuel hf
    have e : p = n := hP
    exact br_t (nI_le (by omega) (by omega)) (hz (Nat.zero_le _))
  | cons k l ih =>
    intro p b dn f hP hp hb hd hf ha hz
    obtain ⟨g, rfl, hg⟩ := wn_fuel hf
    obtain ⟨h1, h2, h3, b', h4, h5, h7⟩ := hP
    have hw := hs.2.2 k h2
    have hm := wc_lg7 hw.1 hw.2
    have hle := wc_st_le h3
    have hg2 : l.length + 1 ≤ g := hg
    have b6 := hB _ hle
    have T := wc_thr_t (F := F) (z := 0) h3
    refine br_f (nI_ge h1 (by omega)) ⟨k + 2, yk_in (b := b) (b' := b') (k' := k) hs hA hcode hn h1 hW hB hb h2 h4 (by rw [T]; exact h5) ?_ k 0 (k + 2) (by omega) (by omega)⟩
    unfold wY_read_141
    refine pk_eq dn i (fun e => ?_) (fun e => ?_)
    · have H := ha (by show i - dn < l.length + 1; omega)
      rw [show i - dn = 0 by omega] at H
      exact H
    · refine nm_r (nI_1 dn) ⟨vp_in_nI (by omega) (by decide), ys_len (w k) (ya_w hA h6 h2) (by omega) (nm_r (nI_add _ _) (ih _ b' (dn + 1) g h7 hle (by omega) (by omega) (by omega) (fun q => ?_) (fun q => ?_)))⟩
      · have H := ha (by show i - dn < l.length + 1; omega)
        rw [show i - dn = i - (dn + 1) + 1 by omega] at H
        exact H
      · exact hz (by show l.length + 1 ≤ i - dn; omega)
end
theorem ys_read0 {yw ya ye yh : Nat → Int32} {w : Nat → Nat} {c R : Nat} {F G : Nat → Nat} {post : Int32 → SY → Prop} {x1 x2 : Int32} (hs : wc_Set w c) (hY : wc_YA w c yw) (h1 : R < 131072) (h16 : Nat.log2 R ≤ 16) (hF : wc_W w c R (Nat.log2 R) F) (hG : wc_G w c R (Nat.log2 R) G)
    (hb : x1 < 0 ∨ nI (F 0) ≤ x1 ∨ x2 < 0) (hp : ∀ ya' ye', post (-4) (nI c, nI R, yw, ya', ye', yh)) : wpY_read post (nI c, nI R, yw, ya, ye, yh) x1 x2 := by
  unfold wpY_read
  dsimp only
  refine ys_count hs hY (by omega) h16 rfl hF hG (fun ya' ye' _ => ?_)
  have H := hp ya' ye'
  refine br_c (fun _ => H) (fun a => br_c (fun _ => H) (fun b => ?_))
  rcases hb with z | z | z
  · exact absurd z a
  · exact absurd z b
  · exact br_f (Int32.not_le.mpr z) H
theorem ys_read1 {yw ya ye yh : Nat → Int32} {w : Nat → Nat} {c R b i : Nat} {F G : Nat → Nat} {l : List Nat} {post : Int32 → SY → Prop} (hs : wc_Set w c) (hY : wc_YA w c yw) (h1 : R < 131072) (h16 : Nat.log2 R ≤ 16) (hF : wc_W w c R (Nat.log2 R) F) (hG : wc_G w c R (Nat.log2 R) G)
    (hB : ∀ j, j ≤ Nat.log2 R → F j ≤ 65536) (lt : b < F 0) (hi : i < 2 ^ 31) (hP : wc_path w c R (Nat.log2 R) F l 0 b) (hl : l.length ≤ 16)
    (hp1 : i < l.length → ∀ ya' ye', post (nI (wc_at l i)) (nI c, nI R, yw, ya', ye', yh)) (hp0 : l.length ≤ i → ∀ ya' ye', post (-4) (nI c, nI R, yw, ya', ye', yh)) : wpY_read post (nI c, nI R, yw, ya, ye, yh) (nI b) (nI i) := by
  have b0 := hB 0 (Nat.zero_le _)
  unfold wpY_read
  dsimp only
  refine ys_count hs hY (by omega) h16 rfl hF hG (fun ya' ye' hr => ?_)
  refine br_f (nI_pos (by omega)) (br_f (nI_ge lt (by omega)) (br_t (nI_pos' hi) (ys_len R rfl (by omega) ⟨17, ?_⟩)))
  exact yk_out hi hs hY (by omega) h16 (fun j hj => (hr j hj).1) hB l 0 b 0 17 hP (Nat.zero_le _) (by omega) (Nat.zero_le _) (by omega) (fun z => hp1 z ya' ye') (fun z => hp0 z ya' ye')
theorem i_vc_read {k : Nat} {u : SX} {v : SY} (I : i_Rel k u v) (hk : k + 3 ≤ 1536) (v1 : Int32) (v2 : Int32) : wpX_read (fun r u' => wpY_read (fun r' v' => r' = r ∧ i_Rel (k + 3) u' v') v v1 v2) u v1 v2 := by
  obtain ⟨c, R, w, cd, sz, tn, wy, fw, sq, rd, rh, yw, ya, ye, yh, rfl, rfl, hs, hX, hY, h0, h1⟩ := I
  have h16 := wn_r16 h0 h1
  have hF : wc_W w c R (Nat.log2 R) (wc_wf w c R (Nat.log2 R) (Nat.log2 R)) := wc_wf_W hs
  have hG : wc_G w c R (Nat.log2 R) (wc_gf w c R (Nat.log2 R) (Nat.log2 R)) := wc_gf_G hs
  have hB : ∀ j, j ≤ Nat.log2 R → wc_wf w c R (Nat.log2 R) (Nat.log2 R) j ≤ 65536 := fun j hj => wc_W_16 hs hF h16 hj
  have ex := wc_path_ex hs hF (Nat.log2 R) 0
  have b0 := hB 0 (Nat.zero_le _)
  unfold wpX_read
  dsimp only
  refine xs_count hs hX (by omega) h16 hF (fun wy' hw' => ?_)
  dsimp only
  generalize wc_wf w c R (Nat.log2 R) (Nat.log2 R) = F at *
  by_cases a : v1 < 0
  · exact br_t a (ys_read0 hs hY h1 h16 hF hG (Or.inl a) (fun ya' ye' => ⟨rfl, i_mk hs hX hY h0 h1⟩))
  obtain ⟨b, hb, rfl⟩ := nI_of a
  by_cases lt : b < F 0
  · obtain ⟨l, hP, hl⟩ := ex b (by omega) lt
    refine br_f a (br_t (nI_lt lt (by omega)) ?_)
    unfold wpX_takeReading
    dsimp only
    refine ⟨17, xk_out hs hX (by omega) h16 hw' hB l 0 b 0 17 rd hP (Nat.zero_le _) (by omega) (by omega) (by omega) (fun rd' _ q2 => ?_)⟩
    rw [Nat.zero_add]
    dsimp only
    by_cases a2 : v2 < 0
    · exact br_t a2 (ys_read0 hs hY h1 h16 hF hG (Or.inr (Or.inr a2)) (fun ya' ye' => ⟨rfl, i_mk hs hX hY h0 h1⟩))
    obtain ⟨i, hi, rfl⟩ := nI_of a2
    by_cases hil : i < l.length
    · refine br_f a2 (br_f (nI_ge hil (by omega)) ⟨vp_in_nI (by omega) (by decide), ?_⟩)
      rw [nI_clamp (by omega)]
      have e := q2 i hil
      rw [Nat.zero_add] at e
      rw [e]
      exact ys_read1 hs hY h1 h16 hF hG hB lt hi hP (by omega) (fun _ ya' ye' => ⟨rfl, i_mk hs hX hY h0 h1⟩) (fun z => absurd z (by omega))
    · exact br_f a2 (br_t (nI_le (by omega) (by omega)) (ys_read1 hs hY h1 h16 hF hG hB lt hi hP (by omega) (fun z => absurd z hil) (fun _ ya' ye' => ⟨rfl, i_mk hs hX hY h0 h1⟩)))
  · exact br_f a (br_f (nI_nlt (by omega) (by omega)) (ys_read0 hs hY h1 h16 hF hG (Or.inr (Or.inl (nI_le (by omega) (by omega)))) (fun ya' ye' => ⟨rfl, i_mk hs hX hY h0 h1⟩)))
end
section
/-! isClear and shortest, X's side -/
abbrev wc_A8 : Type := (Nat → Int32) → (Nat → Int32) → (Nat → Int32) → (Nat → Int32) → (Nat → Int32) → (Nat → Int32) → (Nat → Int32) → (Nat → Int32) → Prop
theorem wc_ed_bd {o x : Nat} {d : Nat → Nat} (ho : 2 ≤ o) (ho2 : o < 64) (hx : 2 ≤ x) (hx2 : x < 128) (hb : wc_Bd d) (h0 : d o ≠ 0) : wc_Bd (wc_ed o x d) :=
  (wc_Vv_step (w := fun _ => x) (c := 1) (r := 0) (k := 0) (fun _ _ => ⟨hx, hx2⟩) ho ho2 (by omega) ⟨hb, h0, Nat.zero_le _, fun i hi => absurd hi (Nat.not_lt_zero i), fun o' q1 q2 _ q4 => Or.inr (Or.inr (wc_ct_self q4 (by omega) q2))⟩).1
theorem wc_vk_bd {w : Nat → Nat} {c o : Nat} {d : Nat → Nat} (hw : ∀ k, k < c → 2 ≤ w k ∧ w k < 128) (ho : 2 ≤ o) (ho2 : o < 64) (hb : wc_Bd d) (h0 : d o ≠ 0) : ∀ k, k ≤ c → wc_Bd (wc_vk w o k d)
  | 0, _ => hb
  | k + 1, hk => wc_ed_bd ho ho2 (hw k (by omega)).1 (hw k (by omega)).2 (wc_vk_bd hw ho ho2 hb h0 k (by omega)) (by rw [wc_vk_own h0 k]; exact h0)
theorem wc_rd_bd {w : Nat → Nat} {c : Nat} {d : Nat → Nat} (hw : ∀ k, k < c → 2 ≤ w k ∧ w k < 128) (hb : wc_Bd d) {m : Nat} (hm : m ≤ 62) : wc_Bd (wc_rd w c m d) :=
  (wc_rd_step (r := 0) hw hb (fun _ h1 h2 h3 => Or.inr (Or.inr (wc_ct_self h3 (by omega) h2))) m hm).1
def wc_XR (d : Nat → Nat) (rh : Nat → Int32) : Prop := ∀ j, j < 64 → rh j = nI (d j)
theorem xr_at {d : Nat → Nat} {rh : Nat → Int32} (h : wc_XR d rh) {j : Nat} (hj : j < 64) : rh (nI j).toNatClampNeg = nI (d j) := by
  rw [nI_clamp (by omega)]
  exact h j hj
theorem xr_set {d : Nat → Nat} {rh : Nat → Int32} (h : wc_XR d rh) (t b : Nat) : wc_XR (wc_set d t b) (upd rh t (nI b)) := by
  intro j hj
  by_cases e : j = t
  · rw [e, pk_us, wc_set_s]
  · rw [pk_un e, wc_set_n e]
    exact h j hj
section
variable {rc rs : Int32} {cd sz tn wy fw sq rd rh : Nat → Int32} {w : Nat → Nat} {c : Nat}
theorem xs_lower {post : Int32 → SX → Prop} {d : Nat → Nat} {t b : Nat} {xt xb : Int32} (et : xt = nI t) (eb : xb = nI b) (hd : wc_Bd d) (hR : wc_XR d rh) (ht : 1 ≤ t) (ht2 : t < 64) (hb : b < 999)
    (hp : ∀ r rh', wc_XR (wc_rx d t b) rh' → (r = 0 → wc_rx d t b = d) → (r = 0 ∨ r = 1) → post r (nI c, rc, rs, cd, sz, tn, wy, fw, sq, rd, rh')) :
    wpX_lowerReach post (nI c, rc, rs, cd, sz, tn, wy, fw, sq, rd, rh) xt xb := by
  subst et eb
  have bd := wc_bd_in hd ht ht2
  have vt : vp_in (nI t) 64 := vp_in_nI ht2 (by decide)
  unfold wpX_lowerReach
  dsimp only
  rw [xr_at hR ht2, nI_clamp (n := t) (by omega)]
  have up : ¬ wc_ok d t b → post 1 (nI c, rc, rs, cd, sz, tn, wy, fw, sq, rd, upd rh t (nI b)) := fun h => by
    refine hp 1 _ ?_ (fun z => absurd z (by decide)) (Or.inr rfl)
    rw [wc_rx_no h]
    exact xr_set hR t b
  refine ⟨vt, pk_eq (d t) 0 (fun e => ⟨vt, nm_e (up (fun z => z.1 e))⟩) (fun e => ⟨vt, pk_lt b (d t) (fun z => ⟨vt, nm_e (up (fun y => ?_))⟩) (fun z => ?_)⟩)⟩
  · have := y.2
    omega
  · refine hp 0 rh ?_ (fun _ => wc_rx_ok ⟨e, z⟩) (Or.inl rfl)
    rw [wc_rx_ok ⟨e, z⟩]
    exact hR
theorem wn_bool {r : Int32} (h : r = 0 ∨ r = 1) : narrow .boolean (.int r) = .int r := by
  rcases h with h | h
  · rw [h]
    rfl
  · rw [h]
    rfl
theorem xs_grow1 {post : Int32 → SX → Prop} {d : Nat → Nat} {o k : Nat} (hs : wc_Set w c) (hA : wc_XA w c cd sz) (hd : wc_Bd d) (hR : wc_XR d rh) (ho : 2 ≤ o) (ho2 : o < 64) (hk : k < c)
    (hp : ∀ r rh', wc_XR (wc_ed o (w k) d) rh' → (r = 0 → wc_ed o (w k) d = d) → (r = 0 ∨ r = 1) → post r (nI c, rc, rs, cd, sz, tn, wy, fw, sq, rd, rh')) :
    wpX_growOverhang post (nI c, rc, rs, cd, sz, tn, wy, fw, sq, rd, rh) (nI o) (nI k) := by
  have h6 := hs.1
  have hw := hs.2.2 k hk
  have vk : vp_in (nI k) 6 := vp_in_nI (by omega) (by decide)
  have vo : vp_in (nI o) 64 := vp_in_nI ho2 (by decide)
  have bo := wc_bd_in hd (j := o) (by omega) ho2
  have hm := wc_lg7 hw.1 hw.2
  have hl := wc_lg7 ho (show o < 128 by omega)
  unfold wpX_growOverhang
  dsimp only
  refine ⟨vk, xs_begin (w k) o (xa_c hA h6 hk) rfl hw.1 hw.2 ho (by omega) (fun z => ?_) (fun z => ?_)⟩
  · have rin := wc_rs_in hw.1 ho (by omega) (wc_bg_lt z)
    have E : wc_ed o (w k) d = wc_rx d (wc_rs (w k) o) (d o + 0) := wc_ed_some (by unfold wc_et; rw [if_pos z])
    rw [Nat.add_zero] at E
    rw [E] at hp
    refine br_f (by decide) ⟨vk, xs_rest (w k) o (xa_c hA h6 hk) rfl hw.1 hw.2 ho (by omega) (wc_bg_lt z) ⟨vo, xs_lower rfl (xr_at hR ho2) hd hR (by omega) rin.2.1 (by omega) (fun r rh' q1 q2 q3 => ⟨wn_bool q3, hp r rh' q1 q2 q3⟩)⟩⟩
  · refine br_t rfl ⟨vk, xs_begin o (w k) rfl (xa_c hA h6 hk) ho (by omega) hw.1 hw.2 (fun y => ?_) (fun y => ?_)⟩
    · have rin := wc_rs_in ho hw.1 hw.2 (wc_bg_lt y)
      have E : wc_ed o (w k) d = wc_rx d (wc_rs o (w k)) (d o + (Nat.log2 (w k) - Nat.log2 o)) := wc_ed_some (by unfold wc_et; rw [if_neg z, if_pos y])
      rw [E] at hp
      refine br_f (by decide) ⟨vk, xs_rest o (w k) rfl (xa_c hA h6 hk) ho (by omega) hw.1 hw.2 (wc_bg_lt y) (xs_size (wc_rs o (w k)) rfl (by omega) (by omega) ⟨vo, xs_lower rfl ?_ hd hR (by omega) rin.2.1 (by omega) (fun r rh' q1 q2 q3 => ⟨wn_bool q3, hp r rh' q1 q2 q3⟩)⟩)⟩
      rw [xr_at hR ho2, rin.2.2, nI_add]
    · have E : wc_ed o (w k) d = d := wc_ed_none (by unfold wc_et; rw [if_neg z, if_neg y])
      refine br_t rfl (hp 0 rh ?_ (fun _ => E) (Or.inl rfl))
      rw [E]
      exact hR
theorem xo_in {post : Int32 → SX → Prop} {J : Int32 → Int32 → Int32 → Int32 → Int32 → wc_A8} {d D : Nat → Nat} {o : Nat} (hs : wc_Set w c) (hA : wc_XA w c cd sz) (hd : wc_Bd d) (ho : 2 ≤ o) (ho2 : o < 64) (h0 : d o ≠ 0)
    (hJ : ∀ ch rh', wc_XR (wc_vk w o c d) rh' → (ch = 0 ∨ ch = 1) → (ch = 0 → wc_vk w o c d = D) → J ch (nI (o + 1)) (nI c) rc rs cd sz tn wy fw sq rd rh') :
    ∀ m k f ch rh, k + m = c → m < f → wc_XR (wc_vk w o k d) rh → (ch = 0 ∨ ch = 1) → (ch = 0 → wc_vk w o k d = D) → wX_growOverhangs_12 post J (nI o) f ch (nI k) (nI c) rc rs cd sz tn wy fw sq rd rh := by
  have h6 := hs.1
  intro m
  induction m with
  | zero =>
    intro k f ch rh hk hf hR hc hD
    obtain ⟨g, rfl, _⟩ := wn_fuel hf
    have e : k = c := by omega
    subst e
    exact br_t (nI_le (Nat.le_refl _) (by omega)) (nm_r (nI_1 o) (hJ ch rh hR hc hD))
  | succ m ih =>
    intro k f ch rh hk hf hR hc hD
    obtain ⟨g, rfl, _⟩ := wn_fuel hf
    have hkc : k < c := by omega
    have own := wc_vk_own (w := w) h0 k
    have bd := wc_vk_bd hs.2.2 ho ho2 hd h0 k (by omega)
    have bo := wc_bd_in hd (j := o) (by omega) ho2
    refine br_f (nI_ge hkc (by omega)) ⟨vp_in_nI ho2 (by decide), ?_⟩
    rw [xr_at hR ho2, own]
    refine br_f (nI_ne0 (by omega) (by omega)) (xs_grow1 hs hA bd hR ho ho2 hkc (fun r rh' q1 q2 q3 => ?_))
    rw [← wc_vk_s] at q1 q2
    rcases q3 with q3 | q3
    · subst q3
      refine br_t rfl (nm_r (nI_1 k) (ih (k + 1) g ch rh' (by omega) (by omega) q1 hc (fun z => ?_)))
      rw [q2 rfl]
      exact hD z
    · subst q3
      exact br_f (by decide) (nm_r (nI_1 k) (ih (k + 1) g 1 rh' (by omega) (by omega) q1 (Or.inr rfl) (fun z => absurd z (by decide))))
theorem xo_vis {post : Int32 → SX → Prop} {J : Int32 → Int32 → Int32 → Int32 → Int32 → wc_A8} {d D : Nat → Nat} {o : Nat} {ch : Int32} (hs : wc_Set w c) (hA : wc_XA w c cd sz) (hd : wc_Bd d) (hR : wc_XR d rh) (ho : 2 ≤ o) (ho2 : o < 64) (hc : ch = 0 ∨ ch = 1) (hD : ch = 0 → d = D)
    (hJ : ∀ ch rh', wc_XR (wc_vis w c o d) rh' → (ch = 0 ∨ ch = 1) → (ch = 0 → wc_vis w c o d = D) → J ch (nI (o + 1)) (nI c) rc rs cd sz tn wy fw sq rd rh') :
    wX_growOverhangs_12 post J (nI o) (c + 1) ch (nI 0) (nI c) rc rs cd sz tn wy fw sq rd rh := by
  have h6 := hs.1
  by_cases z : d o = 0
  · have E : wc_vis w c o d = d := if_pos z
    rw [E] at hJ
    have H := hJ ch rh hR hc hD
    refine br_c (fun _ => nm_r (nI_1 o) H) (fun _ => ⟨vp_in_nI ho2 (by decide), ?_⟩)
    rw [xr_at hR ho2, z]
    exact br_t rfl (nm_r (nI_1 o) H)
  · have E : wc_vis w c o d = wc_vk w o c d := if_neg z
    rw [E] at hJ
    exact xo_in hs hA hd ho ho2 z hJ c 0 (c + 1) ch rh (by omega) (by omega) hR hc hD
theorem xo_out {post : Int32 → SX → Prop} {D : Nat → Nat} (hs : wc_Set w c) (hA : wc_XA w c cd sz) (hd : wc_Bd D)
    (hp : ∀ ch rh', wc_XR (wc_rd w c 62 D) rh' → (ch = 0 ∨ ch = 1) → (ch = 0 → wc_rd w c 62 D = D) → post ch (nI c, rc, rs, cd, sz, tn, wy, fw, sq, rd, rh')) :
    ∀ e m f ch rh, m + e = 62 → e < f → wc_XR (wc_rd w c m D) rh → (ch = 0 ∨ ch = 1) → (ch = 0 → wc_rd w c m D = D) → wX_growOverhangs_4 post f ch (nI (m + 2)) (nI c) rc rs cd sz tn wy fw sq rd rh := by
  intro e
  induction e with
  | zero =>
    intro m f ch rh hm hf hR hc hD
    obtain ⟨g, rfl, _⟩ := wn_fuel hf
    have e : m = 62 := by omega
    subst e
    exact br_t (by decide) ⟨wn_bool hc, hp ch rh hR hc hD⟩
  | succ e ih =>
    intro m f ch rh hm hf hR hc hD
    obtain ⟨g, rfl, _⟩ := wn_fuel hf
    refine br_f (nI_ge (b := 64) (by omega) (by decide)) ⟨c + 1, xo_vis (d := wc_rd w c m D) (D := D) hs hA (wc_rd_bd hs.2.2 hd (by omega)) hR (by omega) (by omega) hc hD (fun ch' rh' q1 q2 q3 => ?_)⟩
    rw [← wc_rd_s] at q1 q3
    exact ih (m + 1) g ch' rh' (by omega) (by omega) q1 q2 q3
theorem xs_grow {post : Int32 → SX → Prop} {D : Nat → Nat} (hs : wc_Set w c) (hA : wc_XA w c cd sz) (hd : wc_Bd D) (hR : wc_XR D rh)
    (hp : ∀ ch rh', wc_XR (wc_rd w c 62 D) rh' → (ch = 0 ∨ ch = 1) → (ch = 0 → wc_rd w c 62 D = D) → post ch (nI c, rc, rs, cd, sz, tn, wy, fw, sq, rd, rh')) :
    wpX_growOverhangs post (nI c, rc, rs, cd, sz, tn, wy, fw, sq, rd, rh) := by
  unfold wpX_growOverhangs
  dsimp only
  exact ⟨63, xo_out hs hA hd hp 62 0 63 0 rh (by omega) (by omega) hR (Or.inl rfl) (fun _ => rfl)⟩
def wc_xr (v : Nat) : Int32 := if v = 999 then -4 else nI v
theorem wc_xr_9 : wc_xr 999 = -4 := rfl
theorem wc_xr_n {v : Nat} (h : v ≠ 999) : wc_xr v = nI v := if_neg h
theorem xd_68 {post : Int32 → SX → Prop} {J : Int32 → Int32 → Prop} {v z k : Nat} {zz : Int32} (ez : zz = nI z) (hv : v ≤ 999) (hz : z < 999) (hJ : J (wc_xr (if z ≠ 0 ∧ z < v then z else v)) (nI (k + 1))) :
    wX_leastDoubtfulBits_68 post J (wc_xr v) (nI k) zz (nI c) rc rs cd sz tn wy fw sq rd rh := by
  subst ez
  unfold wX_leastDoubtfulBits_68
  refine pk_eq z 0 (fun e => ?_) (fun e => ?_)
  · rw [if_neg (by omega)] at hJ
    exact nm_r (nI_1 k) hJ
  · by_cases v9 : v = 999
    · subst v9
      rw [if_pos (by omega), wc_xr_n (by omega)] at hJ
      exact br_t rfl (nm_r (nI_1 k) hJ)
    · rw [wc_xr_n v9]
      refine br_f (wn_4 (by omega)) (pk_le v z (fun y => ?_) (fun y => ?_))
      · rw [if_neg (by omega), wc_xr_n v9] at hJ
        exact nm_r (nI_1 k) hJ
      · rw [if_pos (by omega), wc_xr_n (by omega)] at hJ
        exact nm_r (nI_1 k) hJ
theorem xd_34 {post : Int32 → SX → Prop} {d : Nat → Nat} (hs : wc_Set w c) (hA : wc_XA w c cd sz) (hd : wc_Bd d) (hR : wc_XR d rh) (hp : post (wc_xr (wc_xl w d c)) (nI c, rc, rs, cd, sz, tn, wy, fw, sq, rd, rh)) :
    ∀ m k f, k + m = c → m < f → wX_leastDoubtfulBits_34 post (nI c) rc rs cd sz tn wy fw sq rd rh f (wc_xr (wc_xl w d k)) (nI k) := by
  have h6 := hs.1
  intro m
  induction m with
  | zero =>
    intro k f hk hf
    obtain ⟨g, rfl, _⟩ := wn_fuel hf
    have e : k = c := by omega
    subst e
    exact br_t (nI_le (Nat.le_refl _) (by omega)) hp
  | succ m ih =>
    intro k f hk hf
    obtain ⟨g, rfl, _⟩ := wn_fuel hf
    have hkc : k < c := by omega
    have hw := hs.2.2 k hkc
    have vk : vp_in (nI k) 6 := vp_in_nI (by omega) (by decide)
    have x9 := (wc_xl_ex (w := w) (d := d) k).1
    have nx := ih (k + 1) g (by omega) (by omega)
    rw [wc_xl_s] at nx
    refine br_f (nI_ge hkc (by omega)) ⟨vk, ?_⟩
    rw [xa_c hA h6 hkc]
    by_cases h : w k < 64
    · have rv : wc_rv w d k = d (w k) := if_pos h
      have bd := wc_bd_in hd (j := w k) (by omega) h
      rw [rv] at nx
      exact br_f (nI_ge (b := 64) h (by decide)) ⟨vk, vp_in_nI h (by decide), xd_68 (xr_at hR h) x9 (by omega) nx⟩
    · have rv : wc_rv w d k = 0 := if_neg h
      rw [rv] at nx
      exact br_t (nI_le (a := 64) (by omega) (by omega)) (xd_68 (z := 0) rfl x9 (by omega) nx)
theorem xd_8 {post : Int32 → SX → Prop} {D Z : Nat → Nat} (hs : wc_Set w c) (hA : wc_XA w c cd sz) (hd : wc_Bd D) (hZ : Z = wc_it w c 64 D) (hp : ∀ rh', post (wc_xr (wc_xl w Z c)) (nI c, rc, rs, cd, sz, tn, wy, fw, sq, rd, rh')) :
    ∀ e r f ch rh, r + e = 64 → e < f → wc_XR (wc_it w c r D) rh → (ch = 0 → Z = wc_it w c r D) → wX_leastDoubtfulBits_8 post f ch (nI r) (nI c) rc rs cd sz tn wy fw sq rd rh := by
  have bdr : ∀ r, wc_Bd (wc_it w c r D) := fun r => (wc_it_step hs.2.2 hd r).1
  have fin : ∀ r rh, Z = wc_it w c r D → wc_XR (wc_it w c r D) rh → ∃ n34 : Nat, wX_leastDoubtfulBits_34 post (nI c) rc rs cd sz tn wy fw sq rd rh n34 (-4) 0 := fun r rh e hR => by
    rw [e] at hp
    exact ⟨c + 1, xd_34 hs hA (bdr r) hR (hp rh) c 0 (c + 1) (by omega) (by omega)⟩
  intro e
  induction e with
  | zero =>
    intro r f ch rh hr hf hR hc
    obtain ⟨g, rfl, _⟩ := wn_fuel hf
    have er : r = 64 := by omega
    refine br_t (nI_le (a := 64) (by omega) (by omega)) (fin r rh ?_ hR)
    rw [er]
    exact hZ
  | succ e ih =>
    intro r f ch rh hr hf hR hc
    obtain ⟨g, rfl, _⟩ := wn_fuel hf
    refine br_f (nI_ge (b := 64) (by omega) (by decide)) (br_c (fun z => fin r rh (hc z) hR) (fun z => xs_grow hs hA (bdr r) hR (fun ch' rh' q1 q2 q3 => ?_)))
    rw [← wc_it_s] at q1 q3
    refine nm_r (nI_1 r) (ih (r + 1) g ch' rh' (by omega) (by omega) q1 (fun y => ?_))
    have fx := wc_it_fix (q3 y) (e + 1)
    rw [show r + (e + 1) = 64 by omega] at fx
    rw [q3 y, hZ]
    exact fx
/-! the start -/
theorem xz_33 {post : SX → Prop} {J : Int32 → Int32 → Int32 → Int32 → wc_A8} {i : Nat} {D : Nat → Nat} (hs : wc_Set w c) (hA : wc_XA w c cd sz) (hd : wc_Bd D) (hi : i < c)
    (hJ : ∀ rh', wc_XR (wc_s0 w i D c) rh' → J (nI (i + 1)) (nI c) rc rs cd sz tn wy fw sq rd rh') :
    ∀ m j f rh, j + m = c → m < f → wc_XR (wc_s0 w i D j) rh → wX_startOverhangs_33 post J (nI i) f (nI j) (nI c) rc rs cd sz tn wy fw sq rd rh := by
  have h6 := hs.1
  intro m
  induction m with
  | zero =>
    intro j f rh hj hf hR
    obtain ⟨g, rfl, _⟩ := wn_fuel hf
    have e : j = c := by omega
    subst e
    exact br_t (nI_le (Nat.le_refl _) (by omega)) (nm_r (nI_1 i) (hJ rh hR))
  | succ m ih =>
    intro j f rh hj hf hR
    obtain ⟨g, rfl, _⟩ := wn_fuel hf
    have hjc : j < c := by omega
    have hwi := hs.2.2 i hi
    have hwj := hs.2.2 j hjc
    have hm := wc_lg7 hwj.1 hwj.2
    have vi : vp_in (nI i) 6 := vp_in_nI (by omega) (by decide)
    have vj : vp_in (nI j) 6 := vp_in_nI (by omega) (by decide)
    have bd := wc_s0_bd hs.2.2 hi hd j (by omega)
    have sE := wc_s0_s (w := w) (i := i) (j := j) (d := D)
    refine br_f (nI_ge hjc (by omega)) ⟨vi, vj, xs_begin (w i) (w j) (xa_c hA h6 hi) (xa_c hA h6 hjc) hwi.1 hwi.2 hwj.1 hwj.2 (fun z => ?_) (fun z => ?_)⟩
    · have rin := wc_rs_in hwi.1 hwj.1 hwj.2 (wc_bg_lt z)
      rw [if_pos z] at sE
      refine br_f (by decide) ⟨vi, vj, xs_rest (w i) (w j) (xa_c hA h6 hi) (xa_c hA h6 hjc) hwi.1 hwi.2 hwj.1 hwj.2 (wc_bg_lt z) ⟨vj, xs_lower rfl (xa_s hA h6 hjc) bd hR (by omega) rin.2.1 (by omega) (fun r rh' q1 _ _ => ?_)⟩⟩
      rw [← sE] at q1
      exact nm_r (nI_1 j) (ih (j + 1) g rh' (by omega) (by omega) q1)
    · rw [if_neg z] at sE
      rw [← sE] at hR
      exact br_t rfl (nm_r (nI_1 j) (ih (j + 1) g rh (by omega) (by omega) hR))
theorem xz_23 {post : SX → Prop} (hs : wc_Set w c) (hA : wc_XA w c cd sz) (hp : ∀ rh', wc_XR (wc_s1 w c c) rh' → post (nI c, rc, rs, cd, sz, tn, wy, fw, sq, rd, rh')) :
    ∀ m i f rh, i + m = c → m < f → wc_XR (wc_s1 w c i) rh → wX_startOverhangs_23 post f (nI i) (nI c) rc rs cd sz tn wy fw sq rd rh := by
  have h6 := hs.1
  intro m
  induction m with
  | zero =>
    intro i f rh hi hf hR
    obtain ⟨g, rfl, _⟩ := wn_fuel hf
    have e : i = c := by omega
    subst e
    exact br_t (nI_le (Nat.le_refl _) (by omega)) (hp rh hR)
  | succ m ih =>
    intro i f rh hi hf hR
    obtain ⟨g, rfl, _⟩ := wn_fuel hf
    exact br_f (nI_ge (by omega) (by omega)) ⟨c + 1, xz_33 hs hA (wc_s1_bd hs.2.2 i (by omega)) (by omega) (fun rh' q => ih (i + 1) g rh' (by omega) (by omega) q) c 0 (c + 1) rh (by omega) (by omega) hR⟩
theorem xz_2 {post : SX → Prop} (hs : wc_Set w c) (hA : wc_XA w c cd sz) (hp : ∀ rh', wc_XR (wc_s1 w c c) rh' → post (nI c, rc, rs, cd, sz, tn, wy, fw, sq, rd, rh')) :
    ∀ e j f rh, j + e = 64 → e < f → (∀ i, i < j → rh i = 0) → wX_startOverhangs_2 post (nI c) rc rs f (nI j) cd sz tn wy fw sq rd rh := by
  intro e
  induction e with
  | zero =>
    intro j f rh hj hf h
    obtain ⟨g, rfl, _⟩ := wn_fuel hf
    refine br_t (nI_le (a := 64) (by omega) (by omega)) ⟨c + 1, xz_23 hs hA hp c 0 (c + 1) rh (by omega) (by omega) (fun i hi => ?_)⟩
    rw [h i (by omega)]
    rfl
  | succ e ih =>
    intro j f rh hj hf h
    obtain ⟨g, rfl, _⟩ := wn_fuel hf
    refine br_f (nI_ge (b := 64) (by omega) (by decide)) ⟨vp_in_nI (by omega) (by decide), ?_⟩
    rw [nI_clamp (by omega)]
    refine nm_e (nm_r (nI_1 j) (ih (j + 1) g _ (by omega) (by omega) (fun i hi => ?_)))
    by_cases e : i = j
    · rw [e, pk_us]
    · rw [pk_un e]
      exact h i (by omega)
theorem xs_least {post : Int32 → SX → Prop} (hs : wc_Set w c) (hA : wc_XA w c cd sz) (hp : ∀ rh', post (wc_xr (wc_xl w (wc_it w c 64 (wc_s1 w c c)) c)) (nI c, rc, rs, cd, sz, tn, wy, fw, sq, rd, rh')) :
    wpX_leastDoubtfulBits post (nI c, rc, rs, cd, sz, tn, wy, fw, sq, rd, rh) := by
  unfold wpX_leastDoubtfulBits wpX_startOverhangs
  dsimp only
  refine ⟨65, xz_2 hs hA (fun rh' q => ?_) 64 0 65 rh (by omega) (by omega) (fun i hi => absurd hi (Nat.not_lt_zero i))⟩
  exact ⟨65, xd_8 hs hA (wc_s1_bd hs.2.2 c (Nat.le_refl c)) rfl hp 64 0 65 1 rh' (by omega) (by omega) q (fun z => absurd z (by decide))⟩
end
end
section
/-! isClear and shortest, Y's side -/
abbrev wc_A4 : Type := (Nat → Int32) → (Nat → Int32) → (Nat → Int32) → (Nat → Int32) → Prop
def wc_v9 (z : Nat) : Nat := if z = 0 then 999 else z
theorem wc_v9_0 : wc_v9 0 = 999 := rfl
theorem wc_v9_n {z : Nat} (h : z ≠ 0) : wc_v9 z = z := if_neg h
def wc_YR (d : Nat → Nat) (yh : Nat → Int32) : Prop := ∀ j, j < 64 → yh j = nI (wc_v9 (d j))
theorem yr_at {d : Nat → Nat} {yh : Nat → Int32} (h : wc_YR d yh) {j : Nat} (hj : j < 64) : yh (nI j).toNatClampNeg = nI (wc_v9 (d j)) := by
  rw [nI_clamp (by omega)]
  exact h j hj
theorem wc_v9_le {z : Nat} (h : z ≤ 378) : wc_v9 z ≤ 999 := by
  unfold wc_v9
  split <;> omega
section
variable {yr : Int32} {yw ya ye yh : Nat → Int32} {w : Nat → Nat} {c : Nat}
theorem ys_meet {post : SY → Prop} {d : Nat → Nat} {t b : Nat} {xt xb : Int32} (et : xt = nI t) (eb : xb = nI b) (hd : wc_Bd d) (hR : wc_YR d yh) (ht : 1 ≤ t) (ht2 : t < 64) (hb : b < 999) (hb0 : b ≠ 0)
    (hp : ∀ yh', wc_YR (wc_rx d t b) yh' → post (nI c, yr, yw, ya, ye, yh')) : wpY_meet post (nI c, yr, yw, ya, ye, yh) xt xb := by
  subst et eb
  have bd := wc_bd_in hd ht ht2
  have v9 := wc_v9_le bd
  have vt : vp_in (nI t) 64 := vp_in_nI ht2 (by decide)
  unfold wpY_meet
  dsimp only
  rw [yr_at hR ht2, nI_clamp (n := t) (by omega)]
  by_cases g : wc_ok d t b
  · have e : wc_v9 (d t) = d t := wc_v9_n g.1
    rw [e]
    refine ⟨vt, br_t (nI_le g.2 (by omega)) (hp yh ?_)⟩
    rw [wc_rx_ok g]
    exact hR
  · have lt : b < wc_v9 (d t) := by
      unfold wc_v9
      split
      · exact hb
      · rename_i z
        have : ¬ d t ≤ b := fun y => g ⟨z, y⟩
        omega
    refine ⟨vt, br_f (nI_ge lt (by omega)) ⟨vt, nm_e (hp _ ?_)⟩⟩
    rw [wc_rx_no g]
    intro j hj
    by_cases e : j = t
    · rw [e, pk_us, wc_set_s, wc_v9_n hb0]
    · rw [pk_un e, wc_set_n e]
      exact hR j hj
theorem yg_84 {post : Int32 → SY → Prop} {d : Nat → Nat} {o x b : Nat} {bey : Int32} (hd : wc_Bd d) (hR : wc_YR d yh) (ho : 2 ≤ o) (ho2 : o < 64) (hx : 2 ≤ x) (hx7 : x < 128) (hb : b ≤ 378) (hb0 : b ≠ 0)
    (hbey : wc_bg o x = true → bey = nI (wc_rs o x)) (h1 : wc_bg o x = true → ∀ yh', wc_YR (wc_rx d (wc_rs o x) (b + (Nat.log2 x - Nat.log2 o))) yh' → post 999 (nI c, yr, yw, ya, ye, yh')) (h0 : ¬ wc_bg o x = true → post 999 (nI c, yr, yw, ya, ye, yh)) :
    wY_follow_84 post (nI o) (nI x) (nI b) (nI (Nat.log2 o)) (nI (Nat.log2 x)) bey (nI c) yr yw ya ye yh := by
  have hm := wc_lg7 hx hx7
  unfold wY_follow_84
  refine ys_begin o x rfl rfl ho (by omega) hx hx7 (fun z => ?_) (fun z => br_t rfl (h0 z))
  have lt := wc_bg_lt z
  have rin := wc_rs_in ho hx hx7 lt
  refine br_f (by decide) (ys_meet (hbey z) ?_ hd hR (by omega) rin.2.1 (by omega) (by omega) (h1 z))
  rw [nI_add, pk_sub (by omega)]
  exact congrArg nI (by omega)
theorem yg_66 {post : Int32 → SY → Prop} {d : Nat → Nat} {o x : Nat} {beh bey : Int32} (hd : wc_Bd d) (hR : wc_YR d yh) (ho : 2 ≤ o) (ho2 : o < 64) (hx : 2 ≤ x) (hx7 : x < 128) (h0 : d o ≠ 0)
    (hbeh : wc_bg x o = true → beh = nI (wc_rs x o)) (hbey : wc_bg o x = true → bey = nI (wc_rs o x)) (hp : ∀ yh', wc_YR (wc_ed o x d) yh' → post 999 (nI c, yr, yw, ya, ye, yh')) :
    wY_follow_66 post (nI o) (nI x) (nI (d o)) (nI (Nat.log2 o)) (nI (Nat.log2 x)) beh bey (nI c) yr yw ya ye yh := by
  have bo := wc_bd_in hd (j := o) (by omega) ho2
  unfold wY_follow_66
  refine ys_begin x o rfl rfl hx hx7 ho (by omega) (fun z => ?_) (fun z => ?_)
  · have lt := wc_bg_lt z
    have rin := wc_rs_in hx ho (by omega) lt
    have nb : ¬ wc_bg o x = true := fun y => by
      have := wc_bg_lt y
      omega
    have E : wc_ed o x d = wc_rx d (wc_rs x o) (d o + 0) := wc_ed_some (by unfold wc_et; rw [if_pos z])
    rw [Nat.add_zero] at E
    have bd2 := wc_ed_bd (x := x) ho ho2 hx hx7 hd h0
    rw [E] at hp bd2
    refine br_f (by decide) (ys_meet (hbeh z) rfl hd hR (by omega) rin.2.1 (by omega) h0 (fun yh' q => ?_))
    exact yg_84 bd2 q ho ho2 hx hx7 bo h0 (fun y => absurd y nb) (fun y => absurd y nb) (fun _ => hp yh' q)
  · refine br_t rfl (yg_84 hd hR ho ho2 hx hx7 bo h0 hbey (fun y yh' q => ?_) (fun y => ?_))
    · have E : wc_ed o x d = wc_rx d (wc_rs o x) (d o + (Nat.log2 x - Nat.log2 o)) := wc_ed_some (by unfold wc_et; rw [if_neg z, if_pos y])
      rw [← E] at q
      exact hp yh' q
    · have E : wc_ed o x d = d := wc_ed_none (by unfold wc_et; rw [if_neg z, if_neg y])
      rw [E] at hp
      exact hp yh hR
theorem yg_46 {post : Int32 → SY → Prop} {d : Nat → Nat} {o x : Nat} {beh : Int32} (hd : wc_Bd d) (hR : wc_YR d yh) (ho : 2 ≤ o) (ho2 : o < 64) (hx : 2 ≤ x) (hx7 : x < 128) (h0 : d o ≠ 0)
    (hbeh : wc_bg x o = true → beh = nI (wc_rs x o)) (hp : ∀ yh', wc_YR (wc_ed o x d) yh' → post 999 (nI c, yr, yw, ya, ye, yh')) :
    wY_follow_46 post (nI o) (nI x) (nI (d o)) (nI (Nat.log2 o)) (nI (Nat.log2 x)) beh (nI c) yr yw ya ye yh := by
  have hm := wc_lg7 hx hx7
  have hl := wc_lg7 ho (show o < 128 by omega)
  unfold wY_follow_46
  by_cases h : Nat.log2 x ≤ Nat.log2 o
  · refine br_t (nI_le h (by omega)) (yg_66 hd hR ho ho2 hx hx7 h0 hbeh (fun y => ?_) hp)
    have := wc_bg_lt y
    omega
  · exact br_f (nI_ge (by omega) (by omega)) (ys_rest o x rfl rfl hx hx7 (by omega) (yg_66 hd hR ho ho2 hx hx7 h0 hbeh (fun _ => rfl) hp))
theorem ys_follow {post : Int32 → SY → Prop} {d : Nat → Nat} {o x : Nat} {xx : Int32} (exx : xx = nI x) (hd : wc_Bd d) (hR : wc_YR d yh) (ho : 2 ≤ o) (ho2 : o < 64) (hx : 2 ≤ x) (hx7 : x < 128) (h0 : d o ≠ 0)
    (hp : ∀ yh', wc_YR (wc_ed o x d) yh' → post (if x = o then nI (d o) else 999) (nI c, yr, yw, ya, ye, yh')) : wpY_follow post (nI c, yr, yw, ya, ye, yh) (nI o) xx := by
  subst exx
  have hm := wc_lg7 hx hx7
  have hl := wc_lg7 ho (show o < 128 by omega)
  unfold wpY_follow
  dsimp only
  refine ⟨vp_in_nI ho2 (by decide), nm_r (e' := nI (d o)) (by rw [yr_at hR ho2, wc_v9_n h0]) (pk_eq x o (fun e => ?_) (fun e => ?_))⟩
  · have E : wc_ed o x d = d := wc_ed_none (by unfold wc_et; rw [e, wc_bg_self, if_neg (by decide), if_neg (by decide)])
    rw [E] at hp
    have H := hp yh hR
    rw [if_pos e] at H
    exact H
  · rw [if_neg e] at hp
    refine ys_len o rfl (by omega) (ys_len x rfl (by omega) ?_)
    by_cases h : Nat.log2 o ≤ Nat.log2 x
    · refine br_t (nI_le h (by omega)) (yg_46 hd hR ho ho2 hx hx7 h0 (fun y => ?_) hp)
      have := wc_bg_lt y
      omega
    · exact br_f (nI_ge (by omega) (by omega)) (ys_rest x o rfl rfl ho (by omega) (by omega) (yg_46 hd hR ho ho2 hx hx7 h0 (fun _ => rfl) hp))
theorem yh_in {post : Int32 → SY → Prop} {J1 J2 : Int32 → Int32 → Int32 → Int32 → wc_A4} {x2 : Int32} {d : Nat → Nat} {o b : Nat} (hs : wc_Set w c) (hA : wc_YA w c yw) (hd : wc_Bd d) (ho : 2 ≤ o) (ho2 : o < 64) (h0 : d o ≠ 0) (hb : b ≤ 999)
    (hJ : ∀ yh', wc_YR (wc_vk w o c d) yh' → J2 (nI (wc_bk w o d b c)) (nI (o + 1)) (nI c) yr yw ya ye yh') :
    ∀ m k f yh, k + m = c → m < f → wc_YR (wc_vk w o k d) yh → wY_shortestBits_151 post J1 J2 x2 (nI o) f (nI (wc_bk w o d b k)) (nI k) (nI c) yr yw ya ye yh := by
  have h6 := hs.1
  intro m
  induction m with
  | zero =>
    intro k f yh hk hf hR
    obtain ⟨g, rfl, _⟩ := wn_fuel hf
    have e : k = c := by omega
    subst e
    exact br_t (nI_le (Nat.le_refl _) (by omega)) (nm_r (nI_1 o) (hJ yh hR))
  | succ m ih =>
    intro k f yh hk hf hR
    obtain ⟨g, rfl, _⟩ := wn_fuel hf
    have hkc : k < c := by omega
    have hw := hs.2.2 k hkc
    have own := wc_vk_own (w := w) h0 k
    have bd := wc_vk_bd hs.2.2 ho ho2 hd h0 k (by omega)
    have bo := wc_bd_in hd (j := o) (by omega) ho2
    have bk := wc_bk_le (w := w) (o := o) (b := b) (d := d) k
    have sB := wc_bk_s (w := w) (o := o) (b := b) (k := k) (d := d)
    refine br_f (nI_ge hkc (by omega)) ⟨vp_in_nI ho2 (by decide), ?_⟩
    rw [yr_at hR ho2, own, wc_v9_n h0]
    refine br_f (nI_ge (b := 999) (by omega) (by decide)) ⟨vp_in_nI (by omega) (by decide), ys_follow (ya_w hA h6 hkc) bd hR ho ho2 hw.1 hw.2 (by rw [own]; exact h0) (fun yh' q => ?_)⟩
    rw [← wc_vk_s] at q
    have nx := ih (k + 1) g yh' (by omega) (by omega) q
    rw [sB] at nx
    rw [own]
    by_cases e : w k = o
    · rw [if_pos e]
      refine pk_le (wc_bk w o d b k) (d o) (fun y => ?_) (fun y => ?_)
      · rw [if_neg (by omega)] at nx
        exact nm_r (nI_1 k) nx
      · rw [if_pos ⟨e, y⟩] at nx
        exact nm_r (nI_1 k) nx
    · rw [if_neg e]
      rw [if_neg (fun y => e y.1)] at nx
      exact br_t (nI_le (b := 999) (by omega) (by decide)) (nm_r (nI_1 k) nx)
theorem yh_vis {post : Int32 → SY → Prop} {J1 J2 : Int32 → Int32 → Int32 → Int32 → wc_A4} {x2 : Int32} {d : Nat → Nat} {o b : Nat} (hs : wc_Set w c) (hA : wc_YA w c yw) (hd : wc_Bd d) (hR : wc_YR d yh) (ho : 2 ≤ o) (ho2 : o < 64) (hb : b ≤ 999)
    (hJ : ∀ yh', wc_YR (wc_vis w c o d) yh' → J2 (nI (wc_bv w c o d b)) (nI (o + 1)) (nI c) yr yw ya ye yh') : wY_shortestBits_151 post J1 J2 x2 (nI o) (c + 1) (nI b) (nI 0) (nI c) yr yw ya ye yh := by
  have h6 := hs.1
  by_cases z : d o = 0
  · have E : wc_vis w c o d = d := if_pos z
    have F : wc_bv w c o d b = b := if_pos z
    rw [E, F] at hJ
    have H := hJ yh hR
    refine br_c (fun _ => nm_r (nI_1 o) H) (fun _ => ⟨vp_in_nI ho2 (by decide), ?_⟩)
    rw [yr_at hR ho2, z, wc_v9_0]
    exact br_t (by decide) (nm_r (nI_1 o) H)
  · have E : wc_vis w c o d = wc_vk w o c d := if_neg z
    have F : wc_bv w c o d b = wc_bk w o d b c := if_neg z
    rw [E, F] at hJ
    exact yh_in hs hA hd ho ho2 z hb hJ c 0 (c + 1) yh (by omega) (by omega) hR
theorem yh_142 {post : Int32 → SY → Prop} {J1 : Int32 → Int32 → Int32 → Int32 → wc_A4} {r : Nat} {D : Nat → Nat} {b : Nat} (hs : wc_Set w c) (hA : wc_YA w c yw) (hd : wc_Bd D) (hb : b ≤ 999)
    (hJ : ∀ yh', wc_YR (wc_rd w c 62 D) yh' → J1 (nI (wc_br w c D b 62)) (nI (r + 1)) (nI c) yr yw ya ye yh') :
    ∀ e m f yh, m + e = 62 → e < f → wc_YR (wc_rd w c m D) yh → wY_shortestBits_142 post J1 (nI r) f (nI (wc_br w c D b m)) (nI (m + 2)) (nI c) yr yw ya ye yh := by
  intro e
  induction e with
  | zero =>
    intro m f yh hm hf hR
    obtain ⟨g, rfl, _⟩ := wn_fuel hf
    have e : m = 62 := by omega
    subst e
    exact br_t (by decide) (nm_r (nI_1 r) (hJ yh hR))
  | succ e ih =>
    intro m f yh hm hf hR
    obtain ⟨g, rfl, _⟩ := wn_fuel hf
    have hb2 := wc_br_le (w := w) (c := c) (b := b) (d := D) m
    refine br_f (nI_ge (b := 64) (by omega) (by decide)) ⟨c + 1, yh_vis hs hA (wc_rd_bd hs.2.2 hd (by omega)) hR (by omega) (by omega) (by omega) (fun yh' q => ?_)⟩
    rw [← wc_rd_s] at q
    exact ih (m + 1) g yh' (by omega) (by omega) q
theorem yh_134 {post : Int32 → SY → Prop} {D : Nat → Nat} {V : Nat} (hs : wc_Set w c) (hA : wc_YA w c yw) (hd : wc_Bd D) (hV : V = wc_bi w c D 64) (hp : ∀ yh', post (nI V) (nI c, yr, yw, ya, ye, yh')) :
    ∀ e r f yh, r + e = 64 → e < f → wc_YR (wc_it w c r D) yh → wY_shortestBits_134 post f (nI (wc_bi w c D r)) (nI r) (nI c) yr yw ya ye yh := by
  intro e
  induction e with
  | zero =>
    intro r f yh hr hf hR
    obtain ⟨g, rfl, _⟩ := wn_fuel hf
    have er : r = 64 := by omega
    have E : wc_bi w c D r = V := by rw [er, hV]
    rw [E]
    exact br_t (nI_le (a := 64) (by omega) (by omega)) (hp yh)
  | succ e ih =>
    intro r f yh hr hf hR
    obtain ⟨g, rfl, _⟩ := wn_fuel hf
    have hb := (wc_bi_B1 (w := w) (c := c) (d := D) r).2
    refine br_f (nI_ge (b := 64) (by omega) (by decide)) ⟨63, yh_142 hs hA (wc_it_step hs.2.2 hd r).1 hb (fun yh' q => ?_) 62 0 63 yh (by omega) (by omega) hR⟩
    rw [← wc_it_s] at q
    exact ih (r + 1) g yh' (by omega) (by omega) q
/-! the start -/
theorem yz_35 {post : Int32 → SY → Prop} {J : Int32 → Int32 → Int32 → wc_A4} {i : Nat} {D : Nat → Nat} (hs : wc_Set w c) (hA : wc_YA w c yw) (hd : wc_Bd D) (hi : i < c)
    (hJ : ∀ yh', wc_YR (wc_s0 w i D c) yh' → J (nI (i + 1)) (nI c) yr yw ya ye yh') :
    ∀ m j f yh, j + m = c → m < f → wc_YR (wc_s0 w i D j) yh → wY_shortestBits_35 post J (nI i) f (nI j) (nI c) yr yw ya ye yh := by
  have h6 := hs.1
  intro m
  induction m with
  | zero =>
    intro j f yh hj hf hR
    obtain ⟨g, rfl, _⟩ := wn_fuel hf
    have e : j = c := by omega
    subst e
    exact br_t (nI_le (Nat.le_refl _) (by omega)) (nm_r (nI_1 i) (hJ yh hR))
  | succ m ih =>
    intro j f yh hj hf hR
    obtain ⟨g, rfl, _⟩ := wn_fuel hf
    have hjc : j < c := by omega
    have hwi := hs.2.2 i hi
    have hwj := hs.2.2 j hjc
    have hm := wc_lg7 hwj.1 hwj.2
    have hn := wc_lg7 hwi.1 hwi.2
    have vi : vp_in (nI i) 7 := vp_in_nI (by omega) (by decide)
    have vj : vp_in (nI j) 7 := vp_in_nI (by omega) (by decide)
    have bd := wc_s0_bd hs.2.2 hi hd j (by omega)
    have sE := wc_s0_s (w := w) (i := i) (j := j) (d := D)
    have key : ∀ z0 : Int32, (wc_bg (w i) (w j) = true → z0 = nI (wc_rs (w i) (w j))) → wY_shortestBits_87 post J (wY_shortestBits_35 post J (nI i) g) (nI i) (nI j) (nI (Nat.log2 (w j))) z0 (nI c) yr yw ya ye yh := by
      intro z0 hz0
      unfold wY_shortestBits_87
      refine ⟨vi, vj, ys_begin (w i) (w j) (ya_w hA h6 hi) (ya_w hA h6 hjc) hwi.1 hwi.2 hwj.1 hwj.2 (fun z => ?_) (fun z => ?_)⟩
      · have rin := wc_rs_in hwi.1 hwj.1 hwj.2 (wc_bg_lt z)
        rw [if_pos z] at sE
        refine br_f (by decide) (ys_meet (hz0 z) rfl bd hR (by omega) rin.2.1 (by omega) (by omega) (fun yh' q => ?_))
        rw [← sE] at q
        exact nm_r (nI_1 j) (ih (j + 1) g yh' (by omega) (by omega) q)
      · rw [if_neg z] at sE
        rw [← sE] at hR
        exact br_t rfl (nm_r (nI_1 j) (ih (j + 1) g yh (by omega) (by omega) hR))
    refine br_f (nI_ge hjc (by omega)) ⟨vi, ys_len (w i) (ya_w hA h6 hi) (by omega) ⟨vj, ys_len (w j) (ya_w hA h6 hjc) (by omega) ?_⟩⟩
    by_cases h : Nat.log2 (w j) ≤ Nat.log2 (w i)
    · refine br_t (nI_le h (by omega)) (key 0 (fun y => ?_))
      have := wc_bg_lt y
      omega
    · exact br_f (nI_ge (by omega) (by omega)) ⟨vj, ys_rest (w i) (w j) (ya_w hA h6 hjc) rfl hwj.1 hwj.2 (by omega) (key _ (fun _ => rfl))⟩
theorem yz_25 {post : Int32 → SY → Prop} (hs : wc_Set w c) (hA : wc_YA w c yw) (hp : ∀ yh', wc_YR (wc_s1 w c c) yh' → ∃ n134 : Nat, wY_shortestBits_134 post n134 999 0 (nI c) yr yw ya ye yh') :
    ∀ m i f yh, i + m = c → m < f → wc_YR (wc_s1 w c i) yh → wY_shortestBits_25 post f (nI i) (nI c) yr yw ya ye yh := by
  have h6 := hs.1
  intro m
  induction m with
  | zero =>
    intro i f yh hi hf hR
    obtain ⟨g, rfl, _⟩ := wn_fuel hf
    have e : i = c := by omega
    subst e
    exact br_t (nI_le (Nat.le_refl _) (by omega)) (hp yh hR)
  | succ m ih =>
    intro i f yh hi hf hR
    obtain ⟨g, rfl, _⟩ := wn_fuel hf
    exact br_f (nI_ge (by omega) (by omega)) ⟨c + 1, yz_35 hs hA (wc_s1_bd hs.2.2 i (by omega)) (by omega) (fun yh' q => ih (i + 1) g yh' (by omega) (by omega) q) c 0 (c + 1) yh (by omega) (by omega) hR⟩
theorem yz_2 {post : Int32 → SY → Prop} (hs : wc_Set w c) (hA : wc_YA w c yw) (hp : ∀ yh', wc_YR (wc_s1 w c c) yh' → ∃ n134 : Nat, wY_shortestBits_134 post n134 999 0 (nI c) yr yw ya ye yh') :
    ∀ e j f yh, j + e = 64 → e < f → (∀ i, i < j → yh i = 999) → wY_shortestBits_2 post (nI c) yr f (nI j) yw ya ye yh := by
  intro e
  induction e with
  | zero =>
    intro j f yh hj hf h
    obtain ⟨g, rfl, _⟩ := wn_fuel hf
    refine br_t (nI_le (a := 64) (by omega) (by omega)) ⟨c + 1, yz_25 hs hA hp c 0 (c + 1) yh (by omega) (by omega) (fun i hi => ?_)⟩
    rw [h i (by omega)]
    rfl
  | succ e ih =>
    intro j f yh hj hf h
    obtain ⟨g, rfl, _⟩ := wn_fuel hf
    refine br_f (nI_ge (b := 64) (by omega) (by decide)) ⟨vp_in_nI (by omega) (by decide), ?_⟩
    rw [nI_clamp (by omega)]
    refine nm_e (nm_r (nI_1 j) (ih (j + 1) g _ (by omega) (by omega) (fun i hi => ?_)))
    by_cases e : i = j
    · rw [e, pk_us]
    · rw [pk_un e]
      exact h i (by omega)
theorem ys_short {post : Int32 → SY → Prop} (hs : wc_Set w c) (hA : wc_YA w c yw) (hp : ∀ yh', post (nI (wc_bi w c (wc_s1 w c c) 64)) (nI c, yr, yw, ya, ye, yh')) : wpY_shortestBits post (nI c, yr, yw, ya, ye, yh) := by
  unfold wpY_shortestBits
  dsimp only
  refine ⟨65, yz_2 hs hA (fun yh' q => ?_) 64 0 65 yh (by omega) (by omega) (fun i hi => absurd hi (Nat.not_lt_zero i))⟩
  exact ⟨65, yh_134 hs hA (wc_s1_bd hs.2.2 c (Nat.le_refl c)) rfl hp 64 0 65 yh' (by omega) (by omega) q⟩
end
end
section
/-! isClear, shortest -/
theorem wc_meet {w : Nat → Nat} {c : Nat} (hs : wc_Set w c) : ∃ V, V ≤ 999 ∧ wc_bi w c (wc_s1 w c c) 64 = V ∧ wc_xl w (wc_it w c 64 (wc_s1 w c c)) c = V :=
  ⟨_, (wc_bi_B1 64).2, rfl, (wc_least hs.2.2 (wc_s1_bd hs.2.2 c (Nat.le_refl c))).symm⟩
theorem i_vc_isClear {k : Nat} {u : SX} {v : SY} (I : i_Rel k u v) (hk : k + 3 ≤ 1536) : wpX_isClear (fun r u' => wpY_isClear (fun r' v' => r' = r ∧ i_Rel (k + 3) u' v') v) u := by
  obtain ⟨c, R, w, cd, sz, tn, wy, fw, sq, rd, rh, yw, ya, ye, yh, rfl, rfl, hs, hX, hY, h0, h1⟩ := I
  obtain ⟨V, hV, e1, e2⟩ := wc_meet hs
  unfold wpX_isClear wpY_isClear
  dsimp only
  refine xs_least hs hX (fun rh' => ?_)
  rw [e2]
  by_cases h : V = 999
  · refine br_t (by rw [h]; rfl) (ys_short hs hY (fun yh' => ?_))
    rw [e1]
    exact br_t (by rw [h]; rfl) ⟨rfl, i_mk hs hX hY h0 h1⟩
  · refine br_f (by rw [wc_xr_n h]; exact wn_4 (by omega)) (ys_short hs hY (fun yh' => ?_))
    rw [e1]
    exact pk_eq V 999 (fun e => absurd e h) (fun _ => ⟨rfl, i_mk hs hX hY h0 h1⟩)
theorem i_vc_shortest {k : Nat} {u : SX} {v : SY} (I : i_Rel k u v) (hk : k + 3 ≤ 1536) : wpX_shortest (fun r u' => wpY_shortest (fun r' v' => r' = r ∧ i_Rel (k + 3) u' v') v) u := by
  obtain ⟨c, R, w, cd, sz, tn, wy, fw, sq, rd, rh, yw, ya, ye, yh, rfl, rfl, hs, hX, hY, h0, h1⟩ := I
  obtain ⟨V, hV, e1, e2⟩ := wc_meet hs
  unfold wpX_shortest wpY_shortest
  dsimp only
  refine xs_least hs hX (fun rh' => ys_short hs hY (fun yh' => ?_))
  rw [e1, e2]
  refine pk_eq V 999 (fun e => ⟨?_, i_mk hs hX hY h0 h1⟩) (fun e => ⟨?_, i_mk hs hX hY h0 h1⟩)
  · rw [e]
    rfl
  · rw [wc_xr_n e]
end
