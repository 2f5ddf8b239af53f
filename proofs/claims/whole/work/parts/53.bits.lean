/-! bits of small numbers -/
def bI (b : Bool) : Int32 := cond b 1 0
theorem bI_0 {b : Bool} : bI b = 0 ↔ b = false := by cases b <;> decide
theorem bI_1 {b : Bool} : bI b = 1 ↔ b = true := by cases b <;> decide
theorem isB_bI (b : Bool) : isB (bI b) = true := by cases b <;> decide
theorem bI_t : bI true = 1 := rfl
theorem bI_f : bI false = 0 := rfl
def bN (p : Nat → Bool) : Nat → Nat
  | 0 => 0
  | n + 1 => bN p n + (if p n then 2 ^ n else 0)
theorem bN_lt (p : Nat → Bool) : ∀ n, bN p n < 2 ^ n
  | 0 => Nat.one_pos
  | n + 1 => by
    have := bN_lt p n
    rw [bN, Nat.pow_succ]
    split <;> omega
theorem bN_tb (p : Nat → Bool) : ∀ n i, (bN p n).testBit i = (decide (i < n) && p i)
  | 0, i => by simp [bN]
  | n + 1, i => by
    have hl := bN_lt p n
    have ih := bN_tb p n
    rw [bN]
    by_cases hp : p n = true
    · rw [if_pos hp, Nat.add_comm]
      by_cases h1 : i < n
      · rw [Nat.testBit_two_pow_add_gt h1, ih i]
        simp [h1, Nat.lt_succ_of_lt h1]
      · by_cases h2 : i = n
        · subst h2
          rw [Nat.testBit_two_pow_add_eq, ih i]
          simp [hp]
        · rw [Nat.testBit_lt_two_pow (Nat.lt_of_lt_of_le (show 2 ^ n + bN p n < 2 ^ (n + 1) by rw [Nat.pow_succ]; omega) (Nat.pow_le_pow_right (by decide) (by omega)))]
          simp; omega
    · rw [if_neg hp, Nat.add_zero, ih i]
      by_cases h2 : i = n
      · subst h2
        simp [hp]
      · have : decide (i < n + 1) = decide (i < n) := by rw [decide_eq_decide]; omega
        rw [this]
theorem bN_y {p : Nat → Bool} {n : Nat} (h : p n = true) : bN p (n + 1) = bN p n ||| 2 ^ n := by
  have := Nat.two_pow_add_eq_or_of_lt (bN_lt p n) 1
  rw [bN, if_pos h, Nat.or_comm, Nat.add_comm]
  rw [Nat.mul_one] at this
  exact this
theorem bN_n {p : Nat → Bool} {n : Nat} (h : p n = false) : bN p (n + 1) = bN p n := by
  rw [bN, if_neg (by rw [h]; decide), Nat.add_zero]
theorem bN_cong {p q : Nat → Bool} : ∀ {n : Nat}, (∀ k, k < n → p k = q k) → bN p n = bN q n
  | 0, _ => rfl
  | n + 1, h => by rw [bN, bN, bN_cong (fun k hk => h k (by omega)), h n (by omega)]
theorem tb_ext {a b : Nat} (h : ∀ i, a.testBit i = b.testBit i) : a = b := Nat.eq_of_testBit_eq h
theorem tb_hi {a n i : Nat} (h : a < 2 ^ n) (hi : n ≤ i) : a.testBit i = false := Nat.testBit_lt_two_pow (Nat.lt_of_lt_of_le h (Nat.pow_le_pow_right (by decide) hi))
theorem tb_lt {a n : Nat} (h : ∀ i, n ≤ i → a.testBit i = false) : a < 2 ^ n := Nat.lt_pow_two_of_testBit a h
theorem bN_of {a n : Nat} (h : a < 2 ^ n) : bN (fun i => a.testBit i) n = a := tb_ext (fun i => by
  rw [bN_tb]
  by_cases hi : i < n
  · simp [hi]
  · rw [tb_hi h (by omega)]; simp)
theorem sh1 : ∀ k : Nat, k < 31 → (1 : Int32) <<< (nI k &&& 31) = nI (2 ^ k) := by decide +kernel
theorem or_b {a k : Nat} (hk : k < 31) : nI a ||| ((1 : Int32) <<< (nI k &&& 31)) = nI (a ||| 2 ^ k) := by rw [sh1 k hk, fa_or]
theorem or_0 (x : Int32) : x ||| 0 = x := by
  apply b_ext; intro i hi; rw [b_or, b_0]; simp
theorem and_m1 (x : Int32) : x &&& (-1) = x := by
  apply b_ext; intro i hi; rw [b_and, b_m1 i hi]; simp
/-- a without b -/
def nm (a b : Nat) : Nat := a &&& (b ^^^ 4294967295)
theorem and_n (a b : Nat) : nI a &&& (nI b ^^^ (-1)) = nI (nm a b) := by
  rw [show (-1 : Int32) = nI 4294967295 from rfl, fb_xorI, fa_and]; rfl
theorem ones32 (i : Nat) : (4294967295 : Nat).testBit i = decide (i < 32) := by
  have := Nat.testBit_two_pow_sub_one 32 i
  exact this
theorem nm_tb {a : Nat} (ha : a < 2 ^ 32) (b i : Nat) : (nm a b).testBit i = (a.testBit i && !b.testBit i) := by
  unfold nm
  rw [Nat.testBit_and, Nat.testBit_xor, ones32]
  by_cases h : i < 32
  · simp [h]
  · rw [tb_hi ha (by omega)]; simp
theorem nm_le (a b : Nat) : nm a b ≤ a := Nat.and_le_left
theorem and_le2 (a b : Nat) : a &&& b ≤ b := Nat.and_le_right
theorem nm_0 {a b : Nat} (ha : a < 2 ^ 31) : nI (nm a b) = 0 ↔ ∀ i, a.testBit i = true → b.testBit i = true := by
  have hl := nm_le a b
  rw [show (0 : Int32) = nI 0 from rfl, nI_eq (by omega) (by omega)]
  constructor
  · intro h i hi
    have := nm_tb (Nat.lt_trans ha (by decide)) b i
    rw [h, hi] at this
    simp at this; exact this
  · intro h
    apply tb_ext; intro i
    rw [nm_tb (Nat.lt_trans ha (by decide)), Nat.zero_testBit]
    by_cases hi : a.testBit i = true
    · rw [h i hi]; simp
    · simp [hi]
theorem has_c {a k : Nat} (ha : a < 65536) (hk : k < 16) (u : US) : fX11_has (nI a) (nI k) u = some (bI (a.testBit k), u) := by
  unfold fX11_has
  by_cases h : a.testBit k = true
  · rw [if_neg (fun q => by rw [(nx_bit ha hk).mp q] at h; cases h), h]; rfl
  · have h := ts_nt h
    rw [if_pos ((nx_bit ha hk).mpr h), h]; rfl
theorem shr_m {a k : Nat} (ha : a < 2 ^ 31) (hk : k < 32) : nI a >>> (nI k &&& 31) = nI (a / 2 ^ k) := pk_shrN ha _ k (s_l k hk)
theorem has_m {a k : Nat} (ha : a < 2 ^ 31) (hk : k < 32) (u : US) : fX12_has (nI a) (nI k) u = some (bI (a.testBit k), u) := by
  unfold fX12_has
  rw [shr_m ha hk, show (1 : Int32) = nI (2 ^ 1 - 1) from rfl, fa_mask]
  have e : a.testBit k = decide (a / 2 ^ k % 2 = 1) := by rw [Nat.testBit_eq_decide_div_mod_eq]
  have hl : a / 2 ^ k % 2 ^ 1 < 2 := Nat.mod_lt _ (by decide)
  rw [e]
  by_cases h : a / 2 ^ k % 2 = 1
  · rw [if_pos (show nI (a / 2 ^ k % 2 ^ 1) = nI (2 ^ 1 - 1) by rw [show (2 : Nat) ^ 1 = 2 from rfl, h]), decide_eq_true h]; rfl
  · rw [if_neg (show ¬ nI (a / 2 ^ k % 2 ^ 1) = nI (2 ^ 1 - 1) from fun q => h ((nI_eq (by omega) (by decide)).mp q)), decide_eq_false h]; rfl
/-! counting bits -/
def pcN (a : Nat) : Nat := fb_ct (fun i => a.testBit i) 8
def bcE (v : Int32) : Int32 := (match fJ6_bitCount_0f7a4 v (fun _ _ => 0, fun _ _ => 0, fun _ _ => 0, fun _ => 0) with | some r => r.1 | none => 0)
theorem bc_e (v : Int32) (u : US) : fJ6_bitCount_0f7a4 v u = some (bcE v, u) := rfl
theorem bc8 : ∀ a : Nat, a < 256 → bcE (nI a) = nI (pcN a) := by decide +kernel
theorem bc_n {a : Nat} (h : a < 256) (u : US) : fJ6_bitCount_0f7a4 (nI a) u = some (nI (pcN a), u) := by rw [bc_e, bc8 a h]
theorem pcN_le (a : Nat) : pcN a ≤ 8 := fb_ct_le _ 8
theorem pcN_0 : pcN 0 = 0 := by decide
theorem all_n : ∀ k : Nat, k ≤ 8 → (1 : Int32) <<< (nI k &&& 31) - 1 = nI (2 ^ k - 1) := by decide +kernel
theorem all_c {k : Nat} (h : k ≤ 8) (u : US) : fX11_allOf (nI k) u = some (nI (2 ^ k - 1), u) := by unfold fX11_allOf; rw [all_n k h]
theorem all_m {k : Nat} (h : k ≤ 8) (u : US) : fX12_all (nI k) u = some (nI (2 ^ k - 1), u) := by unfold fX12_all; rw [all_n k h]
theorem flag_m (b : Bool) (u : US) : fX12_flag (bI b) u = some (bI b, u) := by cases b <;> rfl
theorem pow8 {k n : Nat} (h : k ≤ n) : 2 ^ k ≤ 2 ^ n := Nat.pow_le_pow_right (by decide) h
