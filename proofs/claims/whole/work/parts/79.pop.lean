/-! bits of a long, counted -/
def mkB (c : Nat) : Nat → Nat
  | 0 => 0
  | n + 1 => c + 256 * mkB c n
theorem and_dig {a c : Nat} (ha : a < 256) (hc : c < 256) (x y : Nat) : (a + 256 * x) &&& (c + 256 * y) = (a &&& c) + 256 * (x &&& y) := by
  have h : a &&& c < 2 ^ 8 := Nat.lt_of_le_of_lt Nat.and_le_left ha
  apply Nat.eq_of_testBit_eq
  intro i
  rw [Nat.add_comm a, Nat.add_comm c, Nat.add_comm (a &&& c), Nat.testBit_and, show 256 * x + a = 2 ^ 8 * x + a from rfl, show 256 * y + c = 2 ^ 8 * y + c from rfl, show 256 * (x &&& y) + (a &&& c) = 2 ^ 8 * (x &&& y) + (a &&& c) from rfl, Nat.testBit_two_pow_mul_add x ha, Nat.testBit_two_pow_mul_add y hc, Nat.testBit_two_pow_mul_add (x &&& y) h]
  by_cases q : i < 8
  · rw [if_pos q, if_pos q, if_pos q, Nat.testBit_and]
  · rw [if_neg q, if_neg q, if_neg q, Nat.testBit_and]
def P1 (n v : Nat) : Nat := v - ((v / 2) &&& mkB 85 n)
def P2 (n v : Nat) : Nat := (v &&& mkB 51 n) + ((v / 4) &&& mkB 51 n)
def P3 (n v : Nat) : Nat := (v + v / 16) &&& mkB 15 n
def g1 (a : Nat) : Nat := a - ((a / 2) &&& 85)
def g2 (a : Nat) : Nat := (a &&& 51) + ((a / 4) &&& 51)
def g3 (a : Nat) : Nat := (a + a / 16) &&& 15
theorem dg1 : ∀ a : Nat, a < 256 → ∀ e : Nat, e < 2 → (a / 2 + 128 * e) &&& 85 = (a / 2) &&& 85 := by decide +kernel
theorem dg2 : ∀ a : Nat, a < 256 → ∀ e : Nat, e < 4 → (a / 4 + 64 * e) &&& 51 = (a / 4) &&& 51 := by decide +kernel
theorem dg3 : ∀ a : Nat, a < 73 → ∀ e : Nat, e < 5 → (a + 16 * e) &&& 15 = a &&& 15 := by decide +kernel
theorem gall : ∀ a : Nat, a < 256 → (a / 2) &&& 85 ≤ a ∧ g1 a < 256 ∧ g2 (g1 a) % 16 ≤ 4 ∧ g2 (g1 a) / 16 ≤ 4 ∧ g3 (g2 (g1 a)) = pcN a := by decide +kernel
theorem P1_s {a : Nat} (ha : a < 256) (n x : Nat) : P1 (n + 1) (a + 256 * x) = g1 a + 256 * P1 n x := by
  have e : (a + 256 * x) / 2 = (a / 2 + 128 * (x % 2)) + 256 * (x / 2) := by omega
  have h1 := (gall a ha).1
  have h2 : x / 2 &&& mkB 85 n ≤ x := Nat.le_trans Nat.and_le_left (Nat.div_le_self x 2)
  unfold P1 g1
  rw [e, mkB, and_dig (by omega) (by decide), dg1 a ha _ (Nat.mod_lt x (by decide))]
  omega
theorem P2_s {a : Nat} (ha : a < 256) (n x : Nat) : P2 (n + 1) (a + 256 * x) = g2 a + 256 * P2 n x := by
  have e : (a + 256 * x) / 4 = (a / 4 + 64 * (x % 4)) + 256 * (x / 4) := by omega
  unfold P2 g2
  rw [e, mkB, and_dig ha (by decide), and_dig (by omega) (by decide), dg2 a ha _ (Nat.mod_lt x (by decide))]
  omega
theorem P3_s {d : Nat} (h1 : d % 16 ≤ 4) (h2 : d / 16 ≤ 4) (n : Nat) {w : Nat} (hw : w % 16 ≤ 4) : P3 (n + 1) (d + 256 * w) = g3 d + 256 * P3 n w := by
  have e : (d + 256 * w) + (d + 256 * w) / 16 = (d + d / 16 + 16 * (w % 16)) + 256 * (w + w / 16) := by omega
  unfold P3 g3
  rw [e, mkB, and_dig (by omega) (by decide), dg3 _ (by omega) _ (by omega)]
/-- bytes, each with its count -/
def cnB : Nat → Nat → Nat
  | 0, _ => 0
  | n + 1, v => pcN (v % 256) + 256 * cnB n (v / 256)
theorem P_all : ∀ n v, v < 256 ^ n → P3 n (P2 n (P1 n v)) = cnB n v ∧ P2 n (P1 n v) % 16 ≤ 4
  | 0, v, h => by
    have : v = 0 := by simpa using h
    subst this
    exact ⟨rfl, by decide⟩
  | n + 1, v, h => by
    have hx : v / 256 < 256 ^ n := by
      rw [Nat.pow_succ] at h
      exact Nat.div_lt_of_lt_mul (by rw [Nat.mul_comm]; exact h)
    have ha : v % 256 < 256 := Nat.mod_lt v (by decide)
    obtain ⟨i1, i2⟩ := P_all n (v / 256) hx
    obtain ⟨_, k2, k3, k4, k5⟩ := gall (v % 256) ha
    have e : v = v % 256 + 256 * (v / 256) := by omega
    have e2 : P2 (n + 1) (P1 (n + 1) v) = g2 (g1 (v % 256)) + 256 * P2 n (P1 n (v / 256)) := by
      conv => lhs; rw [e]
      rw [P1_s ha, P2_s k2]
    rw [e2, P3_s k3 k4 n i2, i1, k5]
    exact ⟨rfl, by omega⟩
def csB : Nat → Nat → Nat
  | 0, _ => 0
  | n + 1, v => pcN (v % 256) + csB n (v / 256)
theorem cs_ct : ∀ n v, fb_ct (fun i => v.testBit i) (8 * n) = csB n v
  | 0, v => rfl
  | n + 1, v => by
    rw [show 8 * (n + 1) = 8 + 8 * n by omega, fb_ct_split, csB, ← cs_ct n (v / 256)]
    have e1 : fb_ct (fun i => v.testBit i) 8 = pcN (v % 256) := fb_ct_cong (fun k hk => by
      rw [show (256 : Nat) = 2 ^ 8 from rfl, Nat.testBit_mod_two_pow, decide_eq_true hk, Bool.true_and])
    have e2 : fb_ct (fun k => v.testBit (8 + k)) (8 * n) = fb_ct (fun i => (v / 256).testBit i) (8 * n) := fb_ct_cong (fun k hk => by
      rw [show (256 : Nat) = 2 ^ 8 from rfl, Nat.testBit_div_two_pow, Nat.add_comm])
    rw [e1, e2]
theorem uN_bv (x : Int64) : uN x = x.toBitVec.toNat := rfl
theorem uN_and (x y : Int64) : uN (x &&& y) = uN x &&& uN y := by
  rw [uN_bv, Int64.toBitVec_and, BitVec.toNat_and, ← uN_bv, ← uN_bv]
theorem uN_sub {x y : Int64} (h : uN y ≤ uN x) : uN (x - y) = uN x - uN y := by
  have e := uN_add (x - y) y
  rw [Int64.sub_add_cancel] at e
  have h1 := uN_lt (x - y)
  have h2 := uN_lt x
  have h3 := uN_lt y
  omega
theorem uN_ush (x : Int64) {k : Nat} (hk : k < 64) (y : Int32) (hy : y = nI k) : uN (ushL x y) = uN x / 2 ^ k := by
  subst hy; exact uN_sk x hk
theorem t32_n (x : Int64) : x.toInt32 &&& 127 = nI (uN x % 128) := by
  rw [pk_and x.toInt32 7 (by decide)]
  have : x.toInt32.toBitVec.toNat = uN x % 2 ^ 32 := by
    rw [Int64.toBitVec_toInt32, BitVec.signExtend_eq_setWidth_of_le _ (by decide), BitVec.toNat_setWidth, ← uN_bv]
  rw [this, show (2 : Nat) ^ 7 = 128 from rfl]
  congr 1
  omega
theorem cn8 (v : Nat) : ∃ c0 c1 c2 c3 c4 c5 c6 c7 : Nat, c0 ≤ 8 ∧ c1 ≤ 8 ∧ c2 ≤ 8 ∧ c3 ≤ 8 ∧ c4 ≤ 8 ∧ c5 ≤ 8 ∧ c6 ≤ 8 ∧ c7 ≤ 8 ∧ cnB 8 v = c0 + 256 * (c1 + 256 * (c2 + 256 * (c3 + 256 * (c4 + 256 * (c5 + 256 * (c6 + 256 * (c7 + 256 * 0))))))) ∧ csB 8 v = c0 + (c1 + (c2 + (c3 + (c4 + (c5 + (c6 + (c7 + 0))))))) :=
  ⟨_, _, _, _, _, _, _, _, pcN_le _, pcN_le _, pcN_le _, pcN_le _, pcN_le _, pcN_le _, pcN_le _, pcN_le _, rfl, rfl⟩
def lcN (v : Nat) : Nat := fb_ct (fun i => v.testBit i) 64
theorem lcN_le (v : Nat) : lcN v ≤ 64 := fb_ct_le _ 64
def q1 (v : Int64) : Int64 := v - ((ushL v 1) &&& 6148914691236517205)
def q2 (a : Int64) : Int64 := (a &&& 3689348814741910323) + ((ushL a 2) &&& 3689348814741910323)
def q3 (b : Int64) : Int64 := (b + (ushL b 4)) &&& 1085102592571150095
def q4 (c : Int64) : Int64 := c + (ushL c 8)
def q5 (c : Int64) : Int64 := c + (ushL c 16)
def q6 (c : Int64) : Int64 := c + (ushL c 32)
set_option maxRecDepth 20000 in
theorem fJ13_q (v : Int64) (u : US) : fJ13_bitCount_95d88 v u = some ((q6 (q5 (q4 (q3 (q2 (q1 v)))))).toInt32 &&& 127, u) := by
  unfold fJ13_bitCount_95d88 q6 q5 q4 q3 q2 q1
  exact Eq.refl _
theorem m5_e : uN 6148914691236517205 = mkB 85 8 := by decide +kernel
theorem m3_e : uN 3689348814741910323 = mkB 51 8 := by decide +kernel
theorem mf_e : uN 1085102592571150095 = mkB 15 8 := by decide +kernel
theorem m3_v : mkB 51 8 = 3689348814741910323 := by decide +kernel
theorem q1_e (v : Int64) : uN (q1 v) = P1 8 (uN v) := by
  have e1 : uN ((ushL v 1) &&& 6148914691236517205) = (uN v / 2) &&& mkB 85 8 := by rw [uN_and, uN_ush v (k := 1) (by decide) 1 rfl, m5_e, Nat.pow_one]
  unfold q1 P1
  rw [uN_sub (by rw [e1]; exact Nat.le_trans Nat.and_le_left (Nat.div_le_self _ 2)), e1]
theorem P2_le (x : Nat) : P2 8 x ≤ 7378697629483820646 := by
  have l1 : x &&& mkB 51 8 ≤ mkB 51 8 := Nat.and_le_right
  have l2 : x / 4 &&& mkB 51 8 ≤ mkB 51 8 := Nat.and_le_right
  have := m3_v
  unfold P2; omega
theorem q2_e (a : Int64) : uN (q2 a) = P2 8 (uN a) := by
  have l := P2_le (uN a)
  unfold P2 at l
  unfold q2 P2
  rw [uN_add, uN_and, uN_and, uN_ush a (k := 2) (by decide) 2 rfl, m3_e, show (2 : Nat) ^ 2 = 4 from rfl, Nat.mod_eq_of_lt (by omega)]
theorem q3_e {b : Int64} (h : uN b ≤ 7378697629483820646) : uN (q3 b) = P3 8 (uN b) := by
  unfold q3 P3
  rw [uN_and, uN_add, uN_ush b (k := 4) (by decide) 4 rfl, mf_e, show (2 : Nat) ^ 4 = 16 from rfl, Nat.mod_eq_of_lt (by omega)]
theorem dvd_dg {a k x : Nat} (h : a < k) : (a + k * x) / k = x := by
  rw [Nat.add_mul_div_left a x (by omega), Nat.div_eq_of_lt h, Nat.zero_add]
theorem md_dg {a k x : Nat} (h : a < k) : (a + k * x) % k = a := by
  rw [Nat.add_mul_mod_self_left, Nat.mod_eq_of_lt h]
theorem q4_e {c : Int64} (h : uN c ≤ 1157442765409226768) : uN (q4 c) = uN c + uN c / 256 := by
  have := Nat.div_le_self (uN c) 256
  unfold q4
  rw [uN_add, uN_ush c (k := 8) (by decide) 8 rfl, show (2 : Nat) ^ 8 = 256 from rfl, Nat.mod_eq_of_lt (by omega)]
theorem q5_e {c : Int64} (h : uN c ≤ 2314885530818453536) : uN (q5 c) = uN c + uN c / 65536 := by
  have := Nat.div_le_self (uN c) 65536
  unfold q5
  rw [uN_add, uN_ush c (k := 16) (by decide) 16 rfl, show (2 : Nat) ^ 16 = 65536 from rfl, Nat.mod_eq_of_lt (by omega)]
theorem q6_e {c : Int64} (h : uN c ≤ 4629771061636907072) : uN (q6 c) = uN c + uN c / 4294967296 := by
  have := Nat.div_le_self (uN c) 4294967296
  unfold q6
  rw [uN_add, uN_ush c (k := 32) (by decide) 32 rfl, show (2 : Nat) ^ 32 = 4294967296 from rfl, Nat.mod_eq_of_lt (by omega)]
theorem ar1 (c0 c1 c2 c3 c4 c5 c6 c7 : Nat) : (c0 + 256 * (c1 + 256 * (c2 + 256 * (c3 + 256 * (c4 + 256 * (c5 + 256 * (c6 + 256 * (c7 + 256 * 0)))))))) + (c1 + 256 * (c2 + 256 * (c3 + 256 * (c4 + 256 * (c5 + 256 * (c6 + 256 * (c7 + 256 * 0))))))) = ((c0 + c1) + 256 * (c1 + c2)) + 65536 * ((c2 + c3) + 256 * (c3 + c4) + 65536 * ((c4 + c5) + 256 * (c5 + c6) + 65536 * ((c6 + c7) + 256 * c7))) := by omega
theorem ar2 (c0 c1 c2 c3 c4 c5 c6 c7 : Nat) : (((c0 + c1) + 256 * (c1 + c2)) + 65536 * ((c2 + c3) + 256 * (c3 + c4) + 65536 * ((c4 + c5) + 256 * (c5 + c6) + 65536 * ((c6 + c7) + 256 * c7)))) + ((c2 + c3) + 256 * (c3 + c4) + 65536 * ((c4 + c5) + 256 * (c5 + c6) + 65536 * ((c6 + c7) + 256 * c7))) = ((c0 + c1 + c2 + c3) + 256 * (c1 + c2 + c3 + c4) + 65536 * (c2 + c3 + c4 + c5) + 16777216 * (c3 + c4 + c5 + c6)) + 4294967296 * ((c4 + c5 + c6 + c7) + 256 * (c5 + c6 + c7) + 65536 * (c6 + c7) + 16777216 * c7) := by omega
theorem ar3 (c0 c1 c2 c3 c4 c5 c6 c7 : Nat) : (((c0 + c1 + c2 + c3) + 256 * (c1 + c2 + c3 + c4) + 65536 * (c2 + c3 + c4 + c5) + 16777216 * (c3 + c4 + c5 + c6)) + 4294967296 * ((c4 + c5 + c6 + c7) + 256 * (c5 + c6 + c7) + 65536 * (c6 + c7) + 16777216 * c7)) + ((c4 + c5 + c6 + c7) + 256 * (c5 + c6 + c7) + 65536 * (c6 + c7) + 16777216 * c7) = (c0 + c1 + c2 + c3 + c4 + c5 + c6 + c7) + 128 * (2 * (c1 + c2 + c3 + c4) + 512 * (c2 + c3 + c4 + c5) + 131072 * (c3 + c4 + c5 + c6) + 33554432 * ((c4 + c5 + c6 + c7) + 256 * (c5 + c6 + c7) + 65536 * (c6 + c7) + 16777216 * c7) + 2 * (c5 + c6 + c7) + 512 * (c6 + c7) + 131072 * c7) := by omega
theorem ab1 {c0 c1 c2 c3 c4 c5 c6 c7 : Nat} (h0 : c0 ≤ 8) (h1 : c1 ≤ 8) (h2 : c2 ≤ 8) (h3 : c3 ≤ 8) (h4 : c4 ≤ 8) (h5 : c5 ≤ 8) (h6 : c6 ≤ 8) (h7 : c7 ≤ 8) : c0 + 256 * (c1 + 256 * (c2 + 256 * (c3 + 256 * (c4 + 256 * (c5 + 256 * (c6 + 256 * (c7 + 256 * 0))))))) ≤ 1157442765409226768 := by omega
theorem ab2 {c0 c1 c2 c3 c4 c5 c6 c7 : Nat} (h0 : c0 ≤ 8) (h1 : c1 ≤ 8) (h2 : c2 ≤ 8) (h3 : c3 ≤ 8) (h4 : c4 ≤ 8) (h5 : c5 ≤ 8) (h6 : c6 ≤ 8) (h7 : c7 ≤ 8) : ((c0 + c1) + 256 * (c1 + c2)) + 65536 * ((c2 + c3) + 256 * (c3 + c4) + 65536 * ((c4 + c5) + 256 * (c5 + c6) + 65536 * ((c6 + c7) + 256 * c7))) ≤ 2314885530818453536 := by omega
theorem ab3 {c0 c1 c2 c3 c4 c5 c6 c7 : Nat} (h0 : c0 ≤ 8) (h1 : c1 ≤ 8) (h2 : c2 ≤ 8) (h3 : c3 ≤ 8) (h4 : c4 ≤ 8) (h5 : c5 ≤ 8) (h6 : c6 ≤ 8) (h7 : c7 ≤ 8) : ((c0 + c1 + c2 + c3) + 256 * (c1 + c2 + c3 + c4) + 65536 * (c2 + c3 + c4 + c5) + 16777216 * (c3 + c4 + c5 + c6)) + 4294967296 * ((c4 + c5 + c6 + c7) + 256 * (c5 + c6 + c7) + 65536 * (c6 + c7) + 16777216 * c7) ≤ 4629771061636907072 := by omega
theorem qs_e {c : Int64} {c0 c1 c2 c3 c4 c5 c6 c7 : Nat} (h0 : c0 ≤ 8) (h1 : c1 ≤ 8) (h2 : c2 ≤ 8) (h3 : c3 ≤ 8) (h4 : c4 ≤ 8) (h5 : c5 ≤ 8) (h6 : c6 ≤ 8) (h7 : c7 ≤ 8) (ec : uN c = c0 + 256 * (c1 + 256 * (c2 + 256 * (c3 + 256 * (c4 + 256 * (c5 + 256 * (c6 + 256 * (c7 + 256 * 0)))))))) : uN (q6 (q5 (q4 c))) % 128 = c0 + c1 + c2 + c3 + c4 + c5 + c6 + c7 := by
  have d1 : uN c / 256 = c1 + 256 * (c2 + 256 * (c3 + 256 * (c4 + 256 * (c5 + 256 * (c6 + 256 * (c7 + 256 * 0)))))) := ec ▸ dvd_dg (Nat.lt_of_le_of_lt h0 (by decide))
  have ed2 : uN (q4 c) = ((c0 + c1) + 256 * (c1 + c2)) + 65536 * ((c2 + c3) + 256 * (c3 + c4) + 65536 * ((c4 + c5) + 256 * (c5 + c6) + 65536 * ((c6 + c7) + 256 * c7))) := (q4_e (ec ▸ ab1 h0 h1 h2 h3 h4 h5 h6 h7)).trans (by rw [d1, ec]; exact ar1 c0 c1 c2 c3 c4 c5 c6 c7)
  have d2 : uN (q4 c) / 65536 = (c2 + c3) + 256 * (c3 + c4) + 65536 * ((c4 + c5) + 256 * (c5 + c6) + 65536 * ((c6 + c7) + 256 * c7)) := ed2 ▸ dvd_dg (show (c0 + c1) + 256 * (c1 + c2) < 65536 by clear ec d1 ed2; omega)
  have ef2 : uN (q5 (q4 c)) = ((c0 + c1 + c2 + c3) + 256 * (c1 + c2 + c3 + c4) + 65536 * (c2 + c3 + c4 + c5) + 16777216 * (c3 + c4 + c5 + c6)) + 4294967296 * ((c4 + c5 + c6 + c7) + 256 * (c5 + c6 + c7) + 65536 * (c6 + c7) + 16777216 * c7) := (q5_e (ed2 ▸ ab2 h0 h1 h2 h3 h4 h5 h6 h7)).trans (by rw [d2, ed2]; exact ar2 c0 c1 c2 c3 c4 c5 c6 c7)
  have d3 : uN (q5 (q4 c)) / 4294967296 = (c4 + c5 + c6 + c7) + 256 * (c5 + c6 + c7) + 65536 * (c6 + c7) + 16777216 * c7 := ef2 ▸ dvd_dg (show (c0 + c1 + c2 + c3) + 256 * (c1 + c2 + c3 + c4) + 65536 * (c2 + c3 + c4 + c5) + 16777216 * (c3 + c4 + c5 + c6) < 4294967296 by clear ec d1 ed2 d2 ef2; omega)
  have eg : uN (q6 (q5 (q4 c))) = (c0 + c1 + c2 + c3 + c4 + c5 + c6 + c7) + 128 * (2 * (c1 + c2 + c3 + c4) + 512 * (c2 + c3 + c4 + c5) + 131072 * (c3 + c4 + c5 + c6) + 33554432 * ((c4 + c5 + c6 + c7) + 256 * (c5 + c6 + c7) + 65536 * (c6 + c7) + 16777216 * c7) + 2 * (c5 + c6 + c7) + 512 * (c6 + c7) + 131072 * c7) := (q6_e (ef2 ▸ ab3 h0 h1 h2 h3 h4 h5 h6 h7)).trans (by rw [d3, ef2]; exact ar3 c0 c1 c2 c3 c4 c5 c6 c7)
  rw [eg]
  exact md_dg (by clear ec d1 ed2 d2 ef2 d3 eg; omega)
theorem pop64 (v : Int64) (u : US) : fJ13_bitCount_95d88 v u = some (nI (lcN (uN v)), u) := by
  have hv := uN_lt v
  obtain ⟨k1, _⟩ := P_all 8 (uN v) (by rw [show (256 : Nat) ^ 8 = 18446744073709551616 from rfl]; exact hv)
  obtain ⟨c0, c1, c2, c3, c4, c5, c6, c7, h0, h1, h2, h3, h4, h5, h6, h7, e1, e2⟩ := cn8 (uN v)
  have e3 : uN (q3 (q2 (q1 v))) = cnB 8 (uN v) := by
    rw [q3_e (by rw [q2_e]; exact P2_le _), q2_e, q1_e, k1]
  have e4 := qs_e (c := q3 (q2 (q1 v))) h0 h1 h2 h3 h4 h5 h6 h7 (by rw [e3, e1])
  rw [fJ13_q, t32_n, e4, lcN, show (64 : Nat) = 8 * 8 from rfl, cs_ct, e2]
  rw [show c0 + (c1 + (c2 + (c3 + (c4 + (c5 + (c6 + (c7 + 0))))))) = c0 + c1 + c2 + c3 + c4 + c5 + c6 + c7 by omega]
