/-! rings round a goal -/
variable {D : DD} {m m' : MM} {e r : Nat} {u v : US}
def rgP (D : DD) (dk : Nat → Bool) (g : Nat) : Nat → (Nat → Bool) × (Nat → Bool)
  | 0 => (dk, fun f => decide (f = g) && dk f)
  | k + 1 => (fun f => (rgP D dk g k).1 f && !(rgP D dk g k).2 f, fun f => anyB (fun x => (rgP D dk g k).2 x && nbB D x f) (dR D * dC D) && ((rgP D dk g k).1 f && !(rgP D dk g k).2 f))
def frB (D : DD) (dk : Nat → Bool) (g k f : Nat) : Bool := (rgP D dk g k).1 f
def rgB (D : DD) (dk : Nat → Bool) (g k f : Nat) : Bool := (rgP D dk g k).2 f
variable {dk : Nat → Bool} {g : Nat}
theorem fr_s (k f : Nat) : frB D dk g (k + 1) f = (frB D dk g k f && !rgB D dk g k f) := rfl
theorem rg_s (k f : Nat) : rgB D dk g (k + 1) f = (anyB (fun x => rgB D dk g k x && nbB D x f) (dR D * dC D) && frB D dk g (k + 1) f) := rfl
theorem rg_fr {k f : Nat} (h : rgB D dk g k f = true) : frB D dk g k f = true := by
  cases k with
  | zero =>
    have h' : (decide (f = g) && dk f) = true := h
    rw [Bool.and_eq_true] at h'
    exact h'.2
  | succ k => rw [rg_s, Bool.and_eq_true] at h; exact h.2
theorem fr_iff {f : Nat} : ∀ {k : Nat}, frB D dk g k f = true ↔ dk f = true ∧ ∀ j, j < k → rgB D dk g j f = false
  | 0 => ⟨fun h => ⟨h, fun j hj => absurd hj (Nat.not_lt_zero j)⟩, fun h => h.1⟩
  | k + 1 => by
    rw [fr_s, Bool.and_eq_true, fr_iff, Bool.not_eq_true']
    constructor
    · rintro ⟨⟨h1, h2⟩, h3⟩
      refine ⟨h1, fun j hj => ?_⟩
      by_cases q : j = k
      · subst q; exact h3
      · exact h2 j (by omega)
    · rintro ⟨h1, h2⟩
      exact ⟨⟨h1, fun j hj => h2 j (by omega)⟩, h2 k (by omega)⟩
theorem rg_one {j k f : Nat} (h1 : rgB D dk g j f = true) (h2 : rgB D dk g k f = true) : j = k := by
  rcases Nat.lt_trichotomy j k with q | q | q
  · rw [(fr_iff.mp (rg_fr h2)).2 j q] at h1; cases h1
  · exact q
  · rw [(fr_iff.mp (rg_fr h1)).2 k q] at h2; cases h2
theorem rg_dk {k f : Nat} (h : rgB D dk g k f = true) : dk f = true := (fr_iff.mp (rg_fr h)).1
theorem rg_dn {k f : Nat} (h : rgB D dk g (k + 1) f = true) : ∃ x, x < dR D * dC D ∧ rgB D dk g k x = true ∧ nbB D x f = true := by
  rw [rg_s, Bool.and_eq_true, anyB_iff] at h
  obtain ⟨⟨x, hx, h2⟩, _⟩ := h
  rw [Bool.and_eq_true] at h2
  exact ⟨x, hx, h2.1, h2.2⟩
theorem rg_up {k f x : Nat} (hd : dk f = true) (hx : x < dR D * dC D) (h1 : rgB D dk g k x = true) (h2 : nbB D x f = true) : ∃ j, j ≤ k + 1 ∧ rgB D dk g j f = true := by
  by_cases q : ∃ j, j < k + 1 ∧ rgB D dk g j f = true
  · obtain ⟨j, hj, h⟩ := q; exact ⟨j, (by omega), h⟩
  · refine ⟨k + 1, Nat.le_refl _, ?_⟩
    rw [rg_s, Bool.and_eq_true, anyB_iff]
    exact ⟨⟨x, hx, by rw [h1, h2]; rfl⟩, fr_iff.mpr ⟨hd, fun j hj => ts_nt (fun w => q ⟨j, hj, w⟩)⟩⟩
theorem rg_all {f : Nat} : ∀ {k : Nat}, f < dR D * dC D → rgB D dk g k f = true → ∀ j, j ≤ k → ∃ x, x < dR D * dC D ∧ rgB D dk g j x = true
  | 0, hf, h, j, hj => by rw [show j = 0 by omega]; exact ⟨f, hf, h⟩
  | k + 1, hf, h, j, hj => by
    by_cases q : j = k + 1
    · subst q; exact ⟨f, hf, h⟩
    · obtain ⟨x, hx, h1, _⟩ := rg_dn h
      exact rg_all hx h1 j (by omega)
theorem rg_lt {k f : Nat} (hf : f < dR D * dC D) (h : rgB D dk g k f = true) : k < dR D * dC D := by
  have hx := rg_all hf h
  have key := fb_holes (dR D * dC D) (k + 1) (fun j => if q : j ≤ k then Classical.choose (hx j q) else 0) (fun i hi => by
    have q : i ≤ k := by omega
    show (if q : i ≤ k then Classical.choose (hx i q) else 0) < _
    rw [dif_pos q]
    exact (Classical.choose_spec (hx i q)).1) (fun i j hij hj => by
    have q1 : i ≤ k := by omega
    have q2 : j ≤ k := by omega
    show (if q : i ≤ k then Classical.choose (hx i q) else 0) ≠ (if q : j ≤ k then Classical.choose (hx j q) else 0)
    rw [dif_pos q1, dif_pos q2]
    intro e
    have s1 := (Classical.choose_spec (hx i q1)).2
    have s2 := (Classical.choose_spec (hx j q2)).2
    rw [e] at s1
    have := rg_one s1 s2
    omega)
  omega
theorem rg_dead {k : Nat} (h : ∀ f, f < dR D * dC D → rgB D dk g k f = false) : ∀ j f, f < dR D * dC D → rgB D dk g (k + j) f = false
  | 0, f, hf => h f hf
  | j + 1, f, hf => ts_nt (fun q => by
    obtain ⟨x, hx, h1, _⟩ := rg_dn (k := k + j) q
    rw [rg_dead h j x hx] at h1; cases h1)
/-! the lowest bit -/
theorem low_split {a t : Nat} (h1 : a.testBit t = true) (h2 : ∀ i, i < t → a.testBit i = false) : ∃ q, a = 2 ^ t * (2 * q + 1) := by
  refine ⟨a / 2 ^ t / 2, ?_⟩
  have e1 : a % 2 ^ t = 0 := by
    apply Nat.eq_of_testBit_eq
    intro i
    rw [Nat.testBit_mod_two_pow, Nat.zero_testBit]
    by_cases q : i < t
    · rw [h2 i q, Bool.and_false]
    · simp [q]
  have e2 : a / 2 ^ t % 2 = 1 := by
    rw [Nat.testBit_eq_decide_div_mod_eq] at h1
    exact of_decide_eq_true h1
  have e3 := Nat.div_add_mod a (2 ^ t)
  have e4 : 2 * (a / 2 ^ t / 2) + 1 = a / 2 ^ t := by omega
  rw [e4]
  omega
theorem low_and {t q i : Nat} : ((2 ^ t * (2 * q + 1)).testBit i && !(2 ^ t * (2 * q + 1) - 1).testBit i) = decide (i = t) := by
  have hp := Nat.two_pow_pos t
  have e1 : 2 ^ t * (2 * q + 1) = 2 ^ t * (2 * q + 1) + 0 := rfl
  have e2 : 2 ^ t * (2 * q + 1) - 1 = 2 ^ t * (2 * q) + (2 ^ t - 1) := by rw [Nat.mul_add, Nat.mul_one]; omega
  rw [e2]
  rw [e1, Nat.testBit_two_pow_mul_add (2 * q + 1) hp, Nat.testBit_two_pow_mul_add (2 * q) (by omega)]
  by_cases h : i < t
  · rw [if_pos h, if_pos h, Nat.zero_testBit, decide_eq_false (by omega)]; rfl
  · rw [if_neg h, if_neg h]
    by_cases h2 : i = t
    · subst h2
      rw [Nat.sub_self, decide_eq_true rfl]
      have a1 : (2 * q + 1).testBit 0 = true := by rw [Nat.testBit_zero]; exact decide_eq_true (by omega)
      have a2 : (2 * q).testBit 0 = false := by rw [Nat.testBit_zero]; exact decide_eq_false (by omega)
      rw [a1, a2]; rfl
    · obtain ⟨j, hj⟩ : ∃ j, i - t = j + 1 := ⟨i - t - 1, (by omega)⟩
      rw [hj, Nat.testBit_succ, Nat.testBit_succ, show (2 * q + 1) / 2 = q by omega, show 2 * q / 2 = q by omega, decide_eq_false h2]
      cases q.testBit j <;> rfl
theorem uN_neg {a : Nat} (h0 : 0 < a) (h : a < 2 ^ 63) : uN (-(lN a)) = 18446744073709551616 - a := by
  have e := uN_add (-(lN a)) (lN a)
  rw [Int64.add_left_neg, uN_l (by omega)] at e
  have h1 := uN_lt (-(lN a))
  have h2 : uN (0 : Int64) = 0 := rfl
  omega
theorem low_c {a t : Nat} (ha : a < 2 ^ 36) (h1 : a.testBit t = true) (h2 : ∀ i, i < t → a.testBit i = false) (u : US) : fX9_lowest (lN a) u = some (nI t, u) := by
  obtain ⟨q, hq⟩ := low_split h1 h2
  have ht : t < 36 := by
    by_cases w : t < 36
    · exact w
    · rw [tb_hi ha (by omega)] at h1; cases h1
  have h0 : 0 < a := Nat.pos_of_ne_zero (fun w => by rw [w, Nat.zero_testBit] at h1; cases h1)
  have hpw : 2 ^ t < 2 ^ 36 := wb_lt2 ht
  have hpos := Nat.two_pow_pos t
  have e1 : uN (lN a &&& -(lN a)) = 2 ^ t := by
    rw [uN_and, uN_l (by omega), uN_neg h0 (by omega)]
    apply Nat.eq_of_testBit_eq
    intro i
    rw [Nat.testBit_and, show 18446744073709551616 - a = 2 ^ 64 - ((a - 1) + 1) by omega, Nat.testBit_two_pow_sub_succ (by omega), Nat.testBit_two_pow]
    have key := low_and (t := t) (q := q) (i := i)
    rw [← hq] at key
    by_cases hi : i < 64
    · rw [decide_eq_true hi, Bool.true_and, key, decide_eq_decide]; omega
    · rw [decide_eq_false hi, Bool.false_and, Bool.and_false, decide_eq_false (by omega)]
  have e2 : uN ((lN a &&& -(lN a)) - 1) = 2 ^ t - 1 := by
    rw [uN_sub (by rw [e1]; exact hpos), e1]; rfl
  unfold fX9_lowest
  rw [pop64, oBs, e2]
  have e3 : lcN (2 ^ t - 1) = t := by
    have : 2 ^ t - 1 = bN (fun _ => true) t := tb_ext (fun i => by rw [all_tb, bN_tb, Bool.and_true])
    rw [this, lc_b _ (by omega), fb_ct_all.mpr (fun _ _ => rfl)]
  rw [e3]
/-- a long without some bits -/
def nmL (a b : Nat) : Nat := a &&& (b ^^^ 18446744073709551615)
theorem andL_n (a b : Nat) : lN a &&& (lN b ^^^ (-1)) = lN (nmL a b) := by
  rw [show (-1 : Int64) = lN 18446744073709551615 from rfl, fb_xorL, fb_andL]; rfl
theorem nmL_tb {a : Nat} (ha : a < 2 ^ 64) (b i : Nat) : (nmL a b).testBit i = (a.testBit i && !b.testBit i) := by
  unfold nmL
  rw [Nat.testBit_and, Nat.testBit_xor, show (18446744073709551615 : Nat) = 2 ^ 64 - 1 from rfl, all_tb]
  by_cases h : i < 64
  · simp [h]
  · rw [tb_hi ha (by omega)]; simp
