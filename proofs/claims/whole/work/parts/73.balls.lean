/-! balls -/
variable {D : DD} {m m' : MM} {e r : Nat} {u v : US}
theorem lgc_eq (x y : Int64) : lg_cmp x y = 0 ↔ x = y := by
  unfold lg_cmp
  by_cases h1 : x > y
  · rw [if_pos h1]
    refine ⟨fun h => absurd h (by decide), fun h => ?_⟩
    subst h
    rw [gt_iff_lt, Int64.lt_iff_toInt_lt] at h1; omega
  · rw [if_neg h1]
    by_cases h2 : x = y
    · rw [if_pos h2]; exact ⟨fun _ => h2, fun _ => rfl⟩
    · rw [if_neg h2]; exact ⟨fun h => absurd h (by decide), fun h => absurd h h2⟩
theorem lN_z {b : Nat} (hb : b < 2 ^ 63) : lN b = 0 ↔ b = 0 := fb_lN_inj (b := 0) hb (by decide)
theorem gcd_st (a b : Nat) : Nat.gcd b (a % b) = Nat.gcd a b := by
  rw [Nat.gcd_comm a b, Nat.gcd_rec b a, Nat.gcd_comm]
theorem half_mod {b r : Nat} (h0 : 0 < r) (h : r < b) : 2 * (b % r) < b := by
  have h1 := Nat.div_add_mod b r
  have h2 := Nat.mod_lt b h0
  have h3 : 1 ≤ b / r := (Nat.one_le_div_iff h0).mpr (Nat.le_of_lt h)
  have h4 : r ≤ r * (b / r) := Nat.le_mul_of_pos_right r h3
  omega
theorem cd9_0 (x y : Int64) {a i f : Nat} (hi : i < 100) (u : US) : fX11_commonDivisor_9 x y (f + 1) (lN a) (lN 0) (nI i) u = some (lN a, u) := by
  rw [fX11_commonDivisor_9, if_neg (show ¬ (100 : Int32) ≤ nI i from nI_ge (b := 100) hi (by omega)), if_pos (show lg_cmp (lN 0) 0 = 0 from (lgc_eq _ _).mpr rfl)]
theorem cd9_s (x y : Int64) {a b i f : Nat} (ha : a < 2 ^ 62) (hb0 : 0 < b) (hb : b < 2 ^ 62) (hi : i < 100) (u : US) : fX11_commonDivisor_9 x y (f + 1) (lN a) (lN b) (nI i) u = fX11_commonDivisor_9 x y f (lN b) (lN (a % b)) (nI (i + 1)) u := by
  have hn : ¬ lN b = 0 := fun q => by have := (lN_z (show b < 2 ^ 63 by omega)).mp q; omega
  rw [fX11_commonDivisor_9, if_neg (show ¬ (100 : Int32) ≤ nI i from nI_ge (b := 100) hi (by omega)), if_neg (fun q => hn ((lgc_eq _ _).mp q)), if_neg hn, pk_lRem (by omega) hb0 (by omega), nI_1]
theorem cd_c (x y : Int64) (u : US) : ∀ (n f a b i : Nat), a < 2 ^ 62 → b < 2 ^ 62 → b < 2 ^ n → i + 2 * n < 100 → 2 * n < f → fX11_commonDivisor_9 x y f (lN a) (lN b) (nI i) u = some (lN (Nat.gcd a b), u)
  | 0, f, a, b, i, ha, hb, hn, hi, hf => by
    have : b = 0 := by omega
    subst this
    obtain ⟨g, rfl⟩ : ∃ g, f = g + 1 := ⟨f - 1, (by omega)⟩
    rw [cd9_0 x y (by omega), Nat.gcd_zero_right]
  | n + 1, f, a, b, i, ha, hb, hn, hi, hf => by
    obtain ⟨g, rfl⟩ : ∃ g, f = g + 1 + 1 := ⟨f - 2, (by omega)⟩
    by_cases h0 : b = 0
    · subst h0; rw [cd9_0 x y (by omega), Nat.gcd_zero_right]
    · have hm := Nat.mod_lt a (show 0 < b by omega)
      rw [cd9_s x y ha (by omega) hb (by omega)]
      by_cases h1 : a % b = 0
      · rw [← gcd_st a b, h1, cd9_0 x y (by omega), Nat.gcd_zero_right]
      · have h2 := half_mod (show 0 < a % b by omega) hm
        rw [cd9_s x y hb (by omega) (by omega) (by omega), cd_c x y u n g (a % b) (b % (a % b)) (i + 1 + 1) (by omega) (by omega) (by rw [Nat.pow_succ] at hn; omega) (by omega) (by omega), gcd_st, gcd_st]
theorem cm_0 {a f : Nat} (u : US) : fX12_common (f + 1) (lN a) (lN 0) u = some (lN a, u) := by
  show GX12_common (fX12_common f) (lN a) (lN 0) u = _
  rw [GX12_common, if_pos (show lg_cmp (lN 0) 0 = 0 from (lgc_eq _ _).mpr rfl)]
theorem cm_s {a b f : Nat} (ha : a < 2 ^ 62) (hb0 : 0 < b) (hb : b < 2 ^ 62) (u : US) : fX12_common (f + 1) (lN a) (lN b) u = oB (fX12_common f (lN b) (lN (a % b)) u) fun r1 u1 => some (r1, u1) := by
  have hn : ¬ lN b = 0 := fun q => by have := (lN_z (show b < 2 ^ 63 by omega)).mp q; omega
  show GX12_common (fX12_common f) (lN a) (lN b) u = _
  rw [GX12_common, if_neg (fun q => hn ((lgc_eq _ _).mp q)), if_neg hn, pk_lRem (by omega) hb0 (by omega)]
theorem cd_m (u : US) : ∀ (n f a b : Nat), a < 2 ^ 62 → b < 2 ^ 62 → b < 2 ^ n → 2 * n < f → fX12_common f (lN a) (lN b) u = some (lN (Nat.gcd a b), u)
  | 0, f, a, b, ha, hb, hn, hf => by
    have : b = 0 := by omega
    subst this
    obtain ⟨g, rfl⟩ : ∃ g, f = g + 1 := ⟨f - 1, (by omega)⟩
    rw [cm_0, Nat.gcd_zero_right]
  | n + 1, f, a, b, ha, hb, hn, hf => by
    obtain ⟨g, rfl⟩ : ∃ g, f = g + 1 + 1 := ⟨f - 2, (by omega)⟩
    by_cases h0 : b = 0
    · subst h0; rw [cm_0, Nat.gcd_zero_right]
    · have hm := Nat.mod_lt a (show 0 < b by omega)
      rw [cm_s ha (by omega) hb]
      by_cases h1 : a % b = 0
      · rw [← gcd_st a b, h1, cm_0, Nat.gcd_zero_right, oBs]
      · have h2 := half_mod (show 0 < a % b by omega) hm
        rw [cm_s hb (by omega) (by omega), cd_m u n g (a % b) (b % (a % b)) (by omega) (by omega) (by rw [Nat.pow_succ] at hn; omega) (by omega), oBs, oBs, gcd_st, gcd_st]
theorem frac_c {a b : Nat} (ha : a ≤ b) (hb0 : 0 < b) (hb : b ≤ 2 ^ 27) (u : US) : ∃ v, fX11_tellFraction (lN a) (lN b) u = some v ∧ TolC [lN (a / Nat.gcd a b), lN (b / Nat.gcd a b)] v ∧ Tc u v := by
  have hg : 0 < Nat.gcd a b := Nat.gcd_pos_of_pos_right a hb0
  have hg2 : Nat.gcd a b ≤ b := Nat.gcd_le_right a hb0
  obtain ⟨v, e1, t1, f1⟩ := tl2_c (lN (a / Nat.gcd a b)) (lN (b / Nat.gcd a b)) u
  have hn : ¬ lN (Nat.gcd a b) = 0 := fun q => by have := (lN_z (show Nat.gcd a b < 2 ^ 63 by omega)).mp q; omega
  have hp0 : 0 < lg_cmp (lN (Nat.gcd a b)) 0 := (lgc_gt _ _).mpr ((pk_lLT (a := 0) (by decide) (by omega)).mpr hg)
  have hp : ¬ lg_cmp (lN (Nat.gcd a b)) 0 ≤ 0 := fun q => absurd hp0 (n_lt.mpr q)
  unfold fX11_tellFraction fX11_commonDivisor
  rw [show (0 : Int32) = nI 0 from rfl, cd_c _ _ u 28 FU a b 0 (by omega) (by omega) (by omega) (by omega) (by unfold FU; omega), oBs, show nI 0 = (0 : Int32) from rfl, if_neg hp, if_neg hn, if_neg hn, pk_lDiv (by omega) hg (by omega), pk_lDiv (by omega) hg (by omega), e1, oVs]
  exact ⟨v, rfl, t1, f1⟩
theorem sub10 {p : Nat} (hp : p ≤ 10) : ((10 : Int32) - nI p).toInt64 = lN (10 - p) := by
  rw [show (10 : Int32) = nI 10 from rfl, pk_sub hp, nI_l (by omega)]
theorem mulL (a b : Nat) : lN a * lN b = lN (a * b) := by
  apply wb_inj
  rw [Int64.toBitVec_mul, wb_tb, wb_tb, wb_tb]
  apply BitVec.eq_of_toNat_eq
  rw [BitVec.toNat_mul, BitVec.toNat_ofNat, BitVec.toNat_ofNat, BitVec.toNat_ofNat, ← Nat.mul_mod]
theorem subL {a b : Nat} (h : b ≤ a) (ha : a < 2 ^ 62) : lN a - lN b = lN (a - b) := by
  rw [fa_eq64, fb_subL (by rw [pk_lT (by omega), pk_lT (by omega)]; omega) (by rw [pk_lT (by omega), pk_lT (by omega)]; omega), pk_lT (by omega), pk_lT (by omega), pk_lT (by omega)]
  omega
theorem pw_le {p k : Nat} : (10 - p) ^ k ≤ 10 ^ k := Nat.pow_le_pow_left (by omega) k
theorem t27 : ∀ k : Nat, k ≤ 8 → 10 ^ k ≤ 2 ^ 27 := by decide
def frL (a b : Nat) : List Int64 := [lN (a / Nat.gcd a b), lN (b / Nat.gcd a b)]
theorem b114_c {k p : Nat} (hk : k ≤ 8) (hp : p ≤ 10) (x y : Int32) (u : US) : ∃ v, fX11_balls_103 x y (nI p) (nI k) u = some (0, v) ∧ TolC (frL (10 ^ k - (10 - p) ^ k) (10 ^ k)) v ∧ Tc u v := by
  unfold fX11_balls_103
  refine lpF (fun f (z : Int64 × Int64 × Int32) w => fX11_balls_114 x y (nI p) f (nI k) z.1 z.2.1 z.2.2 w) k (fun i => (lN (10 ^ i), lN ((10 - p) ^ i), nI i)) (fun w => w = u) (fun o => ∃ v, o = some (0, v) ∧ TolC (frL (10 ^ k - (10 - p) ^ k) (10 ^ k)) v ∧ Tc u v) ?_ ?_ (by omega) (1, 1, 0) rfl rfl
  · intro f i w hi hw
    subst hw
    refine ⟨w, rfl, ?_⟩
    dsimp only
    rw [fX11_balls_114, if_neg (nI_ge hi (by omega)), sub10 hp, show (10 : Int64) = lN 10 from rfl, mulL, mulL, nI_1, Nat.pow_succ, Nat.pow_succ]
  · intro f w hw
    subst hw
    dsimp only
    have h1 := t27 k hk
    have h2 := pw_le (p := p) (k := k)
    obtain ⟨v, e1, t1, f1⟩ := frac_c (a := 10 ^ k - (10 - p) ^ k) (b := 10 ^ k) (by omega) (Nat.pow_pos (by decide)) h1 w
    rw [fX11_balls_114, if_pos (nI_le (Nat.le_refl _) (by omega)), subL h2 (by omega), e1, oVs]
    exact ⟨v, rfl, t1, f1⟩
theorem b142_m {a b : Nat} (ha : a ≤ b) (hb0 : 0 < b) (hb : b ≤ 2 ^ 27) (x y z : Int32) (u : US) : ∃ v, fX12_balls_142 x y z (lN b) (lN a) u = some (0, v) ∧ TolM (frL a b) v ∧ Fq u v := by
  have hg : 0 < Nat.gcd a b := Nat.gcd_pos_of_pos_right a hb0
  have hg2 : Nat.gcd a b ≤ b := Nat.gcd_le_right a hb0
  obtain ⟨v, e1, t1, f1⟩ := en_m (clr_m u) (by decide) (lN (a / Nat.gcd a b))
  obtain ⟨v2, e2, t2, f2⟩ := en_m t1 (by simp) (lN (b / Nat.gcd a b))
  have hn : ¬ lN (Nat.gcd a b) = 0 := fun q => by have := (lN_z (show Nat.gcd a b < 2 ^ 63 by omega)).mp q; omega
  unfold fX12_balls_142
  rw [cd_m u 28 100 a b (by omega) (by omega) (by omega) (by omega), oBs, nxs, if_neg hn, pk_lDiv (by omega) hg (by omega), e1, oVs, if_neg hn, pk_lDiv (by omega) hg (by omega), e2, oVs]
  exact ⟨v2, rfl, t2, (((Fm.rf (u := u)).sI rfl).trans f1.mq).trans f2.mq⟩
/-- the fraction that balls tells -/
def baL (D : DD) (m : MM) (r t p : Nat) : List Int64 := if seB D m r t then [1, 1] else if neB D m r t then frL (10 ^ pcN (huN D m (some r)) - (10 - p) ^ pcN (huN D m (some r))) (10 ^ pcN (huN D m (some r))) else [0, 1]
theorem baL_len (D : DD) (m : MM) (r t p : Nat) : (baL D m r t p).length ≤ 36 := by
  unfold baL frL
  by_cases h1 : seB D m r t = true
  · rw [if_pos h1]; simp
  · rw [if_neg h1]
    by_cases h2 : neB D m r t = true
    · rw [if_pos h2]; simp
    · rw [if_neg h2]; simp
theorem gcd_ss (b : Nat) (hb : 0 < b) : frL b b = [1, 1] := by
  unfold frL; rw [Nat.gcd_self, Nat.div_self hb]; rfl
theorem gcd_0s (b : Nat) (hb : 0 < b) : frL 0 b = [0, 1] := by
  unfold frL; rw [Nat.gcd_zero_left, Nat.zero_div, Nat.div_self hb]; rfl
theorem ne_tb {t : Nat} (ht : t < dT D) (r : Nat) : (neN D m r).testBit t = neB D m r t := by rw [neN, bN_tb, decide_eq_true ht, Bool.true_and]
theorem se_tb {t : Nat} (ht : t < dT D) (r : Nat) : (seN D m r).testBit t = seB D m r t := by rw [seN, bN_tb, decide_eq_true ht, Bool.true_and]
theorem balls_c (h : Cw D m 4 u) {r t p : Nat} (hr : r < dM D) (ht : t < dT D) (hp : p ≤ 10) : ∃ v, fX11_balls (nI r) (nI t) (nI p) u = some (0, v) ∧ TolC (baL D m r t p) v ∧ Ft u v := by
  have b := h.b
  have h8 := neN_256 (m := m) h.2.1 r
  obtain ⟨v, e1, f1⟩ := sees_c h hr ht
  have hv := h.sx f1
  unfold fX11_balls baL
  rw [isR_cy h hr, oBs, if_neg (by decide), isT_cy h ht, oBs, if_neg (by decide), if_neg (nI_pos (by omega)), if_pos (show nI p ≤ (10 : Int32) from nI_le (b := 10) hp (by omega)), e1, oBs]
  cases hs : seB D m r t with
  | true =>
    obtain ⟨v2, e2, t2, f2⟩ := tl2_c 1 1 v
    rw [if_neg (show ¬ bI true = 0 by decide), e2, oVs, if_pos rfl]
    exact ⟨v2, rfl, t2, f1.sft.trans f2.tcft⟩
  | false =>
    rw [if_pos (show bI false = 0 from rfl), near_c hv hr, oBs, has_c (by omega) (by omega), oBs, ne_tb ht, if_neg (show ¬ false = true by decide)]
    cases hN : neB D m r t with
    | false =>
      obtain ⟨v2, e2, t2, f2⟩ := b114_c (k := 0) (p := p) (by omega) hp (nI r) (nI t) v
      rw [if_pos (show bI false = 0 from rfl), show (0 : Int32) = nI 0 from rfl, e2, if_neg (show ¬ false = true by decide)]
      refine ⟨v2, rfl, ?_, f1.sft.trans f2.tcft⟩
      rw [Nat.pow_zero, Nat.pow_zero, Nat.sub_self, gcd_0s 1 (by decide)] at t2
      exact t2
    | true =>
      obtain ⟨v2, e2, t2, f2⟩ := b114_c (k := pcN (huN D m (some r))) (p := p) (pcN_le _) hp (nI r) (nI t) v
      rw [if_neg (show ¬ bI true = 0 by decide), pIn_c hv hr, oBs, bc_n (huN_256 (by omega)), oBs, e2, if_pos rfl]
      exact ⟨v2, rfl, t2, f1.sft.trans f2.tcft⟩
/-- where nothing is seen of what is near, no pane of the room is broken -/
theorem unbr {r t : Nat} (hn : neB D m r t = true) (hs : seB D m r t = false) (h8 : dP D ≤ 8) : nm (huN D m (some r)) (mB m) = huN D m (some r) := by
  apply tb_ext; intro i
  have hu := huN_256 (m := m) (o := some r) h8
  rw [nm_tb (by omega)]
  by_cases hi : i < dP D
  · rw [hu_tb hi]
    cases hq : huB m (some r) i with
    | false => rfl
    | true =>
      cases hb : (mB m).testBit i with
      | false => rfl
      | true =>
        exfalso
        unfold seB at hs
        rw [hn, Bool.true_and] at hs
        have : gaB D m r t (dP D) = true := anyB_up (k := i) (by show (huB m (some r) i && leT D m i t) = true; rw [hq]; unfold leT letB; rw [hb]; rfl) hi
        rw [this] at hs; cases hs
  · rw [huN, bN_tb, decide_eq_false hi]; rfl
theorem balls_m (hW : Wd D m (sI u 47 0 0)) {r t p : Nat} (hr : r < dM D) (ht : t < dT D) (hp : p ≤ 10) : ∃ v, fX12_balls (nI r) (nI t) (nI p) u = some (0, v) ∧ TolM (baL D m r t p) v ∧ Fq u v := by
  have h := hW.mw
  have b := h.b
  have hB := h.2.2.2.2.1.b256 h.2.1
  have k0 : Fq u (sI u 47 0 0) := Fm.rf.sI rfl
  have h8 := nm_256 (b := mB m) (huN_256 (m := m) (o := some r) (show dP D ≤ 8 by omega))
  have hp8 := pcN_le (nm (huN D m (some r)) (mB m))
  have hs8 := seN_256 (m := m) h.2.1 r
  rw [fX12_balls, nxs, isR_my h hr, oBs, if_neg (by decide), isT_my h ht, oBs, if_neg (by decide), in_0_10, if_pos ⟨nI_pos' (by omega), (show nI p ≤ (10 : Int32) from nI_le (b := 10) hp (by omega))⟩, oBs, if_neg (by decide), pOf_m h hr, oBs, gd_t (show inb 24 26 = true from rfl), h.gB, and_n, bc_n h8, oBs]
  generalize hk : pcN (nm (huN D m (some r)) (mB m)) = k at hp8
  refine lpF (fun f (z : Int64 × Int64 × Int32) w => fX12_balls_65 (nI r) (nI t) (nI p) f z.1 z.2.1 z.2.2 w) k (fun i => (lN ((10 - p) ^ i), lN (10 ^ i), nI (k - i))) (fun w => w = sI u 47 0 0) (fun o => ∃ v, o = some (0, v) ∧ TolM (baL D m r t p) v ∧ Fq u v) ?_ ?_ (by omega) (1, 1, nI k) rfl rfl
  · intro f i w hi hw
    subst hw
    refine ⟨_, rfl, ?_⟩
    dsimp only
    rw [fX12_balls_65, if_neg (nI_nle (show 0 < k - i by omega) (by omega)), sub10 hp, show (10 : Int64) = lN 10 from rfl, mulL, mulL, Nat.pow_succ, Nat.pow_succ]
    obtain ⟨j, hj⟩ : ∃ j, k - i = j + 1 := ⟨k - i - 1, (by omega)⟩
    rw [hj, pk_m1, show k - (i + 1) = j by omega]
  · intro f w hw
    subst hw
    dsimp only
    obtain ⟨v1, e1, f1⟩ := seen_m h hr
    have hv := h.sx f1
    have hF := hv.2.2.2.2.1.f36 hv.2.1 ht
    have h1 := t27 k (by omega)
    have h2 := pw_le (p := p) (k := k)
    have hpos : 0 < 10 ^ k := Nat.pow_pos (by decide)
    rw [fX12_balls_65, Nat.sub_self, if_pos (show nI 0 ≤ 0 by decide), e1, oBs, has_m (by omega) (by omega), oBs, se_tb ht, gdi (show t < 26 by omega) (by omega), hv.gF ht, isNear_m hv hr hF, oBs]
    unfold baL
    rw [show reB D r (mF m t) = neB D m r t from rfl]
    cases hN : neB D m r t with
    | false =>
      have hs : seB D m r t = false := by unfold seB; rw [hN]; rfl
      obtain ⟨v2, e2, t2, f2⟩ := b142_m (a := 0) (b := 10 ^ k) (by omega) hpos h1 (nI r) (nI t) (nI p) v1
      rw [if_pos (show bI false = 0 from rfl), show (0 : Int64) = lN 0 from rfl, e2, hs, if_neg (show ¬ false = true by decide), if_neg (show ¬ false = true by decide)]
      rw [gcd_0s _ hpos] at t2
      exact ⟨v2, rfl, t2, (k0.trans f1.sq).trans f2⟩
    | true =>
      rw [if_neg (show ¬ bI true = 0 by decide)]
      cases hs : seB D m r t with
      | true =>
        obtain ⟨v2, e2, t2, f2⟩ := b142_m (a := 10 ^ k) (b := 10 ^ k) (Nat.le_refl _) hpos h1 (nI r) (nI t) (nI p) v1
        rw [if_neg (show ¬ bI true = 0 by decide), e2, if_pos rfl]
        rw [gcd_ss _ hpos] at t2
        exact ⟨v2, rfl, t2, (k0.trans f1.sq).trans f2⟩
      | false =>
        obtain ⟨v2, e2, t2, f2⟩ := b142_m (a := 10 ^ k - (10 - p) ^ k) (b := 10 ^ k) (by omega) hpos h1 (nI r) (nI t) (nI p) v1
        rw [if_pos (show bI false = 0 from rfl), subL h2 (by omega), e2, if_neg (show ¬ false = true by decide), if_pos rfl]
        rw [unbr hN hs (by omega)] at hk
        rw [hk]
        exact ⟨v2, rfl, t2, (k0.trans f1.sq).trans f2⟩
theorem st_36 : St_36 Inv := by
  intro n a1 a2 a3 u hn hI
  obtain ⟨D, m, hW, hR⟩ := Inv_to hI
  have hc := hW.cw
  have hM0 : Mw D m 55 (sI u 47 0 0) := (hW.fr (Fm.rf.sI rfl)).mw
  by_cases h0 : isIx (dM D) a1
  · obtain ⟨r, hr, rfl⟩ := h0
    by_cases h1 : isIx (dT D) a2
    · obtain ⟨t, ht, rfl⟩ := h1
      by_cases h2 : 0 ≤ a3 ∧ a3 ≤ 10
      · obtain ⟨p, hp, rfl⟩ := nI_rng (n := 10) (M := 10) rfl h2
        obtain ⟨w1, e1, t1, f1⟩ := balls_c hc hr ht hp
        obtain ⟨w2, e2, t2, f2⟩ := balls_m (hW.ft (f1.trans (Fm.rf.sI rfl : Ft w1 (sI w1 47 0 0)))) hr ht hp
        exact ⟨_, w1, w2, e1, e2, q_told hI f1 t1 f2 t2 (baL_len D m r t p)⟩
      · refine ⟨-1, u, sI u 47 0 0, ?_, ?_, q_no hI⟩
        · unfold fX11_balls
          rw [isR_cy hc hr, oBs, if_neg (by decide), isT_cy hc ht, oBs, if_neg (by decide)]
          by_cases q : a3 < 0
          · rw [if_pos q]
          · rw [if_neg q, if_neg (fun w => h2 ⟨n_lt.mp q, w⟩)]
        · rw [fX12_balls, nxs, isR_my hM0 hr, oBs, if_neg (by decide), isT_my hM0 ht, oBs, if_neg (by decide), in_0_10, if_neg h2, oBs, if_pos rfl]
    · refine ⟨-1, u, sI u 47 0 0, ?_, ?_, q_no hI⟩
      · unfold fX11_balls
        rw [isR_cy hc hr, oBs, if_neg (by decide), isT_cn hc h1, oBs, if_pos rfl]
      · rw [fX12_balls, nxs, isR_my hM0 hr, oBs, if_neg (by decide), isT_mn hM0 h1, oBs, if_pos rfl]
  · refine ⟨-1, u, sI u 47 0 0, ?_, ?_, q_no hI⟩
    · unfold fX11_balls
      rw [isR_cn hc h0, oBs, if_pos rfl]
    · rw [fX12_balls, nxs, isR_mn hM0 h0, oBs, if_pos rfl]
