/-! next -/
variable {D : DD} {m m' : MM} {e r : Nat} {u v : US} {W : WW}
theorem sm_ct (p : Nat → Bool) : ∀ n, fb_sm (fun l => if p l then 1 else 0) n = fb_ct p n
  | 0 => rfl
  | n + 1 => by rw [fb_sm_succ, fb_ct_succ, sm_ct p n]
theorem ct_rows (p : Nat → Bool) (k : Nat) : ∀ n, fb_ct p (k * n) = fb_sm (fun h => fb_ct (fun l => p (k * h + l)) k) n
  | 0 => rfl
  | n + 1 => by rw [Nat.mul_add, Nat.mul_one, fb_ct_split, ct_rows p k n, fb_sm_succ]
theorem ct_swap (q : Nat → Nat → Bool) (k : Nat) : ∀ n, fb_sm (fun h => fb_ct (fun l => q h l) k) n = fb_sm (fun l => fb_ct (fun h => q h l) n) k
  | 0 => by
    rw [show (fun l => fb_ct (fun h => q h l) 0) = fun _ => 0 from rfl, fb_sm_const, Nat.mul_zero]; rfl
  | n + 1 => by
    rw [fb_sm_succ, ct_swap q k n]
    rw [show (fun l => fb_ct (fun h => q h l) (n + 1)) = fun l => fb_ct (fun h => q h l) n + (if q n l then 1 else 0) from rfl, fb_sm_add, sm_ct]
theorem ct_2560 (q : Nat → Nat → Bool) : fb_ct (fun i => q (i / 10) (i % 10)) 2560 = fb_sm (fun l => fb_ct (fun h => q h l) 256) 10 := by
  rw [show (2560 : Nat) = 10 * 256 from rfl, ct_rows, ← ct_swap]
  refine fb_sm_cong (fun a ha => fb_ct_cong (fun b hb => ?_))
  rw [show (10 * b + a) / 10 = b by omega, show (10 * b + a) % 10 = a by omega]
def fsL (W : WW) (k l : Nat) : Nat := if (shN W).testBit k then ftN W l else if (hdN W l).testBit k then 0 else ftN W l / 2
theorem fc_up {d s k n : Nat} (hk : k < n) (hd : d.testBit k = false) (hs : s.testBit k = false) : fcN d (s ||| 2 ^ k) n = fcN d s n + 1 := by
  unfold fcN
  have e1 : fb_ct (fun i => d.testBit i || (s ||| 2 ^ k).testBit i) n = fb_ct (fun i => if i = k then true else (d.testBit i || s.testBit i)) n := fb_ct_cong (fun i _ => by
    rw [tb_or2]
    by_cases e : i = k
    · subst e; rw [decide_eq_true (rfl : i = i), if_pos rfl]; simp
    · rw [decide_eq_false e, if_neg e, Bool.or_false])
  have e2 := fb_ct_upd (fun i => d.testBit i || s.testBit i) true (i := k) (n := n) hk
  rw [e1]
  have h3 : (d.testBit k || s.testBit k) = false := by rw [hd, hs]; rfl
  simp only [h3, if_true, Bool.false_eq_true, if_false, Nat.add_zero] at e2
  exact e2
theorem hs_ct (ho : WitO W) {k : Nat} (hk : k < 8) (l : Nat) : fb_ct (fun h => laB W l h && !h.testBit k) 256 = fsL W k l := by
  have hft := la_ct ho l
  unfold fsL
  cases hsh : (shN W).testBit k with
  | true =>
    rw [if_pos rfl, ← hft]
    refine fb_ct_cong (fun h _ => ?_)
    cases hla : laB W l h with
    | false => rfl
    | true => rw [((la_iff ho).mp hla).1 k hk (by rw [← sh_tb hk]; exact hsh)]; rfl
  | false =>
    rw [if_neg (by decide)]
    cases hhd : (hdN W l).testBit k with
    | true =>
      rw [if_pos rfl]
      exact fb_ct_zero.mpr (fun h _ => by
        cases hla : laB W l h with
        | false => rfl
        | true => rw [((la_iff ho).mp hla).2.1 k hk (by rw [← hd_tb hk]; exact hhd)]; rfl)
    | false =>
      rw [if_neg (by decide)]
      cases hok : okL W l with
      | false =>
        have : ¬ 0 < ftN W l := fun w => by rw [ft_pos.mp w] at hok; cases hok
        rw [show ftN W l = 0 by omega]
        exact fb_ct_zero.mpr (fun h _ => by
          cases hla : laB W l h with
          | false => rfl
          | true => rw [la_no ho hla] at hok; cases hok)
      | true =>
        have e1 : fb_ct (fun h => laB W l h && !h.testBit k) 256 = fb_ct (bwB (hdN W l) (shN W ||| 2 ^ k) 8) (2 ^ 8) := fb_ct_cong (fun h _ => by
          rw [la_bw ho hok h, Bool.eq_iff_iff, Bool.and_eq_true, bw_iff, bw_iff, Bool.not_eq_true']
          constructor
          · rintro ⟨a, b⟩ i hi
            refine ⟨fun w => ?_, (a i hi).2⟩
            rw [tb_or2, Bool.or_eq_true, decide_eq_true_iff] at w
            rcases w with w | w
            · exact (a i hi).1 w
            · rw [w]; exact b
          · intro a
            refine ⟨fun i hi => ⟨fun w => (a i hi).1 (by rw [tb_or2, w]; rfl), (a i hi).2⟩, (a k hk).1 (by rw [tb_or2, decide_eq_true rfl, Bool.or_true])⟩)
        have hds : ∀ i, (hdN W l).testBit i = true → (shN W ||| 2 ^ k).testBit i = false := fun i hi => by
          rw [tb_or2, ok_dis ho hok i hi, Bool.false_or]
          exact decide_eq_false (fun w => by rw [w, hhd] at hi; cases hi)
        have hfc := fc_up (n := 8) hk hhd hsh
        have hle := fc_le (hdN W l) (shN W ||| 2 ^ k) 8
        rw [e1, bw_ct hds 8, hfc]
        unfold ftN
        rw [hok, if_pos rfl, pc_or]
        obtain ⟨j, hj⟩ : ∃ j, 8 - fcN (hdN W l) (shN W) 8 = j + 1 := ⟨8 - fcN (hdN W l) (shN W) 8 - 1, (by omega)⟩
        rw [hj, Nat.pow_succ, Nat.mul_div_cancel _ (by decide), show 8 - (fcN (hdN W l) (shN W) 8 + 1) = j by omega]
/-- how many laws show a sort -/
def ysN (W : WW) (k s : Nat) : Nat := fb_sm (fun j => fsL W k (s + j)) (10 - s)
def opB (W : WW) (i : Nat) : Bool := laB W (i % 10) (i / 10)
def yeB (W : WW) (k s i : Nat) : Bool := opB W i && (!(i / 10).testBit k && decide (s ≤ i % 10))
theorem op_ct (ho : WitO W) : fb_ct (opB W) 2560 = fb_sm (ftN W) 10 := by
  have := ct_2560 (fun h l => laB W l h)
  rw [show fb_ct (opB W) 2560 = _ from this]
  exact fb_sm_cong (fun l _ => la_ct ho l)
theorem ye_ct (ho : WitO W) {k s : Nat} (hk : k < 8) (hs : s < 10) : fb_ct (yeB W k s) 2560 = ysN W k s := by
  have := ct_2560 (fun h l => laB W l h && (!h.testBit k && decide (s ≤ l)))
  rw [show fb_ct (yeB W k s) 2560 = _ from this]
  obtain ⟨j, hj⟩ : ∃ j, 10 = s + j := ⟨10 - s, (by omega)⟩
  unfold ysN
  rw [show 10 - s = j by omega]
  rw [hj, fb_sm_split]
  have e1 : fb_sm (fun l => fb_ct (fun h => laB W l h && (!h.testBit k && decide (s ≤ l))) 256) s = 0 := by
    rw [fb_sm_cong (g := fun _ => 0) (fun l hl => fb_ct_zero.mpr (fun h _ => by rw [decide_eq_false (by omega), Bool.and_false, Bool.and_false])), fb_sm_const, Nat.mul_zero]
  rw [e1, Nat.zero_add]
  refine fb_sm_cong (fun i _ => ?_)
  rw [← hs_ct ho hk (s + i)]
  exact fb_ct_cong (fun h _ => by rw [decide_eq_true (show s ≤ s + i by omega), Bool.and_true])
theorem fs_le (k l : Nat) : fsL W k l ≤ ftN W l := by
  unfold fsL
  split
  · exact Nat.le_refl _
  · split
    · exact Nat.zero_le _
    · exact Nat.div_le_self _ _
def maA (W : WW) : Nat := fb_sm (ftN W) 10
theorem maA_le : maA W ≤ 2560 := by
  have := fb_sm_bound (f := ftN W) (c := 256) (n := 10) (fun k _ => ft_le k)
  exact this
theorem ys_le (ho : WitO W) {k s : Nat} (hk : k < 8) (hs : s < 10) : ysN W k s ≤ maA W := by
  rw [← ye_ct ho hk hs, show maA W = fb_ct (opB W) 2560 from (op_ct ho).symm]
  exact fb_ct_sub (fun i _ h => by unfold yeB at h; rw [Bool.and_eq_true] at h; exact h.1)
def mxN (W : WW) (t : Nat) : Nat := max (ysN W (t / 10) (t % 10)) (maA W - ysN W (t / 10) (t % 10))
def beT (W : WW) (t : Nat) : Option (Nat × Nat) := beN (mxN W) (fun _ => true) t
theorem be_val {f : Nat → Nat} {h : Nat → Bool} : ∀ {k : Nat} {c : Nat × Nat}, beN f h k = some c → c.1 < k ∧ c.2 = f c.1
  | 0, c, q => by cases q
  | k + 1, c, q => by
    cases hh : h k with
    | false => rw [be_n hh] at q; have := be_val q; exact ⟨(by omega), this.2⟩
    | true =>
      cases hb : beN f h k with
      | none => rw [be_ny hb hh] at q; cases q; exact ⟨Nat.lt_succ_self k, rfl⟩
      | some d =>
        by_cases q2 : f k < d.2
        · rw [be_sy hb hh q2] at q; cases q; exact ⟨Nat.lt_succ_self k, rfl⟩
        · rw [be_sn hb q2] at q; cases q; have := be_val hb; exact ⟨(by omega), this.2⟩
theorem mx_le (ho : WitO W) {t : Nat} (ht : t < 80) : mxN W t ≤ maA W := by
  have := ys_le ho (show t / 10 < 8 by omega) (show t % 10 < 10 by omega)
  unfold mxN; omega
theorem be_le (ho : WitO W) {t : Nat} (ht : t ≤ 80) {c : Nat × Nat} (h : beT W t = some c) : c.1 < 80 ∧ c.2 ≤ maA W := by
  obtain ⟨h1, h2⟩ := be_val h
  exact ⟨(by omega), by rw [h2]; exact mx_le ho (by omega)⟩
theorem mx_i {y M : Nat} (hy : y ≤ M) (hM : M ≤ 2560) : (if nI y < nI M - nI y then nI M - nI y else nI y) = nI (max y (M - y)) := by
  rw [pk_sub hy]
  by_cases q : y < M - y
  · rw [if_pos (nI_lt q (by omega)), Nat.max_eq_right (by omega)]
  · rw [if_neg (nI_nlt (by omega) (by omega)), Nat.max_eq_left (by omega)]
theorem ifseen_c (ho : WitO W) (h : WeC W 10 u) {k s : Nat} (hk : k < 8) (hs : s < 10) : fX10_fittingIfSeen (nI k) (nI s) u = some (nI (ysN W k s), u) := by
  unfold fX10_fittingIfSeen
  have es : (if (0 : Int32) < nI s then nI s else 0) = nI s := by
    by_cases q : s = 0
    · subst q; rfl
    · rw [if_pos (show (0 : Int32) < nI s from nI_lt (a := 0) (by omega) (by omega))]
  have hsh := shN_256 (W := W)
  rw [es]
  refine lpF (fun f (z : Int32 × Int32) w => fX10_fittingIfSeen_9 (nI k) (nI s) f z.1 z.2 w) (10 - s) (fun j => (nI (fb_sm (fun j => fsL W k (s + j)) j), nI (s + j))) (fun w => w = u) (fun o => o = some (nI (ysN W k s), u)) ?_ ?_ (by omega) (0, nI s) rfl rfl
  · intro f j w hj hw
    subst hw
    refine ⟨w, rfl, ?_⟩
    have i10 := inb_nI (show s + j < 10 by omega) (show 10 < 2 ^ 31 by decide)
    have e39 : gA w 39 (nI (s + j)) = nI (hdN W (s + j)) := by show w.2.1 39 (nI (s + j)).toNatClampNeg = _; rw [nI_clamp (by omega)]; exact h.2.1 _ (by omega)
    have e40 : gA w 40 (nI (s + j)) = nI (ftN W (s + j)) := by show w.2.1 40 (nI (s + j)).toNatClampNeg = _; rw [nI_clamp (by omega)]; exact h.2.2 _ (by omega)
    have hfl := ft_le (W := W) (s + j)
    have hhd := hdN_256 (W := W) (s + j)
    dsimp only
    rw [fX10_fittingIfSeen_9, if_neg (show ¬ (10 : Int32) ≤ nI (s + j) from nI_ge (b := 10) (by omega) (by omega)), h.1 (by decide), has_c (by omega) (by omega), oBs, gd_t i10, e39, has_c (by omega) (by omega), oBs, gd_t i10, e40, gd_t i10, nI_1, fb_sm_succ, show (2 : Int32) = nI 2 from rfl, pk_div (by omega) (by omega) (by omega), nI_add, nI_add, Nat.add_assoc]
    unfold fsL
    cases (shN W).testBit k with
    | true => rw [if_neg (show ¬ bI true = 0 by decide), if_pos rfl]
    | false =>
      rw [if_pos (show bI false = 0 from rfl), if_neg (show ¬ false = true by decide)]
      cases (hdN W (s + j)).testBit k with
      | true => rw [if_neg (show ¬ bI true = 0 by decide), if_pos rfl]; rfl
      | false => rw [if_pos (show bI false = 0 from rfl), if_neg (show ¬ false = true by decide), if_neg (show ¬ nI 2 = 0 by decide)]
  · intro f w hw
    subst hw
    dsimp only
    rw [fX10_fittingIfSeen_9, show s + (10 - s) = 10 by omega, if_pos (show (10 : Int32) ≤ nI 10 by decide)]; rfl
def neC (W : WW) : Option (Nat × Nat) → Int32 × Int32
  | none => (0, nI (maA W + 1))
  | some c => (nI c.1, nI c.2)
theorem next_c (ho : WitO W) (h : WitC W u) : (maA W = 0 ∧ ∃ v, fX11_next u = some (-2, v) ∧ Fr u v) ∨ (¬ maA W = 0 ∧ ∃ c v, beT W 80 = some c ∧ fX11_next u = some (nI c.1, v) ∧ TolC [(nI c.2).toInt64] v ∧ Ft u v) := by
  obtain ⟨v, e1, w1, f1⟩ := weigh_c ho h
  have hml := maA_le (W := W)
  unfold fX11_next
  rw [e1, oBs, show fb_sm (ftN W) 10 = maA W from rfl]
  by_cases h0 : maA W = 0
  · left
    rw [h0, if_pos (show nI 0 = 0 from rfl)]
    exact ⟨rfl, v, rfl, f1.mono rfl rfl rfl⟩
  · right
    rw [if_neg (nI_ne0 (by omega) (by omega)), nI_1]
    refine ⟨h0, ?_⟩
    refine lpF (fun f (z : Int32 × Int32 × Int32) w => fX11_next_24 f (nI (maA W)) z.1 z.2.1 z.2.2 w) 80 (fun t => ((neC W (beT W t)).1, (neC W (beT W t)).2, nI t)) (fun w => w = v) (fun o => ∃ c v, beT W 80 = some c ∧ o = some (nI c.1, v) ∧ TolC [(nI c.2).toInt64] v ∧ Ft u v) ?_ ?_ (by omega) (0, nI (maA W + 1), 0) rfl rfl
    · intro f t w ht hw
      subst hw
      refine ⟨w, rfl, ?_⟩
      have hy := ys_le ho (show t / 10 < 8 by omega) (show t % 10 < 10 by omega)
      have hmx := mx_le ho ht
      dsimp only
      rw [fX11_next_24, if_neg (show ¬ (80 : Int32) ≤ nI t from nI_ge (b := 80) ht (by omega)), if_neg (by decide), if_neg (by decide), show (10 : Int32) = nI 10 from rfl, pk_rem (by omega) (by omega) (by omega), pk_div (by omega) (by omega) (by omega), ifseen_c ho w1 (by omega) (by omega), oBs, mx_i hy hml, nI_1, show max (ysN W (t / 10) (t % 10)) (maA W - ysN W (t / 10) (t % 10)) = mxN W t from rfl]
      cases hb : beT W t with
      | none =>
        rw [if_neg (show ¬ (neC W none).2 ≤ nI (mxN W t) from nI_ge (show mxN W t < maA W + 1 by omega) (by omega)), show beT W (t + 1) = some (t, mxN W t) from be_ny hb rfl]; rfl
      | some c =>
        have hc := be_le ho (show t ≤ 80 by omega) hb
        by_cases q : mxN W t < c.2
        · rw [if_neg (show ¬ (neC W (some c)).2 ≤ nI (mxN W t) from nI_ge q (by omega)), show beT W (t + 1) = some (t, mxN W t) from be_sy hb rfl q]; rfl
        · rw [if_pos (show (neC W (some c)).2 ≤ nI (mxN W t) from nI_le (by omega) (by omega)), show beT W (t + 1) = some c from be_sn hb q]
    · intro f w hw
      subst hw
      dsimp only
      cases hb : beT W 80 with
      | none => have := be_none.mp hb 0 (by decide); cases this
      | some c =>
        obtain ⟨w2, e2, t2, f2⟩ := tl1_c (nI c.2).toInt64 w
        rw [fX11_next_24, if_pos (show (80 : Int32) ≤ nI 80 by decide), show (neC W (some c)).2 = nI c.2 from rfl, e2, oVs]
        exact ⟨c, w2, rfl, rfl, t2, (f1.mono rfl rfl rfl : Ft u w).trans f2.tcft⟩
/-! the model -/
def neM : Option (Nat × Nat) → Int32 × Int32
  | none => (-1, 1000000)
  | some c => (nI c.1, nI c.2)
def OpM (W : WW) (n : Nat) (u : US) : Prop := ∀ j, j < n → u.2.1 77 j = bI (opB W j)
theorem div10 {i : Nat} (hi : i < 3000) : nI i / 10 = nI (i / 10) := pk_div (d := 10) (by omega) (by omega) (by omega)
theorem rem10 {i : Nat} (hi : i < 3000) : nI i - nI i / 10 * 10 = nI (i % 10) := pk_rem (d := 10) (by omega) (by omega) (by omega)
theorem n91_m (ho : WitO W) (h : OpM W 2560 u) {k s : Nat} (hk : k < 8) (hs : s < 10) {K1 : Int32 → Int32 → Int32 → Int32 → US → Option (Int32 × US)} {K : Int32 → Int32 → Int32 → Int32 → Int32 → US → Option (Int32 × US)} : fX12_next_91 K1 K FU (nI (maA W)) (neM (beT W (10 * k + s))).1 (neM (beT W (10 * k + s))).2 (nI k) (nI s) 0 0 u = K (nI (maA W)) (neM (beT W (10 * k + s + 1))).1 (neM (beT W (10 * k + s + 1))).2 (nI k) (nI (s + 1)) u := by
  have hml := maA_le (W := W)
  refine lpF (fun f (z : Int32 × Int32) w => fX12_next_91 K1 K f (nI (maA W)) (neM (beT W (10 * k + s))).1 (neM (beT W (10 * k + s))).2 (nI k) (nI s) z.1 z.2 w) 2560 (fun i => (nI (fb_ct (yeB W k s) i), nI i)) (fun w => w = u) (fun o => o = K (nI (maA W)) (neM (beT W (10 * k + s + 1))).1 (neM (beT W (10 * k + s + 1))).2 (nI k) (nI (s + 1)) u) ?_ ?_ (by omega) (0, 0) rfl rfl
  · intro f i w hi hw
    subst hw
    refine ⟨w, rfl, ?_⟩
    dsimp only
    have e77 : gA w 77 (nI i) = bI (opB W i) := by show w.2.1 77 (nI i).toNatClampNeg = _; rw [nI_clamp (by omega)]; exact h i hi
    rw [fX12_next_91, if_neg (show ¬ (2560 : Int32) ≤ nI i from nI_ge (b := 2560) hi (by omega)), gdi hi (by omega), e77, fb_ct_succ]
    unfold yeB
    cases hop : opB W i with
    | false =>
      rw [if_pos (show bI false = 0 from rfl), fX12_next_135, fX12_next_136, show fX12_flag 0 w = some (0, w) from rfl, oBs, nI_1, ad0]; rfl
    | true =>
      rw [if_neg (show ¬ bI true = 0 by decide), if_neg (by decide), if_neg (by decide), rem10 (by omega), div10 (by omega), shows_m (show i % 10 < 10 by omega) (show i / 10 < 256 by omega) hk hs, oBs, Bool.true_and]
      cases hsw : (!(i / 10).testBit k && decide (s ≤ i % 10)) with
      | false =>
        rw [if_pos (show bI false = 0 from rfl), fX12_next_135, fX12_next_136, show fX12_flag 0 w = some (0, w) from rfl, oBs, nI_1, ad0]; rfl
      | true =>
        rw [if_neg (show ¬ bI true = 0 by decide), fX12_next_136, show fX12_flag 1 w = some (1, w) from rfl, oBs, nI_1, nI_1]; rfl
  · intro f w hw
    subst hw
    have hy := ys_le ho hk hs
    have ht : 10 * k + s < 80 := by omega
    have hmx := mx_le ho ht
    have emx : max (ysN W k s) (maA W - ysN W k s) = mxN W (10 * k + s) := by
      unfold mxN
      rw [show (10 * k + s) / 10 = k by omega, show (10 * k + s) % 10 = s by omega]
    dsimp only
    rw [fX12_next_91, if_pos (show (2560 : Int32) ≤ nI 2560 by decide), ye_ct ho hk hs, mx_i hy hml, emx, show (10 : Int32) * nI k = nI (10 * k) from pk_mul 10 k, nI_add]
    unfold fX12_next_177
    rw [nI_1]
    cases hb : beT W (10 * k + s) with
    | none =>
      rw [if_neg (show ¬ (neM none).2 ≤ nI (mxN W (10 * k + s)) from nI_ge (b := 1000000) (by omega) (by omega)), if_pos (show nI (mxN W (10 * k + s)) < (neM none).2 from nI_lt (b := 1000000) (by omega) (by omega)), show beT W (10 * k + s + 1) = some (10 * k + s, mxN W (10 * k + s)) from be_ny hb rfl]; rfl
    | some c =>
      have hc := be_le ho (show 10 * k + s ≤ 80 by omega) hb
      by_cases q : mxN W (10 * k + s) < c.2
      · rw [if_neg (show ¬ (neM (some c)).2 ≤ nI (mxN W (10 * k + s)) from nI_ge q (by omega)), if_pos (show nI (mxN W (10 * k + s)) < (neM (some c)).2 from nI_lt q (by omega)), show beT W (10 * k + s + 1) = some (10 * k + s, mxN W (10 * k + s)) from be_sy hb rfl q]; rfl
      · rw [if_pos (show (neM (some c)).2 ≤ nI (mxN W (10 * k + s)) from nI_le (by omega) (by omega)), if_neg (show ¬ nI (mxN W (10 * k + s)) < (neM (some c)).2 from nI_nlt (by omega) (by omega)), show beT W (10 * k + s + 1) = some c from be_sn hb q]
theorem n78_m (ho : WitO W) (h : OpM W 2560 u) {k : Nat} (hk : k < 8) {K1 : Int32 → Int32 → Int32 → Int32 → US → Option (Int32 × US)} : fX12_next_78 K1 FU (nI (maA W)) (neM (beT W (10 * k))).1 (neM (beT W (10 * k))).2 (nI k) 0 u = K1 (nI (maA W)) (neM (beT W (10 * (k + 1)))).1 (neM (beT W (10 * (k + 1)))).2 (nI (k + 1)) u := by
  refine lpF (fun f (z : Int32 × Int32 × Int32) w => fX12_next_78 K1 f (nI (maA W)) z.1 z.2.1 (nI k) z.2.2 w) 10 (fun s => ((neM (beT W (10 * k + s))).1, (neM (beT W (10 * k + s))).2, nI s)) (fun w => w = u) (fun o => o = K1 (nI (maA W)) (neM (beT W (10 * (k + 1)))).1 (neM (beT W (10 * (k + 1)))).2 (nI (k + 1)) u) ?_ ?_ (by omega) ((neM (beT W (10 * k))).1, (neM (beT W (10 * k))).2, 0) rfl rfl
  · intro f s w hs hw
    subst hw
    refine ⟨w, rfl, ?_⟩
    dsimp only
    rw [fX12_next_78, if_neg (show ¬ (9 : Int32) < nI s from nI_nlt (a := 9) (by omega) (by omega)), n91_m ho h hk hs]; rfl
  · intro f w hw
    subst hw
    dsimp only
    rw [fX12_next_78, if_pos (show (9 : Int32) < nI 10 by decide), nI_1]; rfl
theorem next_m (ho : WitO W) (h : WitM W (sI u 47 0 0)) : (maA W = 0 ∧ ∃ v, fX12_next u = some (-2, v) ∧ Fr u v) ∨ (¬ maA W = 0 ∧ ∃ c v, beT W 80 = some c ∧ fX12_next u = some (nI c.1, v) ∧ TolM [(nI c.2).toInt64] v ∧ Fq u v) := by
  have hml := maA_le (W := W)
  have k0 : Fr u (sI u 47 0 0) := Fm.rf.sI rfl
  rw [fX12_next, nxs]
  refine lpE (fun f (z : Int32 × Int32) w => fX12_next_9 f z.1 z.2 w) 2560 (fun i => (nI (fb_ct (opB W) i), nI i)) (fun i w => OpM W i w ∧ Fm [] [77] [] (sI u 47 0 0) w) (fun o => (maA W = 0 ∧ ∃ v, o = some (-2, v) ∧ Fr u v) ∨ (¬ maA W = 0 ∧ ∃ c v, beT W 80 = some c ∧ o = some (nI c.1, v) ∧ TolM [(nI c.2).toInt64] v ∧ Fq u v)) ?_ ?_ (by omega) (0, 0) rfl ⟨fun j hj => absurd hj (Nat.not_lt_zero j), Fm.rf⟩
  · rintro f i w hi ⟨hop, hf⟩
    have hw := h.fm hf rfl rfl
    left
    dsimp only
    rw [fX12_next_9, if_neg (show ¬ (2560 : Int32) ≤ nI i from nI_ge (b := 2560) hi (by omega)), if_neg (by decide), if_neg (by decide), rem10 (by omega), div10 (by omega), law_m ho hw (show i % 10 < 10 by omega) (show i / 10 < 256 by omega), oBs, gdi hi (by omega), nxs, gdi hi (by omega), nar_b, show gA (sA w 77 (nI i) (bI (laB W (i % 10) (i / 10)))) 77 (nI i) = bI (laB W (i % 10) (i / 10)) from pk_us, flag_m, oBs, nI_1, fb_ct_succ]
    refine ⟨sA w 77 (nI i) (bI (opB W i)), ⟨fun j hj => ?_, hf.sA rfl⟩, ?_⟩
    · show upd (w.2.1 77) (nI i).toNatClampNeg (bI (opB W i)) j = _
      rw [nI_clamp (by omega)]
      by_cases q : j = i
      · subst q; rw [pk_us]
      · rw [pk_un q]; exact hop j (by omega)
    · rw [show laB W (i % 10) (i / 10) = opB W i from rfl]
      cases opB W i with
      | true => rw [show bI true = nI 1 from rfl, nI_add]; rfl
      | false => rw [show bI false = nI 0 from rfl, nI_add]; rfl
  · rintro f w ⟨hop, hf⟩
    have kf : Fr u w := k0.trans (hf.mono rfl rfl rfl)
    dsimp only
    rw [fX12_next_9, if_pos (show (2560 : Int32) ≤ nI 2560 by decide), op_ct ho, show fb_sm (ftN W) 10 = maA W from rfl]
    by_cases h0 : maA W = 0
    · left
      rw [h0, if_pos (show nI 0 = 0 from rfl)]
      exact ⟨rfl, w, rfl, kf⟩
    · right
      rw [if_neg (nI_ne0 (by omega) (by omega))]
      refine ⟨h0, ?_⟩
      refine lpF (fun f (z : Int32 × Int32 × Int32) q => fX12_next_68 f (nI (maA W)) z.1 z.2.1 z.2.2 q) 8 (fun k => ((neM (beT W (10 * k))).1, (neM (beT W (10 * k))).2, nI k)) (fun q => q = w) (fun o => ∃ c v, beT W 80 = some c ∧ o = some (nI c.1, v) ∧ TolM [(nI c.2).toInt64] v ∧ Fq u v) ?_ ?_ (by omega) (-1, 1000000, 0) rfl rfl
      · intro f k q hk hq
        subst hq
        refine ⟨q, rfl, ?_⟩
        dsimp only
        rw [fX12_next_68, if_neg (show ¬ (8 : Int32) ≤ nI k from nI_ge (b := 8) hk (by omega)), n78_m ho hop hk]
      · intro f q hq
        subst hq
        dsimp only
        rw [show 10 * 8 = 80 from rfl]
        cases hb : beT W 80 with
        | none => have := be_none.mp hb 0 (by decide); cases this
        | some c =>
          obtain ⟨w2, e2, t2, f2⟩ := en_m (clr_m q) (by decide) (nI c.2).toInt64
          rw [fX12_next_68, if_pos (show (8 : Int32) ≤ nI 8 by decide), nxs, show (neM (some c)).2 = nI c.2 from rfl, e2, oVs]
          exact ⟨c, w2, rfl, rfl, t2, (kf.rq.sI rfl).trans f2.mq⟩
theorem st_33 : St_33 Inv := by
  intro n u hn hI
  obtain ⟨D, m, hW, hR⟩ := Inv_to hI
  obtain ⟨W, wo, wc, wm⟩ := wit_of hR
  rcases next_c wo wc with ⟨q1, v, e1, f1⟩ | ⟨q1, c, v, b1, e1, t1, f1⟩
  · rcases next_m (u := v) wo ((wm.fm f1 rfl rfl).fm (a := [(47, 0)]) (b := []) (c := []) (Fm.rf.sI rfl) rfl rfl) with ⟨q2, w, e2, f2⟩ | ⟨q2, c2, w, b2, e2, t2, f2⟩
    · exact ⟨_, v, w, e1, e2, Inv_Fr hI (f1.trans f2)⟩
    · exact absurd q1 q2
  · rcases next_m (u := v) wo ((wm.fm f1 rfl rfl).fm (a := [(47, 0)]) (b := []) (c := []) (Fm.rf.sI rfl) rfl rfl) with ⟨q2, w, e2, f2⟩ | ⟨q2, c2, w, b2, e2, t2, f2⟩
    · exact absurd q2 q1
    · rw [b1] at b2; cases b2
      exact ⟨_, v, w, e1, e2, q_told hI f1 t1 f2 t2 (by simp)⟩
