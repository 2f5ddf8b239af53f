/-! laws that fit: what is forced, and how many there are -/
variable {D : DD} {m m' : MM} {e r : Nat} {u v : US} {W : WW}
def shK (W : WW) (i x : Nat) : Bool := anyB (fun i => decide (W.2.2.2 i = 1) && decide (W.2.1 i = x)) i
def hdK (W : WW) (l i x : Nat) : Bool := anyB (fun i => decide (W.2.2.2 i = 0) && (decide (W.2.2.1 i ≤ l) && decide (W.2.1 i = x))) i
def shN (W : WW) : Nat := bN (shK W W.1) 8
def hdN (W : WW) (l : Nat) : Nat := bN (hdK W l W.1) 8
theorem shN_256 : shN W < 256 := bN_256 (Nat.le_refl 8)
theorem hdN_256 (l : Nat) : hdN W l < 256 := bN_256 (Nat.le_refl 8)
theorem la_iff (ho : WitO W) {l h : Nat} : laB W l h = true ↔ (∀ x, x < 8 → shK W W.1 x = true → h.testBit x = false) ∧ (∀ x, x < 8 → hdK W l W.1 x = true → h.testBit x = true) ∧ (∀ i, i < W.1 → W.2.2.2 i = 1 → W.2.2.1 i ≤ l) := by
  obtain ⟨o1, o2, o3, o4⟩ := ho
  have key : laB W l h = true ↔ ∀ i, i < W.1 → bI (!h.testBit (W.2.1 i) && decide (W.2.2.1 i ≤ l)) = nI (W.2.2.2 i) := by
    unfold laB
    rw [Bool.not_eq_true']
    constructor
    · intro hq i hi
      by_cases q : bI (!h.testBit (W.2.1 i) && decide (W.2.2.1 i ≤ l)) = nI (W.2.2.2 i)
      · exact q
      · exfalso
        rw [anyB_up (p := agB W l h) (k := i) (by unfold agB; exact decide_eq_true q) hi] at hq; cases hq
    · intro hq
      exact ts_nt (fun w => by
        obtain ⟨i, hi, w2⟩ := anyB_iff.mp w
        unfold agB at w2
        exact absurd (hq i hi) (of_decide_eq_true w2))
  rw [key]
  constructor
  · intro hq
    refine ⟨fun x hx hs => ?_, fun x hx hs => ?_, fun i hi hs => ?_⟩
    · obtain ⟨i, hi, w⟩ := anyB_iff.mp hs
      rw [Bool.and_eq_true, decide_eq_true_iff, decide_eq_true_iff] at w
      have := hq i hi
      rw [w.1, w.2] at this
      cases hb : h.testBit x with
      | false => rfl
      | true => rw [hb, Bool.not_true, Bool.false_and] at this; exact absurd this (by decide)
    · obtain ⟨i, hi, w⟩ := anyB_iff.mp hs
      rw [Bool.and_eq_true, Bool.and_eq_true, decide_eq_true_iff, decide_eq_true_iff, decide_eq_true_iff] at w
      have := hq i hi
      rw [w.1, w.2.2, decide_eq_true w.2.1] at this
      cases hb : h.testBit x with
      | true => rfl
      | false => rw [hb] at this; exact absurd this (by decide)
    · have := hq i hi
      rw [hs] at this
      by_cases w : W.2.2.1 i ≤ l
      · exact w
      · rw [decide_eq_false w, Bool.and_false] at this; exact absurd this (by decide)
  · rintro ⟨h1, h2, h3⟩ i hi
    have hk := o2 i hi
    rcases (show W.2.2.2 i = 0 ∨ W.2.2.2 i = 1 by have := o4 i hi; omega) with q | q
    · rw [q]
      by_cases w : W.2.2.1 i ≤ l
      · rw [h2 _ hk (anyB_up (k := i) (by rw [decide_eq_true q, decide_eq_true w, decide_eq_true rfl]; rfl) hi)]; rfl
      · rw [decide_eq_false w, Bool.and_false]; rfl
    · rw [q, h1 _ hk (anyB_up (k := i) (by rw [decide_eq_true q, decide_eq_true rfl]; rfl) hi), decide_eq_true (h3 i hi q)]; rfl
/-! counting sets between two -/
def bwB (d s n h : Nat) : Bool := !anyB (fun i => (s.testBit i && h.testBit i) || (d.testBit i && !h.testBit i)) n
def fcN (d s n : Nat) : Nat := fb_ct (fun i => d.testBit i || s.testBit i) n
theorem bw_lo {d s n h : Nat} (hh : h < 2 ^ n) : bwB d s (n + 1) h = (bwB d s n h && !d.testBit n) := by
  unfold bwB
  rw [anyB, tb_hi hh (Nat.le_refl n)]
  cases anyB (fun i => (s.testBit i && h.testBit i) || (d.testBit i && !h.testBit i)) n <;> cases d.testBit n <;> simp
theorem bw_hi {d s n h : Nat} (hh : h < 2 ^ n) : bwB d s (n + 1) (2 ^ n + h) = (bwB d s n h && !s.testBit n) := by
  unfold bwB
  rw [anyB, Nat.testBit_two_pow_add_eq, tb_hi hh (Nat.le_refl n)]
  rw [anyB_cong (p := fun i => (s.testBit i && (2 ^ n + h).testBit i) || (d.testBit i && !(2 ^ n + h).testBit i)) (q := fun i => (s.testBit i && h.testBit i) || (d.testBit i && !h.testBit i)) (fun i hi => by rw [Nat.testBit_two_pow_add_gt hi])]
  cases anyB (fun i => (s.testBit i && h.testBit i) || (d.testBit i && !h.testBit i)) n <;> cases s.testBit n <;> simp
theorem ct_false : ∀ n, fb_ct (fun _ => false) n = 0 := fun n => fb_ct_zero.mpr (fun _ _ => rfl)
theorem fc_le (d s n : Nat) : fcN d s n ≤ n := fb_ct_le _ n
theorem bw_ct {d s : Nat} (hds : ∀ i, d.testBit i = true → s.testBit i = false) : ∀ n, fb_ct (bwB d s n) (2 ^ n) = 2 ^ (n - fcN d s n)
  | 0 => rfl
  | n + 1 => by
    have ih := bw_ct hds n
    have hl := fc_le d s n
    rw [Nat.pow_succ, Nat.mul_two, fb_ct_split]
    have e1 : fb_ct (bwB d s (n + 1)) (2 ^ n) = fb_ct (fun h => bwB d s n h && !d.testBit n) (2 ^ n) := fb_ct_cong (fun h hh => bw_lo hh)
    have e2 : fb_ct (fun k => bwB d s (n + 1) (2 ^ n + k)) (2 ^ n) = fb_ct (fun h => bwB d s n h && !s.testBit n) (2 ^ n) := fb_ct_cong (fun h hh => bw_hi hh)
    rw [e1, e2, show fcN d s (n + 1) = fcN d s n + (if (d.testBit n || s.testBit n) then 1 else 0) from rfl]
    cases hd : d.testBit n with
    | true =>
      rw [hds n hd]
      simp only [Bool.not_true, Bool.and_false, Bool.not_false, Bool.and_true, Bool.or_false, if_true]
      rw [ct_false, Nat.zero_add, show (fun h => bwB d s n h) = bwB d s n from rfl, ih]
      congr 1; omega
    | false =>
      cases hs : s.testBit n with
      | true =>
        simp only [Bool.not_true, Bool.and_false, Bool.not_false, Bool.and_true, Bool.false_or, if_true]
        rw [ct_false, Nat.add_zero, show (fun h => bwB d s n h) = bwB d s n from rfl, ih]
        congr 1; omega
      | false =>
        simp only [Bool.not_false, Bool.and_true, Bool.or_self, Bool.false_eq_true, if_false, Nat.add_zero]
        rw [show (fun h => bwB d s n h) = bwB d s n from rfl, ih, ← Nat.mul_two, ← Nat.pow_succ]
        congr 1; omega
theorem bw_iff {d s n h : Nat} : bwB d s n h = true ↔ ∀ i, i < n → (s.testBit i = true → h.testBit i = false) ∧ (d.testBit i = true → h.testBit i = true) := by
  unfold bwB
  rw [Bool.not_eq_true']
  constructor
  · intro hq i hi
    have : ((s.testBit i && h.testBit i) || (d.testBit i && !h.testBit i)) = false := ts_nt (fun w => by rw [anyB_up (p := fun i => (s.testBit i && h.testBit i) || (d.testBit i && !h.testBit i)) w hi] at hq; cases hq)
    refine ⟨fun w => ?_, fun w => ?_⟩
    · rw [w] at this
      cases hb : h.testBit i with
      | false => rfl
      | true => rw [hb] at this; simp at this
    · rw [w] at this
      cases hb : h.testBit i with
      | true => rfl
      | false => rw [hb] at this; simp at this
  · intro hq
    refine ts_nt (fun w => ?_)
    obtain ⟨i, hi, w2⟩ := anyB_iff.mp w
    rw [Bool.or_eq_true, Bool.and_eq_true, Bool.and_eq_true] at w2
    rcases w2 with ⟨a, b⟩ | ⟨a, b⟩
    · rw [(hq i hi).1 a] at b; cases b
    · rw [(hq i hi).2 a] at b; cases b
theorem pc_or (d s : Nat) : pcN (d ||| s) = fcN d s 8 := fb_ct_cong (fun k _ => Nat.testBit_or d s k)
def okL (W : WW) (l : Nat) : Bool := laB W l (hdN W l)
def ftN (W : WW) (l : Nat) : Nat := if okL W l then 2 ^ (8 - pcN (hdN W l ||| shN W)) else 0
theorem hd_tb {l x : Nat} (hx : x < 8) : (hdN W l).testBit x = hdK W l W.1 x := by rw [hdN, bN_tb, decide_eq_true hx, Bool.true_and]
theorem sh_tb {x : Nat} (hx : x < 8) : (shN W).testBit x = shK W W.1 x := by rw [shN, bN_tb, decide_eq_true hx, Bool.true_and]
theorem ok_dis (ho : WitO W) {l : Nat} (h : okL W l = true) : ∀ i, (hdN W l).testBit i = true → (shN W).testBit i = false := by
  intro i hi
  by_cases hx : i < 8
  · rw [sh_tb hx]
    refine ts_nt (fun w => ?_)
    rw [((la_iff ho).mp h).1 i hx w] at hi; cases hi
  · exact tb_hi (n := 8) shN_256 (by omega)
theorem la_bw (ho : WitO W) {l : Nat} (hok : okL W l = true) (h : Nat) : laB W l h = bwB (hdN W l) (shN W) 8 h := by
  rw [Bool.eq_iff_iff, la_iff ho, bw_iff]
  constructor
  · rintro ⟨h1, h2, _⟩ i hi
    rw [sh_tb hi, hd_tb hi]
    exact ⟨h1 i hi, h2 i hi⟩
  · intro hq
    refine ⟨fun x hx w => (hq x hx).1 (by rw [sh_tb hx]; exact w), fun x hx w => (hq x hx).2 (by rw [hd_tb hx]; exact w), ((la_iff ho).mp hok).2.2⟩
theorem la_no (ho : WitO W) {l h : Nat} (hq : laB W l h = true) : okL W l = true := by
  have h0 := (la_iff ho).mp hq
  refine (la_iff ho).mpr ⟨fun x hx w => ?_, fun x hx w => ?_, h0.2.2⟩
  · rw [hd_tb hx]
    refine ts_nt (fun w2 => ?_)
    have a := h0.1 x hx w
    rw [h0.2.1 x hx w2] at a; cases a
  · rw [hd_tb hx]; exact w
theorem la_ct (ho : WitO W) (l : Nat) : fb_ct (fun h => laB W l h) 256 = ftN W l := by
  unfold ftN
  cases hok : okL W l with
  | false =>
    rw [if_neg (by decide)]
    exact fb_ct_zero.mpr (fun h _ => ts_nt (fun w => by rw [la_no ho w] at hok; cases hok))
  | true =>
    rw [if_pos rfl, pc_or, ← bw_ct (ok_dis ho hok) 8]
    exact fb_ct_cong (fun h _ => la_bw ho hok h)
/-! force and weigh -/
theorem or_k {p q : Nat → Bool} {n k : Nat} (hk : k < n) (h : ∀ x, q x = (p x || decide (k = x))) : bN p n ||| 2 ^ k = bN q n := by
  apply tb_ext; intro j
  rw [tb_or2, bN_tb, bN_tb, h]
  by_cases e : j = k
  · subst e; rw [decide_eq_true hk, decide_eq_true (rfl : j = j)]; simp
  · rw [decide_eq_false e, decide_eq_false (show ¬ k = j from fun w => e w.symm)]; simp
theorem force_c (ho : WitO W) (h : WitC W u) {l : Nat} (hl : l < 10) : ∃ v, fX10_force (nI l) u = some v ∧ gI v 11 4 = nI (shN W) ∧ (∀ j, v.2.1 39 j = if j = l then nI (hdN W l) else u.2.1 39 j) ∧ Fm [(11, 4)] [39] [] u v := by
  obtain ⟨o1, o2, o3, o4⟩ := ho
  unfold fX10_force
  rw [nxs, gdi hl (by omega), nxs]
  have f0 : Fm [(11, 4)] [39] [] u (sA (sI u 11 4 0) 39 (nI l) 0) := (Fm.rf.sI rfl).sA rfl
  refine lpE (fun f (z : Int32) w => fX10_force_14 (nI l) f z w) W.1 (fun i => nI i) (fun i w => gI w 11 4 = nI (bN (shK W i) 8) ∧ (∀ j, w.2.1 39 j = if j = l then nI (bN (hdK W l i) 8) else u.2.1 39 j) ∧ Fm [(11, 4)] [39] [] u w) (fun o => ∃ v, o = some v ∧ gI v 11 4 = nI (shN W) ∧ (∀ j, v.2.1 39 j = if j = l then nI (hdN W l) else u.2.1 39 j) ∧ Fm [(11, 4)] [39] [] u v) ?_ ?_ (by omega) 0 rfl ⟨?_, fun j => ?_, f0⟩
  · rintro f i w hi ⟨hs, hh, hf⟩
    have hw := h.fm hf rfl rfl
    have hk := o2 i hi
    have i12 := inb_nI (show i < 12 by omega) (show 12 < 2 ^ 31 by decide)
    have i10 := inb_nI (show l < 10 by omega) (show 10 < 2 ^ 31 by decide)
    left
    rw [fX10_force_14, show gI w 11 3 = _ from hw.1, if_neg (nI_ge hi (by omega)), gd_t i12, show gA w 38 (nI i) = _ from rowg hw.2.2.2 hi (by omega), gd_t i12, show gA w 37 (nI i) = _ from rowg hw.2.2.1 hi (by omega), gd_t i12, show gA w 36 (nI i) = _ from rowg hw.2.1 hi (by omega), nI_1]
    have n1 : (¬ W.2.2.2 i = 1) → bN (shK W (i + 1)) 8 = bN (shK W i) 8 := fun q => bN_cong (fun x _ => by
      show (shK W i x || (decide (W.2.2.2 i = 1) && decide (W.2.1 i = x))) = _
      rw [decide_eq_false q, Bool.false_and, Bool.or_false])
    have n2 : (¬ (W.2.2.2 i = 0 ∧ W.2.2.1 i ≤ l)) → bN (hdK W l (i + 1)) 8 = bN (hdK W l i) 8 := fun q => bN_cong (fun x _ => by
      show (hdK W l i x || (decide (W.2.2.2 i = 0) && (decide (W.2.2.1 i ≤ l) && decide (W.2.1 i = x)))) = _
      by_cases q1 : W.2.2.2 i = 0
      · rw [decide_eq_false (fun w => q ⟨q1, w⟩), Bool.false_and, Bool.and_false, Bool.or_false]
      · rw [decide_eq_false q1, Bool.false_and, Bool.or_false])
    rcases (show W.2.2.2 i = 0 ∨ W.2.2.2 i = 1 by have := o4 i hi; omega) with q | q
    · have e1 := n1 (by omega)
      rw [q, if_pos (show nI 0 = 0 from rfl)]
      by_cases q2 : W.2.2.1 i ≤ l
      · have s3 := o3 i hi
        rw [if_neg (nI_nlt q2 (by omega)), gd_t i10, gd_t i10, nxs]
        have e39 : gA w 39 (nI l) = nI (bN (hdK W l i) 8) := by
          show w.2.1 39 (nI l).toNatClampNeg = _
          rw [nI_clamp (by omega), hh l, if_pos rfl]
        rw [e39, or_b (by omega), or_k (q := hdK W l (i + 1)) hk (fun x => by
          show (hdK W l i x || (decide (W.2.2.2 i = 0) && (decide (W.2.2.1 i ≤ l) && decide (W.2.1 i = x)))) = _
          rw [decide_eq_true q, decide_eq_true q2]; rfl)]
        refine ⟨sA w 39 (nI l) (nI (bN (hdK W l (i + 1)) 8)), ⟨by rw [e1]; exact hs, fun j => ?_, hf.sA rfl⟩, rfl⟩
        show upd (w.2.1 39) (nI l).toNatClampNeg (nI (bN (hdK W l (i + 1)) 8)) j = _
        rw [nI_clamp (by omega)]
        by_cases ej : j = l
        · subst ej; rw [pk_us, if_pos rfl]
        · rw [pk_un ej, hh j, if_neg ej, if_neg ej]
      · have s3 := o3 i hi
        rw [if_pos (nI_lt (by omega) (by omega))]
        exact ⟨w, ⟨by rw [e1]; exact hs, by rw [n2 (fun w => q2 w.2)]; exact hh, hf⟩, rfl⟩
    · rw [q, if_neg (show ¬ nI 1 = 0 by decide), gd_t i12, nxs, hs, or_b (by omega), or_k (q := shK W (i + 1)) hk (fun x => by
        show (shK W i x || (decide (W.2.2.2 i = 1) && decide (W.2.1 i = x))) = _
        rw [decide_eq_true q]; rfl)]
      exact ⟨_, ⟨rfl, by rw [n2 (fun w => by omega)]; exact hh, hf.sI rfl⟩, rfl⟩
  · rintro f w ⟨hs, hh, hf⟩
    have hw := h.fm hf rfl rfl
    rw [fX10_force_14, show gI w 11 3 = _ from hw.1, if_pos (nI_le (Nat.le_refl _) (by omega))]
    exact ⟨w, rfl, hs, hh, hf⟩
  · rw [show bN (shK W 0) 8 = 0 from tb_ext (fun j => by rw [bN_tb, Nat.zero_testBit]; exact Bool.and_false _)]; rfl
  · rw [show bN (hdK W l 0) 8 = 0 from tb_ext (fun j => by rw [bN_tb, Nat.zero_testBit]; exact Bool.and_false _)]
    show upd (u.2.1 39) (nI l).toNatClampNeg 0 j = _
    rw [nI_clamp (by omega)]
    by_cases ej : j = l
    · subst ej; rw [pk_us, if_pos rfl]; rfl
    · rw [pk_un ej, if_neg ej]
theorem w63_c {K : Int32 → Int32 → US → Option (Int32 × US)} {l x y : Nat} (hl : l < 10) : fX10_weigh_63 K (nI y) (nI l) (nI l) (nI x) u = K (nI (y + x)) (nI (l + 1)) (sA u 40 (nI l) (nI x)) := by
  rw [fX10_weigh_63, gdi hl (by omega), nxs, gdi hl (by omega), nI_1, show gA (sA u 40 (nI l) (nI x)) 40 (nI l) = nI x from pk_us, nI_add]
def WeC (W : WW) (n : Nat) (u : US) : Prop := (0 < n → gI u 11 4 = nI (shN W)) ∧ (∀ j, j < n → u.2.1 39 j = nI (hdN W j)) ∧ (∀ j, j < n → u.2.1 40 j = nI (ftN W j))
theorem sh8 {p : Nat} (hp : p ≤ 8) : (1 : Int32) <<< (((8 : Int32) - nI p) &&& 31) = nI (2 ^ (8 - p)) := by
  rw [show (8 : Int32) - nI p = nI (8 - p) from pk_sub (a := 8) hp, sh1 _ (by omega)]
theorem weigh_c (ho : WitO W) (h : WitC W u) : ∃ v, fX10_weigh u = some (nI (fb_sm (ftN W) 10), v) ∧ WeC W 10 v ∧ Fm [(11, 4)] [39, 40] [] u v := by
  unfold fX10_weigh
  refine lpE (fun f (z : Int32 × Int32) w => fX10_weigh_4 f z.1 z.2 w) 10 (fun i => (nI (fb_sm (ftN W) i), nI i)) (fun i w => WeC W i w ∧ Fm [(11, 4)] [39, 40] [] u w) (fun o => ∃ v, o = some (nI (fb_sm (ftN W) 10), v) ∧ WeC W 10 v ∧ Fm [(11, 4)] [39, 40] [] u v) ?_ ?_ (by omega) (0, 0) rfl ⟨⟨fun h => absurd h (Nat.lt_irrefl 0), fun j hj => absurd hj (Nat.not_lt_zero j), fun j hj => absurd hj (Nat.not_lt_zero j)⟩, Fm.rf⟩
  · rintro f i w hi ⟨⟨h1, h2, h3⟩, hf⟩
    have hw := h.fm hf rfl rfl
    obtain ⟨v, e1, s1, d1, f1⟩ := force_c ho hw hi
    have hv := hw.fm f1 rfl rfl
    have i10 := inb_nI (show i < 10 by omega) (show 10 < 2 ^ 31 by decide)
    have e39 : gA v 39 (nI i) = nI (hdN W i) := by
      show v.2.1 39 (nI i).toNatClampNeg = _
      rw [nI_clamp (by omega), d1 i, if_pos rfl]
    have hd8 := hdN_256 (W := W) i
    have hs8 := shN_256 (W := W)
    have or8 : hdN W i ||| shN W < 2 ^ 8 := Nat.or_lt_two_pow hd8 hs8
    left
    dsimp only
    have nw : ∀ x, x = ftN W i → WeC W (i + 1) (sA v 40 (nI i) (nI x)) := fun x hx => ⟨fun _ => s1, fun j hj => by
        show v.2.1 39 j = _
        rw [d1 j]
        by_cases ej : j = i
        · subst ej; rw [if_pos rfl]
        · rw [if_neg ej]; exact h2 j (by omega), fun j hj => by
        show upd (v.2.1 40) (nI i).toNatClampNeg (nI x) j = _
        rw [nI_clamp (by omega), f1.a 40 rfl]
        by_cases ej : j = i
        · subst ej; rw [pk_us, hx]
        · rw [pk_un ej]; exact h3 j (by omega)⟩
    rw [fX10_weigh_4, if_neg (show ¬ (10 : Int32) ≤ nI i from nI_ge (b := 10) hi (by omega)), e1, oVs, gd_t i10, gd_t i10, e39, allows_c ho hv hi hd8, oBs, s1]
    cases hok : laB W i (hdN W i) with
    | false =>
      have ef : ftN W i = 0 := by unfold ftN; rw [show okL W i = false from hok, if_neg (by decide)]
      rw [if_pos (show bI false = 0 from rfl), show (0 : Int32) = nI 0 from rfl, w63_c hi]
      exact ⟨_, ⟨nw 0 ef.symm, (hf.trans (f1.mono rfl rfl rfl)).sA rfl⟩, by rw [fb_sm_succ, ef]⟩
    | true =>
      have ef : ftN W i = 2 ^ (8 - pcN (hdN W i ||| shN W)) := by unfold ftN; rw [show okL W i = true from hok, if_pos rfl]
      rw [if_neg (show ¬ bI true = 0 by decide), fa_or, bc_n or8, oBs, sh8 (pcN_le _), w63_c hi]
      exact ⟨_, ⟨nw _ ef.symm, (hf.trans (f1.mono rfl rfl rfl)).sA rfl⟩, by rw [fb_sm_succ, ef]⟩
  · rintro f w ⟨hwe, hf⟩
    dsimp only
    rw [fX10_weigh_4, if_pos (show (10 : Int32) ≤ nI 10 by decide)]
    exact ⟨w, rfl, hwe, hf⟩
