/-! laws -/
variable {D : DD} {m m' : MM} {e r : Nat} {u v : US} {W : WW}
def hp (W : WW) (l : Nat) : Nat := pcN (hdN W l)
theorem hp_le (l : Nat) : hp W l ≤ 8 := pcN_le _
def miN (W : WW) : Nat → Option Nat
  | 0 => none
  | i + 1 => if okL W i && (match miN W i with | none => true | some l => decide (hp W i ≤ hp W l)) then some i else miN W i
def boN (W : WW) : Nat → Option Nat
  | 0 => none
  | i + 1 => if okL W (9 - i) && (match boN W i with | none => true | some l => decide (hp W (9 - i) < hp W l)) then some (9 - i) else boN W i
theorem mi_y {i : Nat} (h : okL W i = true) (h2 : ∀ l, miN W i = some l → hp W i ≤ hp W l) : miN W (i + 1) = some i := by
  rw [miN, h, Bool.true_and]
  cases hq : miN W i with
  | none => rfl
  | some l => rw [if_pos (decide_eq_true (h2 l hq))]
theorem mi_n {i : Nat} (h : okL W i = false ∨ ∃ l, miN W i = some l ∧ ¬ hp W i ≤ hp W l) : miN W (i + 1) = miN W i := by
  rw [miN]
  rcases h with h | ⟨l, h1, h2⟩
  · rw [h, Bool.false_and, if_neg (by decide)]
  · rw [h1]
    show (if (okL W i && decide (hp W i ≤ hp W l)) = true then some i else some l) = some l
    rw [decide_eq_false h2, Bool.and_false, if_neg (by decide)]
theorem bo_y {i : Nat} (h : okL W (9 - i) = true) (h2 : ∀ l, boN W i = some l → hp W (9 - i) < hp W l) : boN W (i + 1) = some (9 - i) := by
  rw [boN, h, Bool.true_and]
  cases hq : boN W i with
  | none => rfl
  | some l => rw [if_pos (decide_eq_true (h2 l hq))]
theorem bo_n {i : Nat} (h : okL W (9 - i) = false ∨ ∃ l, boN W i = some l ∧ ¬ hp W (9 - i) < hp W l) : boN W (i + 1) = boN W i := by
  rw [boN]
  rcases h with h | ⟨l, h1, h2⟩
  · rw [h, Bool.false_and, if_neg (by decide)]
  · rw [h1]
    show (if (okL W (9 - i) && decide (hp W (9 - i) < hp W l)) = true then some (9 - i) else some l) = some l
    rw [decide_eq_false h2, Bool.and_false, if_neg (by decide)]
def mB' (W : WW) (l j : Nat) : Prop := hp W l < hp W j ∨ (hp W l = hp W j ∧ j ≤ l)
theorem mi_ok : ∀ i, (miN W i = none → ∀ j, j < i → okL W j = false) ∧ (∀ l, miN W i = some l → l < i ∧ okL W l = true ∧ ∀ j, j < i → okL W j = true → mB' W l j)
  | 0 => ⟨fun _ j hj => absurd hj (Nat.not_lt_zero j), fun l h => by cases h⟩
  | i + 1 => by
    obtain ⟨h1, h2⟩ := mi_ok i
    by_cases hok : okL W i = true
    · by_cases hc : ∀ l, miN W i = some l → hp W i ≤ hp W l
      · rw [mi_y hok hc]
        refine ⟨fun h => (by cases h), fun l h => ?_⟩
        cases h
        refine ⟨Nat.lt_succ_self i, hok, fun j hj hj2 => ?_⟩
        by_cases e : j = i
        · subst e; exact Or.inr ⟨rfl, Nat.le_refl _⟩
        · cases hq : miN W i with
          | none => rw [h1 hq j (by omega)] at hj2; cases hj2
          | some l =>
            have := hc l hq
            rcases (h2 l hq).2.2 j (by omega) hj2 with q | q
            · exact Or.inl (by omega)
            · by_cases e2 : hp W i = hp W j
              · exact Or.inr ⟨e2, (by omega)⟩
              · exact Or.inl (by omega)
      · have ⟨l, hl⟩ : ∃ l, miN W i = some l ∧ ¬ hp W i ≤ hp W l := by
          cases hq : miN W i with
          | none => exact absurd (fun l h => by rw [hq] at h; cases h) hc
          | some l => exact ⟨l, rfl, fun w => hc (fun l' h' => by rw [hq] at h'; cases h'; exact w)⟩
        rw [mi_n (Or.inr ⟨l, hl⟩)]
        refine ⟨fun h => (by rw [hl.1] at h; cases h), fun l' h => ?_⟩
        rw [hl.1] at h; cases h
        obtain ⟨a1, a2, a3⟩ := h2 l hl.1
        refine ⟨(by omega), a2, fun j hj hj2 => ?_⟩
        by_cases e : j = i
        · subst e; exact Or.inl (by omega)
        · exact a3 j (by omega) hj2
    · have hok2 := ts_nt hok
      rw [mi_n (Or.inl hok2)]
      refine ⟨fun h j hj => ?_, fun l h => ?_⟩
      · by_cases e : j = i
        · subst e; exact hok2
        · exact h1 h j (by omega)
      · obtain ⟨a1, a2, a3⟩ := h2 l h
        refine ⟨(by omega), a2, fun j hj hj2 => ?_⟩
        by_cases e : j = i
        · subst e; rw [hok2] at hj2; cases hj2
        · exact a3 j (by omega) hj2
theorem bo_ok : ∀ i, i ≤ 10 → (boN W i = none → ∀ j, 10 - i ≤ j → j < 10 → okL W j = false) ∧ (∀ l, boN W i = some l → 10 - i ≤ l ∧ l < 10 ∧ okL W l = true ∧ ∀ j, 10 - i ≤ j → j < 10 → okL W j = true → mB' W l j)
  | 0, _ => ⟨fun _ j hj hj2 => absurd hj2 (by omega), fun l h => by cases h⟩
  | i + 1, hi => by
    obtain ⟨h1, h2⟩ := bo_ok i (by omega)
    by_cases hok : okL W (9 - i) = true
    · by_cases hc : ∀ l, boN W i = some l → hp W (9 - i) < hp W l
      · rw [bo_y hok hc]
        refine ⟨fun h => (by cases h), fun l h => ?_⟩
        cases h
        refine ⟨(by omega), (by omega), hok, fun j hj hj3 hj2 => ?_⟩
        by_cases e : j = 9 - i
        · subst e; exact Or.inr ⟨rfl, Nat.le_refl _⟩
        · cases hq : boN W i with
          | none => rw [h1 hq j (by omega) hj3] at hj2; cases hj2
          | some l =>
            have := hc l hq
            rcases (h2 l hq).2.2.2 j (by omega) hj3 hj2 with q | q
            · exact Or.inl (by omega)
            · exact Or.inl (by omega)
      · have ⟨l, hl⟩ : ∃ l, boN W i = some l ∧ ¬ hp W (9 - i) < hp W l := by
          cases hq : boN W i with
          | none => exact absurd (fun l h => by rw [hq] at h; cases h) hc
          | some l => exact ⟨l, rfl, fun w => hc (fun l' h' => by rw [hq] at h'; cases h'; exact w)⟩
        rw [bo_n (Or.inr ⟨l, hl⟩)]
        refine ⟨fun h => (by rw [hl.1] at h; cases h), fun l' h => ?_⟩
        rw [hl.1] at h; cases h
        obtain ⟨a0, a1, a2, a3⟩ := h2 l hl.1
        refine ⟨(by omega), a1, a2, fun j hj hj3 hj2 => ?_⟩
        by_cases e : j = 9 - i
        · subst e
          by_cases e2 : hp W l = hp W (9 - i)
          · exact Or.inr ⟨e2, (by omega)⟩
          · exact Or.inl (by omega)
        · exact a3 j (by omega) hj3 hj2
    · have hok2 := ts_nt hok
      rw [bo_n (Or.inl hok2)]
      refine ⟨fun h j hj hj3 => ?_, fun l h => ?_⟩
      · by_cases e : j = 9 - i
        · subst e; exact hok2
        · exact h1 h j (by omega) hj3
      · obtain ⟨a0, a1, a2, a3⟩ := h2 l h
        refine ⟨(by omega), a1, a2, fun j hj hj3 hj2 => ?_⟩
        by_cases e : j = 9 - i
        · subst e; rw [hok2] at hj2; cases hj2
        · exact a3 j (by omega) hj3 hj2
theorem mi_bo : miN W 10 = boN W 10 := by
  obtain ⟨a1, a2⟩ := mi_ok (W := W) 10
  obtain ⟨b1, b2⟩ := bo_ok (W := W) 10 (Nat.le_refl _)
  cases hm : miN W 10 with
  | none =>
    cases hb : boN W 10 with
    | none => rfl
    | some l =>
      obtain ⟨_, c1, c2, _⟩ := b2 l hb
      rw [a1 hm l c1] at c2; cases c2
  | some l =>
    obtain ⟨c1, c2, c3⟩ := a2 l hm
    cases hb : boN W 10 with
    | none => rw [b1 hb l (by omega) c1] at c2; cases c2
    | some l' =>
      obtain ⟨_, d1, d2, d3⟩ := b2 l' hb
      have x1 := c3 l' d1 d2
      have x2 := d3 l (by omega) c1 c2
      unfold mB' at x1 x2
      congr 1
      omega
theorem ft_pos {l : Nat} : 0 < ftN W l ↔ okL W l = true := by
  unfold ftN
  cases okL W l with
  | true => rw [if_pos rfl]; exact ⟨fun _ => rfl, fun _ => Nat.two_pow_pos _⟩
  | false => rw [if_neg (by decide)]; exact ⟨fun h => absurd h (Nat.lt_irrefl 0), fun h => by cases h⟩
theorem ft_le (l : Nat) : ftN W l ≤ 256 := by
  unfold ftN
  split
  · exact pow8 (n := 8) (by omega)
  · exact Nat.zero_le _
def miF : Option Nat → WW → Int32
  | none, _ => 8
  | some l, W => nI (hp W l)
theorem mild_c (h : WeC W 10 u) : fX10_mildestLimit u = some (hV (miN W 10), u) := by
  unfold fX10_mildestLimit
  refine lpF (fun f (z : Int32 × Int32 × Int32) w => fX10_mildestLimit_7 f z.1 z.2.1 z.2.2 w) 10 (fun i => (hV (miN W i), miF (miN W i) W, nI i)) (fun w => w = u) (fun o => o = some (hV (miN W 10), u)) ?_ ?_ (by omega) (-1, 8, 0) rfl rfl
  · intro f i w hi hw
    subst hw
    refine ⟨w, rfl, ?_⟩
    have i10 := inb_nI (show i < 10 by omega) (show 10 < 2 ^ 31 by decide)
    have e39 : gA w 39 (nI i) = nI (hdN W i) := by show w.2.1 39 (nI i).toNatClampNeg = _; rw [nI_clamp (by omega)]; exact h.2.1 i hi
    have e40 : gA w 40 (nI i) = nI (ftN W i) := by show w.2.1 40 (nI i).toNatClampNeg = _; rw [nI_clamp (by omega)]; exact h.2.2 i hi
    have hfl := ft_le (W := W) i
    have hpl := hp_le (W := W) i
    dsimp only
    rw [fX10_mildestLimit_7, if_neg (show ¬ (10 : Int32) ≤ nI i from nI_ge (b := 10) hi (by omega)), gd_t i10, e39, bc_n (hdN_256 i), oBs, gd_t i10, e40, nI_1, show pcN (hdN W i) = hp W i from rfl]
    cases hok : okL W i with
    | false =>
      have : ftN W i = 0 := by
        have : ¬ 0 < ftN W i := fun w => by rw [ft_pos.mp w] at hok; cases hok
        omega
      rw [this, if_pos (show nI 0 ≤ 0 by decide), mi_n (Or.inl hok)]
    | true =>
      rw [if_neg (nI_nle (ft_pos.mpr hok) (by omega))]
      cases hq : miN W i with
      | none =>
        rw [if_neg (show ¬ miF none W < nI (hp W i) from nI_nlt (a := 8) (by omega) (by omega)), mi_y hok (fun l hl => by rw [hq] at hl; cases hl)]; rfl
      | some l =>
        have hpl2 := hp_le (W := W) l
        by_cases q : hp W i ≤ hp W l
        · rw [if_neg (show ¬ miF (some l) W < nI (hp W i) from nI_nlt q (by omega)), mi_y hok (fun l' hl => by rw [hq] at hl; cases hl; exact q)]; rfl
        · rw [if_pos (show miF (some l) W < nI (hp W i) from nI_lt (by omega) (by omega)), mi_n (Or.inr ⟨l, hq, q⟩), hq]
  · intro f w hw
    subst hw
    dsimp only
    rw [fX10_mildestLimit_7, if_pos (show (10 : Int32) ≤ nI 10 by decide)]
def laL (W : WW) (o : Option Nat) : List Int64 := match o with
  | none => []
  | some l => [(nI (hdN W l)).toInt64, (nI l).toInt64]
theorem laws_c (ho : WitO W) (h : WitC W u) : ∃ v, fX11_laws u = some (nI (fb_sm (ftN W) 10), v) ∧ TolC (laL W (boN W 10)) v ∧ Ft u v := by
  obtain ⟨v, e1, w1, f1⟩ := weigh_c ho h
  obtain ⟨e0, t0⟩ := clr_c v
  have w2 : WeC W 10 (sI v 8 1 0) := w1
  have f2 : Ft u (sI v 8 1 0) := (f1.mono rfl rfl rfl : Ft u v).sI rfl
  unfold fX11_laws
  rw [e1, oBs, e0, oVs, mild_c w2, oBs, mi_bo]
  cases hq : boN W 10 with
  | none =>
    rw [if_pos (show hV none = -1 from rfl)]
    exact ⟨_, rfl, t0, f2⟩
  | some l =>
    have hl := ((bo_ok (W := W) 10 (Nat.le_refl _)).2 l hq).2.1
    obtain ⟨v3, e3, t3, f3⟩ := tl2_c (nI (hdN W l)).toInt64 (nI l).toInt64 (sI v 8 1 0)
    have e39 : gA (sI v 8 1 0) 39 (nI l) = nI (hdN W l) := by show v.2.1 39 (nI l).toNatClampNeg = _; rw [nI_clamp (by omega)]; exact w1.2.1 l hl
    rw [if_neg (show ¬ hV (some l) = -1 from n31 (by omega)), show hV (some l) = nI l from rfl]
    unfold fX10_hiddenAt
    rw [if_neg (nI_pos (by omega)), if_neg (show ¬ (10 : Int32) ≤ nI l from nI_ge (b := 10) hl (by omega)), gdi hl (by omega), e39, oBs, e3, oVs]
    exact ⟨v3, rfl, t3, f2.trans f3.tcft⟩
/-! the model -/
def bH : Option Nat → WW → Int32
  | none, _ => 0
  | some l, W => nI (hdN W l)
def bL : Option Nat → Int32
  | none => 0
  | some l => nI l
theorem la_sup (ho : WitO W) {l h : Nat} (hq : laB W l h = true) : hdN W l ≤ h ∧ hp W l ≤ pcN h := by
  have h0 := (la_iff ho).mp hq
  have sub : ∀ i, (hdN W l).testBit i = true → h.testBit i = true := fun i hi => by
    by_cases hx : i < 8
    · rw [hd_tb hx] at hi; exact h0.2.1 i hx hi
    · rw [tb_hi (n := 8) (hdN_256 l) (by omega)] at hi; cases hi
  refine ⟨?_, pc_mono sub⟩
  have : hdN W l &&& h = hdN W l := tb_ext (fun i => by
    rw [Nat.testBit_and]
    cases hb : (hdN W l).testBit i with
    | false => rfl
    | true => rw [sub i hb]; rfl)
  rw [← this]; exact Nat.and_le_right
/-- what stands inside a level: the best before, or that level's own -/
def inO (W : WW) (b : Option Nat) (l h : Nat) : Option Nat := if okL W l = true ∧ hdN W l < h ∧ (∀ l0, b = some l0 → hp W l < hp W l0) then some l else b
theorem l23_m (ho : WitO W) (h : WitM W u) {M l : Nat} {b : Option Nat} (hl : l < 10) (hM : M ≤ 3000) (hb : (M = 0 ↔ b = none)) (hb2 : ∀ l0, b = some l0 → l0 < 10) (K : Int32 → Int32 → Int32 → Int32 → US → Option (Int32 × US)) : fX12_laws_23 K FU (nI M) (bH b W) (bL b) (nI l) 0 u = K (nI (M + ftN W l)) (bH (inO W b l 256) W) (bL (inO W b l 256)) (nI l + (-1)) u := by
  rw [← la_ct ho l]
  refine lpF (fun f (z : Int32 × Int32 × Int32 × Int32) w => fX12_laws_23 K f z.1 z.2.1 z.2.2.1 (nI l) z.2.2.2 w) 256 (fun i => (nI (M + fb_ct (fun h => laB W l h) i), bH (inO W b l i) W, bL (inO W b l i), nI i)) (fun w => w = u) (fun o => o = K (nI (M + fb_ct (fun h => laB W l h) 256)) (bH (inO W b l 256) W) (bL (inO W b l 256)) (nI l + (-1)) u) ?_ ?_ (by omega) (nI M, bH b W, bL b, 0) (by
    have : inO W b l 0 = b := by unfold inO; rw [if_neg (fun w => absurd w.2.1 (Nat.not_lt_zero _))]
    rw [this]; rfl) rfl
  · intro f i w hi hw
    subst hw
    refine ⟨w, rfl, ?_⟩
    dsimp only
    have hcl : fb_ct (fun h => laB W l h) i ≤ i := fb_ct_le _ i
    rw [fX12_laws_23, if_neg (show ¬ (256 : Int32) ≤ nI i from nI_ge (b := 256) hi (by omega)), law_m ho h hl hi, oBs, nI_1, fb_ct_succ]
    cases hla : laB W l i with
    | false =>
      have e0 : inO W b l (i + 1) = inO W b l i := by
        unfold inO
        by_cases q : okL W l = true ∧ hdN W l < i ∧ (∀ l0, b = some l0 → hp W l < hp W l0)
        · rw [if_pos q, if_pos ⟨q.1, (by omega), q.2.2⟩]
        · rw [if_neg q, if_neg (fun w => q ⟨w.1, by
            by_cases e : hdN W l = i
            · have := w.1
              unfold okL at this
              rw [e, hla] at this; cases this
            · have := w.2.1; omega, w.2.2⟩)]
      rw [if_pos (show bI false = 0 from rfl), e0]; rfl
    | true =>
      have hok := la_no ho hla
      obtain ⟨s1, s2⟩ := la_sup ho hla
      have hpi := pcN_le i
      have hpl := hp_le (W := W) l
      rw [if_neg (show ¬ bI true = 0 by decide), fX12_laws_58, if_pos rfl]
      by_cases e : hdN W l = i
      · have c0 : fb_ct (fun h => laB W l h) i = 0 := fb_ct_zero.mpr (fun k hk => ts_nt (fun w => by have := (la_sup ho w).1; omega))
        have e0 : inO W b l i = b := by unfold inO; rw [if_neg (fun w => by omega)]
        rw [c0, Nat.add_zero, e0]
        cases hbo : b with
        | none =>
          have e1 : inO W none l (i + 1) = some l := by unfold inO; rw [if_pos ⟨hok, (by omega), fun l0 hl0 => by cases hl0⟩]
          rw [hb.mpr hbo, if_pos (show nI 0 = 0 from rfl), e1, nI_1, nI_1, ← e]; rfl
        | some l0 =>
          have hM0 : ¬ M = 0 := fun w => by rw [hb.mp w] at hbo; cases hbo
          have hp0 := hp_le (W := W) l0
          rw [if_neg (nI_ne0 (by omega) (by omega)), bc_n (by omega), oBs, show bH (some l0) W = nI (hdN W l0) from rfl, bc_n (hdN_256 l0), oBs, show pcN (hdN W l0) = hp W l0 from rfl, show pcN i = hp W l by rw [← e]; rfl, nI_1]
          by_cases q : hp W l < hp W l0
          · have e1 : inO W (some l0) l (i + 1) = some l := by unfold inO; rw [if_pos ⟨hok, (by omega), fun l1 hl1 => by cases hl1; exact q⟩]
            rw [if_neg (nI_ge q (by omega)), fX12_laws_58, nI_1, nI_1, e1, ← e]; rfl
          · have e1 : inO W (some l0) l (i + 1) = some l0 := by unfold inO; rw [if_neg (fun w => q (w.2.2 l0 rfl))]
            rw [if_pos (nI_le (by omega) (by omega)), e1]; rfl
      · have hlt : hdN W l < i := by omega
        have c1 : 0 < fb_ct (fun h => laB W l h) i := fb_ct_pos.mpr ⟨hdN W l, hlt, hok⟩
        have e0 : inO W b l (i + 1) = inO W b l i := by
          unfold inO
          by_cases q : okL W l = true ∧ hdN W l < i ∧ (∀ l0, b = some l0 → hp W l < hp W l0)
          · rw [if_pos q, if_pos ⟨q.1, (by omega), q.2.2⟩]
          · rw [if_neg q, if_neg (fun w => q ⟨w.1, hlt, w.2.2⟩)]
        rw [if_neg (nI_ne0 (by omega) (by omega)), bc_n (by omega), oBs, e0, nI_1]
        have key : ∃ l1, inO W b l i = some l1 ∧ hp W l1 ≤ pcN i := by
          unfold inO
          by_cases q : ∀ l0, b = some l0 → hp W l < hp W l0
          · exact ⟨l, by rw [if_pos ⟨hok, hlt, q⟩], s2⟩
          · rw [if_neg (fun w => q w.2.2)]
            cases hbo : b with
            | none => exact absurd (fun l0 hl0 => by rw [hbo] at hl0; cases hl0) q
            | some l0 =>
              refine ⟨l0, rfl, ?_⟩
              have : ¬ hp W l < hp W l0 := fun w => q (fun l1 hl1 => by rw [hbo] at hl1; cases hl1; exact w)
              omega
        obtain ⟨l1, k1, k2⟩ := key
        rw [k1, show bH (some l1) W = nI (hdN W l1) from rfl, bc_n (hdN_256 l1), oBs, show pcN (hdN W l1) = hp W l1 from rfl, if_pos (nI_le k2 (by omega))]; rfl
  · intro f w hw
    subst hw
    dsimp only
    rw [fX12_laws_23, if_pos (show (256 : Int32) ≤ nI 256 by decide)]
def maN (W : WW) (i : Nat) : Nat := fb_sm (fun j => ftN W (9 - j)) i
theorem ma_le : ∀ i, maN W i ≤ 256 * i
  | 0 => Nat.le_refl _
  | i + 1 => by
    have := ma_le i
    have := ft_le (W := W) (9 - i)
    show maN W i + ftN W (9 - i) ≤ _
    omega
theorem ma_bo : ∀ i, i ≤ 10 → (maN W i = 0 ↔ boN W i = none)
  | 0, _ => ⟨fun _ => rfl, fun _ => rfl⟩
  | i + 1, hi => by
    have ih := ma_bo i (by omega)
    show maN W i + ftN W (9 - i) = 0 ↔ _
    cases hok : okL W (9 - i) with
    | false =>
      have e0 : ftN W (9 - i) = 0 := by
        have : ¬ 0 < ftN W (9 - i) := fun w => by rw [ft_pos.mp w] at hok; cases hok
        omega
      rw [e0, Nat.add_zero, bo_n (Or.inl hok)]; exact ih
    | true =>
      have hp0 := ft_pos.mpr hok
      refine ⟨fun h => absurd h (by omega), fun h => ?_⟩
      exfalso
      obtain ⟨b1, _⟩ := bo_ok (W := W) (i + 1) hi
      rw [b1 h (9 - i) (by omega) (by omega)] at hok; cases hok
theorem in_bo {i : Nat} (hi : i < 10) : inO W (boN W i) (9 - i) 256 = boN W (i + 1) := by
  unfold inO
  have h8 := hdN_256 (W := W) (9 - i)
  by_cases q : okL W (9 - i) = true ∧ hdN W (9 - i) < 256 ∧ (∀ l0, boN W i = some l0 → hp W (9 - i) < hp W l0)
  · rw [if_pos q, bo_y q.1 q.2.2]
  · rw [if_neg q]
    symm
    apply bo_n
    cases hok : okL W (9 - i) with
    | false => exact Or.inl rfl
    | true =>
      right
      cases hq : boN W i with
      | none => exact absurd ⟨hok, h8, fun l0 hl0 => by rw [hq] at hl0; cases hl0⟩ q
      | some l => exact ⟨l, rfl, fun w => q ⟨hok, h8, fun l0 hl0 => by rw [hq] at hl0; cases hl0; exact w⟩⟩
theorem ma_10 : maN W 10 = fb_sm (ftN W) 10 := by
  show 0 + ftN W 9 + ftN W 8 + ftN W 7 + ftN W 6 + ftN W 5 + ftN W 4 + ftN W 3 + ftN W 2 + ftN W 1 + ftN W 0 = 0 + ftN W 0 + ftN W 1 + ftN W 2 + ftN W 3 + ftN W 4 + ftN W 5 + ftN W 6 + ftN W 7 + ftN W 8 + ftN W 9
  omega
theorem dec9 (i : Nat) (hi : i < 10) : (9 : Int32) - nI i = nI (9 - i) := pk_sub (a := 9) (by omega)
theorem dec9s (i : Nat) : (9 : Int32) - nI i + (-1) = 9 - nI (i + 1) := by
  rw [Int32.add_neg_eq_sub, ← nI_1, Int32.sub_sub]
theorem laws_m (ho : WitO W) (h : WitM W (sI u 47 0 0)) : ∃ v, fX12_laws u = some (nI (fb_sm (ftN W) 10), v) ∧ TolM (laL W (boN W 10)) v ∧ Fq u v := by
  have k0 : Fq u (sI u 47 0 0) := Fm.rf.sI rfl
  rw [fX12_laws, nxs, ← ma_10]
  refine lpF (fun f (z : Int32 × Int32 × Int32 × Int32) w => fX12_laws_15 f z.1 z.2.1 z.2.2.1 z.2.2.2 w) 10 (fun i => (nI (maN W i), bH (boN W i) W, bL (boN W i), 9 - nI i)) (fun w => w = sI u 47 0 0) (fun o => ∃ v, o = some (nI (maN W 10), v) ∧ TolM (laL W (boN W 10)) v ∧ Fq u v) ?_ ?_ (by omega) (0, 0, 0, 9) rfl rfl
  · intro f i w hi hw
    subst hw
    refine ⟨_, rfl, ?_⟩
    have hm := ma_le (W := W) i
    dsimp only
    rw [dec9 i hi, fX12_laws_15, if_neg (nI_pos (by omega)), l23_m ho h (by omega) (by omega) (ma_bo i (by omega)) (fun l0 hl0 => ((bo_ok (W := W) i (by omega)).2 l0 hl0).2.1) (fX12_laws_15 f), in_bo hi, ← dec9 i hi, dec9s]; rfl
  · intro f w hw
    subst hw
    have hm := ma_le (W := W) 10
    dsimp only
    rw [fX12_laws_15, if_pos (show (9 : Int32) - nI 10 < 0 by decide), nxs]
    cases hq : boN W 10 with
    | none =>
      rw [(ma_bo (W := W) 10 (Nat.le_refl _)).mpr hq, if_pos (show nI 0 ≤ 0 by decide)]
      exact ⟨_, rfl, clr_m _, k0.sI rfl⟩
    | some l =>
      have hne : ¬ maN W 10 = 0 := fun w => by rw [(ma_bo (W := W) 10 (Nat.le_refl _)).mp w] at hq; cases hq
      obtain ⟨v1, e1, t1, f1⟩ := en_m (clr_m (sI u 47 0 0)) (by decide) (nI (hdN W l)).toInt64
      obtain ⟨v2, e2, t2, f2⟩ := en_m t1 (by simp) (nI l).toInt64
      rw [if_neg (nI_nle (by omega) (by omega)), show bH (some l) W = nI (hdN W l) from rfl, e1, oVs, show bL (some l) = nI l from rfl, e2, oVs]
      exact ⟨v2, rfl, t2, ((k0.sI rfl).trans f1.mq).trans f2.mq⟩
theorem st_32 : St_32 Inv := by
  intro n u hn hI
  obtain ⟨D, m, hW, hR⟩ := Inv_to hI
  obtain ⟨W, wo, wc, wm⟩ := wit_of hR
  obtain ⟨v, e1, t1, f1⟩ := laws_c wo wc
  obtain ⟨w, e2, t2, f2⟩ := laws_m wo ((wm.fm f1 rfl rfl).fm (a := [(47, 0)]) (b := []) (c := []) (Fm.rf.sI rfl) rfl rfl)
  refine ⟨_, v, w, e1, e2, q_told hI f1 t1 f2 t2 ?_⟩
  cases boN W 10 with
  | none => simp [laL]
  | some l => simp [laL]
