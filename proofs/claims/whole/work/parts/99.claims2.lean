/-! claims: who gets which -/
variable {D : DD} {m m' : MM} {e r : Nat} {u v w : US} {n mo p : Nat} {c : Nat → Nat} {ok : Bool}
theorem least_c {N fr i k : Nat} {W : Nat → Nat} (hN : N ≤ 8) (hW : ∀ j, j < N → W j < 256) (hf : fr < 256) (hi : i + (k + 1) = N) (hu : HeW N W u) : ∃ v, fX0_leastFor (nI i) (nI fr) (nI (hmN W (k + 1) i fr)) u = some (hV (hmC W k i fr).2, v) ∧ FH u v := by
  obtain ⟨u1, e1, f1⟩ := served_c (i := i + 1) hN hW hf (by omega) hu
  have ek : N - (i + 1) = k := by omega
  have hle := hmN_le (W := W) (k + 1) i fr
  have hle2 := hmN_le (W := W) k (i + 1) fr
  rw [ek] at e1
  unfold fX0_leastFor
  rw [nI_1, e1, oBs]
  have eN : hmN W (k + 1) i fr = (hmC W k i fr).1 := rfl
  cases hc : (hmC W k i fr).2 with
  | none =>
    have h1 : (hmC W k i fr).1 = hmN W k (i + 1) fr := hmB_no 8 hc
    rw [eN, h1, if_neg (nI_nlt (Nat.le_refl _) (by omega))]
    exact ⟨u1, rfl, f1⟩
  | some p0 =>
    obtain ⟨a1, a2, a3, a4⟩ := hmB_so 8 hc
    have a3' : hmN W k (i + 1) fr < hmN W (k + 1) i fr := a3
    rw [if_pos (nI_lt a3' (by omega))]
    have hwi := hW i (by omega)
    have hx : W i &&& fr < 65536 := Nat.lt_of_le_of_lt Nat.and_le_left (Nat.lt_trans hwi (by decide))
    have hbit : ∀ p, (W i &&& fr).testBit p = hfB W i fr p := fun p => Nat.testBit_and _ _ _
    have st : ∀ (g p : Nat) (w : US), p < 8 → FH u w → hfB W i fr p = true → ∃ w2, fX0_leastFor_17 (nI i) (nI fr) (nI (hmN W (k + 1) i fr)) (g + 1) (nI p) w = (if nI (hmN W k (i + 1) (nm fr (2 ^ p))) < nI (hmN W (k + 1) i fr - 1) then fX0_leastFor_17 (nI i) (nI fr) (nI (hmN W (k + 1) i fr)) g (nI (p + 1)) w2 else some (nI p, w2)) ∧ FH u w2 := by
      intro g p w hp hfw hfit
      obtain ⟨w2, e2, f2⟩ := served_c (i := i + 1) (fr := nm fr (2 ^ p)) hN hW (nm_256 hf) (by omega) (hu.fh hfw)
      rw [ek] at e2
      refine ⟨w2, ?_, hfw.trans f2⟩
      rw [fX0_leastFor_17, if_neg (show ¬ (8 : Int32) ≤ nI p from nI_ge (b := 8) hp (by omega)), gdi (show i < 8 by omega) (by omega), show gA w 41 (nI i) = nI (W i) from by show w.2.1 41 (nI i).toNatClampNeg = _; rw [nI_clamp (by omega)]; exact (hu.fh hfw).2 i (by omega), fa_and, has_c hx (by omega), oBs, hbit, hfit, if_neg (show ¬ bI true = 0 by decide), sh1 p (by omega), and_n, nI_1, e2, oBs, nI_1, subl _ (by omega)]
    refine lpE (fun g (z : Int32) w => fX0_leastFor_17 (nI i) (nI fr) (nI (hmN W (k + 1) i fr)) g z w) p0 (fun p => nI p) (fun _ w => FH u w) (fun o => ∃ v, o = some (hV (some p0), v) ∧ FH u v) ?_ ?_ (by omega) 0 rfl f1
    · rintro g p w hp hfw
      left
      cases hfit : hfB W i fr p with
      | true =>
        obtain ⟨w2, e2, f2⟩ := st g p w (by omega) hfw hfit
        have := a4 p hp _ (hmF_y hfit)
        have h5 : hmN W k (i + 1) (nm fr (2 ^ p)) + 1 < hmN W (k + 1) i fr := this
        rw [e2, if_pos (nI_lt (by omega) (by omega))]
        exact ⟨w2, f2, rfl⟩
      | false =>
        refine ⟨w, hfw, ?_⟩
        rw [fX0_leastFor_17, if_neg (show ¬ (8 : Int32) ≤ nI p from nI_ge (b := 8) (by omega) (by omega)), gdi (show i < 8 by omega) (by omega), show gA w 41 (nI i) = nI (W i) from by show w.2.1 41 (nI i).toNatClampNeg = _; rw [nI_clamp (by omega)]; exact (hu.fh hfw).2 i (by omega), fa_and, has_c hx (by omega), oBs, hbit, hfit, if_pos (show bI false = 0 from rfl), nI_1]
    · rintro g w hfw
      cases hfit : hfB W i fr p0 with
      | true =>
        obtain ⟨w2, e2, f2⟩ := st g p0 w a1 hfw hfit
        rw [hmF_y hfit] at a2
        have a5 : hmN W k (i + 1) (nm fr (2 ^ p0)) + 1 = hmN W (k + 1) i fr := Option.some.inj a2
        rw [e2, if_neg (nI_nlt (by omega) (by omega))]
        exact ⟨w2, rfl, f2⟩
      | false => rw [hmF_n hfit] at a2; cases a2
theorem m1p (n : Nat) : nI (n + 1) + (-1) = nI n := (Int32.sub_eq_add_neg (nI (n + 1)) 1).symm.trans (m1n n)
def hmT (L : List (Option Nat)) : List Int64 := L.map (fun o => (hV o).toInt64)
theorem tell23 {N : Nat} {W : Nat → Nat} (hN : N ≤ 8) (hW : ∀ j, j < N → W j < 256) (x : Int32) : ∀ (k i fr g : Nat) (l : List Int64) (w : US), i + k = N → k < g → fr < 256 → HeW N W w → TolC l w → l.length = i → ∃ v, fX0_tellMost_23 g (nI fr) x (nI (hmN W k i fr)) (nI i) w = some (x, v) ∧ TolC (l ++ hmT (hmL W k i fr)) v ∧ Fm [(12, 3), (8, 1)] [42] [33] w v := by
  intro k
  induction k with
  | zero =>
    intro i fr g l w hk hg hf hw hl hn
    obtain ⟨g, rfl⟩ : ∃ g', g = g' + 1 := ⟨g - 1, (by omega)⟩
    rw [fX0_tellMost_23, hw.1, if_pos (nI_le (by omega) (by omega))]
    exact ⟨w, rfl, by rw [show hmT (hmL W 0 i fr) = [] from rfl, List.append_nil]; exact hl, Fm.rf⟩
  | succ k ih =>
    intro i fr g l w hk hg hf hw hl hn
    obtain ⟨g, rfl⟩ : ∃ g', g = g' + 1 := ⟨g - 1, (by omega)⟩
    obtain ⟨w1, e1, f1⟩ := least_c hN hW hf hk hw
    obtain ⟨w2, e2, t2, f2⟩ := ad_c (hl.fm f1 rfl rfl) (by omega) (hV (hmC W k i fr).2).toInt64
    have f12 : Fm [(12, 3), (8, 1)] [42] [33] w w2 := (f1.mono rfl rfl rfl).trans (f2.mono rfl rfl rfl)
    have hw2 : HeW N W w2 := ⟨(f12.i 12 2 rfl).trans hw.1, fun j hj => by rw [f12.a 41 rfl]; exact hw.2 j hj⟩
    have hl2 : (l ++ [(hV (hmC W k i fr).2).toInt64]).length = i + 1 := by rw [List.length_append, hn]; rfl
    have hL : ∀ fr', hmR fr (hmC W k i fr).2 = fr' → l ++ hmT (hmL W (k + 1) i fr) = (l ++ [(hV (hmC W k i fr).2).toInt64]) ++ hmT (hmL W k (i + 1) fr') := fun fr' h => by
      rw [List.append_assoc, ← h]; rfl
    rw [fX0_tellMost_23, hw.1, if_neg (nI_ge (show i < N by omega) (by omega)), e1, oBs, e2, oVs, nI_1]
    cases hc : (hmC W k i fr).2 with
    | none =>
      have h1 : hmN W (k + 1) i fr = hmN W k (i + 1) fr := hmB_no 8 hc
      obtain ⟨v, e3, t3, f3⟩ := ih (i + 1) fr g _ w2 (by omega) (by omega) hf hw2 t2 hl2
      rw [if_pos (show hV none = -1 from rfl), h1, e3]
      exact ⟨v, rfl, by rw [hL fr (by rw [hc]; rfl)]; exact t3, f12.trans f3⟩
    | some p0 =>
      obtain ⟨a1, a2, a3, a4⟩ := hmB_so 8 hc
      cases hfit : hfB W i fr p0 with
      | false => rw [hmF_n hfit] at a2; cases a2
      | true =>
        rw [hmF_y hfit] at a2
        have a5 : hmN W k (i + 1) (nm fr (2 ^ p0)) + 1 = hmN W (k + 1) i fr := Option.some.inj a2
        obtain ⟨v, e3, t3, f3⟩ := ih (i + 1) (nm fr (2 ^ p0)) g _ w2 (by omega) (by omega) (nm_256 hf) hw2 t2 hl2
        rw [if_neg (show ¬ hV (some p0) = -1 from n31 (a := p0) (by omega)), show hV (some p0) = nI p0 from rfl, sh1 p0 (by omega), and_n, ← a5, m1p, e3]
        exact ⟨v, rfl, by rw [hL (nm fr (2 ^ p0)) (by rw [hc]; rfl)]; exact t3, f12.trans f3⟩
theorem tellMost_c {N : Nat} {W : Nat → Nat} (hN : N ≤ 8) (hW : ∀ j, j < N → W j < 256) (hu : HeW N W u) : ∃ v, fX0_tellMost u = some (nI (hmN W N 0 255), v) ∧ TolC (hmT (hmL W N 0 255)) v ∧ Fm [(12, 3), (8, 1)] [42] [33] u v := by
  obtain ⟨u1, e1, f1⟩ := served_c (i := 0) (fr := 255) hN hW (by decide) (Nat.zero_le _) hu
  rw [Nat.sub_zero] at e1
  obtain ⟨e2, t2⟩ := clr_c u1
  have f12 : Fm [(12, 3), (8, 1)] [42] [33] u (sI u1 8 1 0) := (f1.mono rfl rfl rfl).sI rfl
  obtain ⟨v, e3, t3, f3⟩ := tell23 hN hW (nI (hmN W N 0 255)) N 0 255 FU [] (sI u1 8 1 0) (by omega) (show N < 4096 by omega) (by decide) ⟨(f12.i 12 2 rfl).trans hu.1, fun j hj => by rw [f12.a 41 rfl]; exact hu.2 j hj⟩ t2 rfl
  unfold fX0_tellMost
  rw [show fX11_allOf 8 u = some (nI 255, u) from all_c (k := 8) (by decide) u, oBs, show (0 : Int32) = nI 0 from rfl, e1, oBs, e2, oVs, e3]
  exact ⟨v, rfl, t3, f12.trans f3⟩
/-! the model gives -/
def bV (x : Nat) : Int32 := nI x - 1
theorem bv_le : ∀ a : Nat, a < 20 → ∀ x : Nat, x < 20 → (nI a ≤ bV x ↔ a < x) := by decide +kernel
theorem bv_lt : ∀ a : Nat, a < 20 → ∀ x : Nat, x < 20 → (bV x < nI a ↔ x ≤ a) := by decide +kernel
theorem bv_1 : ∀ a : Nat, a < 20 → bV (a + 1) = nI a := by decide +kernel
/-- which panes a claim of kinds wants -/
def wtN (D : DD) (x : Nat) : Nat := bN (fun p => decide (nm x (dh D p) = 0)) (dP D)
def GvM (D : DD) (N : Nat) (K : Nat → Nat) (u : US) : Prop := gI u 47 6 = nI (dP D) ∧ (∀ j, j < N → u.2.1 78 j = nI (K j)) ∧ ∀ p, p < dP D → u.2.1 52 p = nI (dh D p)
abbrev FG (u v : US) : Prop := Fm [(47, 51)] [79, 80] [] u v
theorem GvM.fg {N : Nat} {K : Nat → Nat} (h : GvM D N K u) (f : FG u v) : GvM D N K v := ⟨(f.i 47 6 rfl).trans h.1, fun j hj => by rw [f.a 78 rfl]; exact h.2.1 j hj, fun p hp => by rw [f.a 52 rfl]; exact h.2.2 p hp⟩
def GvP (i N many bm val : Nat) (L : List (Option Nat)) (u v : US) : Prop := (bm ≤ many + val → gI v 47 51 = bV (many + val + 1) ∧ (∀ j, j < i → v.2.1 80 j = u.2.1 79 j) ∧ ∀ j, j < N - i → v.2.1 80 (i + j) = hV (L.getD j none)) ∧ (¬ bm ≤ many + val → gI v 47 51 = bV bm ∧ ∀ j, j < N → v.2.1 80 j = u.2.1 80 j)
theorem hmB_ext {b n : Nat} {f : Nat → Option Nat} : ∀ k, (∀ p, n ≤ p → p < n + k → f p = none) → hmB b f (n + k) = hmB b f n
  | 0, _ => rfl
  | k + 1, h => by
    show hmB b f (n + k + 1) = _
    rw [hmB_n (h (n + k) (by omega) (by omega))]
    exact hmB_ext k (fun p a b => h p a (by omega))
theorem nm_z {a b : Nat} (ha : a < 256) : nI (nm a b) = 0 ↔ nm a b = 0 := nI0 (Nat.lt_of_le_of_lt (nm_le a b) (Nat.lt_trans ha (by decide)))
theorem wt_tb {x p : Nat} : (wtN D x).testBit p = (decide (p < dP D) && decide (nm x (dh D p) = 0)) := bN_tb _ _ _
/-- the best way from the choices so far -/
def gvC (W : Nat → Nat) (k i fr p : Nat) : Nat × Option Nat := hmB (hmN W k (i + 1) fr) (hmF W k i fr) p
def gvX (W : Nat → Nat) (k i fr p : Nat) : List (Option Nat) := (gvC W k i fr p).2 :: hmL W k (i + 1) (hmR fr (gvC W k i fr p).2)
theorem gives_m {N : Nat} {K : Nat → Nat} (hN : N ≤ 8) (hK : ∀ j, j < N → K j < 256) (hP : dP D ≤ 8) : ∀ (k i fr been many bm f : Nat) (u : US), i + k = N → k < f → fr < 256 → been < 256 → (∀ p, p < 8 → fr.testBit p = !been.testBit p) → many ≤ i → bm ≤ 9 → GvM D N K u → gI u 47 51 = bV bm → ∃ v, fX12_givesFrom f (nI i) (nI N) (nI been) (nI many) u = some v ∧ FG u v ∧ (∀ j, j < i → v.2.1 79 j = u.2.1 79 j) ∧ GvP i N many bm (hmN (fun j => wtN D (K j)) k i fr) (hmL (fun j => wtN D (K j)) k i fr) u v := by
  intro k
  induction k with
  | zero =>
    intro i fr been many bm f u hk hf hfr hbe hrel hmi hbm hu hb
    obtain ⟨f, rfl⟩ : ∃ f', f = f' + 1 := ⟨f - 1, (by omega)⟩
    have : i = N := by omega
    subst this
    show ∃ v, GX12_givesFrom (fX12_givesFrom f) (nI i) (nI i) (nI been) (nI many) u = some v ∧ _
    unfold GX12_givesFrom
    rw [if_pos rfl, hb]
    by_cases q : many < bm
    · rw [if_pos ((bv_le many (by omega) bm (by omega)).mpr q)]
      exact ⟨u, rfl, Fm.rf, fun _ _ => rfl, fun w => absurd (show bm ≤ many + 0 from w) (by omega), fun _ => ⟨hb, fun _ _ => rfl⟩⟩
    · rw [if_neg (fun w => q ((bv_le many (by omega) bm (by omega)).mp w)), nxs]
      refine lpE (fun g (z : Int32) w => fX12_givesFrom_23 (fX12_givesFrom f) (nI i) (nI i) (nI been) (nI many) g z w) i (fun j => nI j) (fun j w => (∀ x, x < j → w.2.1 80 x = u.2.1 79 x) ∧ gI w 47 51 = nI many ∧ w.2.1 79 = u.2.1 79 ∧ FG u w) (fun o => ∃ v, o = some v ∧ FG u v ∧ (∀ j, j < i → v.2.1 79 j = u.2.1 79 j) ∧ GvP i i many bm (hmN (fun j => wtN D (K j)) 0 i fr) (hmL (fun j => wtN D (K j)) 0 i fr) u v) ?_ ?_ (by omega) 0 rfl ⟨fun x hx => absurd hx (Nat.not_lt_zero x), rfl, rfl, Fm.rf.sI rfl⟩
      · rintro g j w hj ⟨h1, h2, h3, h4⟩
        left
        rw [fX12_givesFrom_23, if_neg (nI_ge hj (by omega)), gdi (show j < 8 by omega) (by omega), gdi (show j < 8 by omega) (by omega), nxs, nI_1]
        refine ⟨sA w 80 (nI j) (gA w 79 (nI j)), ⟨fun x hx => ?_, h2, h3, h4.sA rfl⟩, rfl⟩
        show upd (w.2.1 80) (nI j).toNatClampNeg (w.2.1 79 (nI j).toNatClampNeg) x = _
        rw [nI_clamp (by omega)]
        by_cases q2 : x = j
        · subst q2; rw [pk_us, h3]
        · rw [pk_un q2]; exact h1 x (by omega)
      · rintro g w ⟨h1, h2, h3, h4⟩
        rw [fX12_givesFrom_23, if_pos (nI_le (Nat.le_refl _) (by omega))]
        refine ⟨w, rfl, h4, fun j _ => by rw [h3], fun _ => ⟨?_, h1, fun j hj => ?_⟩, fun w => absurd (show bm ≤ many + 0 by omega) w⟩
        · rw [h2]; exact (bv_1 many (by omega)).symm
        · omega
  | succ k ih =>
    intro i fr been many bm f u hk hf hfr hbe hrel hmi hbm hu hb
    obtain ⟨f, rfl⟩ : ∃ f', f = f' + 1 := ⟨f - 1, (by omega)⟩
    have hle := hmN_le (W := fun j => wtN D (K j)) (k + 1) i fr
    have hKi := hK i (by omega)
    show ∃ v, GX12_givesFrom (fX12_givesFrom f) (nI i) (nI N) (nI been) (nI many) u = some v ∧ _
    unfold GX12_givesFrom
    rw [if_neg (nI_n (a := i) (b := N) (by omega) (by omega) (by omega)), hb, nI_add, pk_sub (show i ≤ many + N by omega), show many + N - i = many + (k + 1) by omega]
    by_cases q : bm ≤ many + (k + 1)
    · rw [if_pos ((bv_lt (many + (k + 1)) (by omega) bm (by omega)).mpr q), gdi (show i < 8 by omega) (by omega), nxs]
      obtain ⟨u1, hu1⟩ : ∃ u1, u1 = sA u 79 (nI i) (-1) := ⟨_, rfl⟩
      have f1 : FG u u1 := by rw [hu1]; exact Fm.rf.sA rfl
      have a1 : ∀ j, j < i + 1 → u1.2.1 79 j = if j = i then -1 else u.2.1 79 j := fun j hj => by
        rw [hu1]
        show upd (u.2.1 79) (nI i).toNatClampNeg (-1) j = _
        rw [nI_clamp (by omega)]
        by_cases q2 : j = i
        · subst q2; rw [pk_us, if_pos rfl]
        · rw [pk_un q2, if_neg q2]
      have e80 : u1.2.1 80 = u.2.1 80 := by rw [hu1]; rfl
      obtain ⟨u2, e2, f2, g2, p2⟩ := ih (i + 1) fr been many bm f u1 (by omega) (by omega) hfr hbe hrel (by omega) hbm (hu.fg f1) (by rw [hu1]; exact hb)
      rw [← hu1, show nI i + 1 = nI (i + 1) from nI_1 i, e2, oVs]
      refine lpE (fun g (z : Int32) w => fX12_givesFrom_85 (fX12_givesFrom f) (nI i) (nI N) (nI been) (nI many) g z w) (dP D) (fun p => nI p) (fun p w => FG u w ∧ (∀ j, j < i → w.2.1 79 j = u.2.1 79 j) ∧ GvP i N many bm (gvC (fun j => wtN D (K j)) k i fr p).1 (gvX (fun j => wtN D (K j)) k i fr p) u w) (fun o => ∃ v, o = some v ∧ FG u v ∧ (∀ j, j < i → v.2.1 79 j = u.2.1 79 j) ∧ GvP i N many bm (hmN (fun j => wtN D (K j)) (k + 1) i fr) (hmL (fun j => wtN D (K j)) (k + 1) i fr) u v) ?_ ?_ (by omega) 0 rfl ⟨f1.trans f2, fun j hj => ?_, ?_⟩
      · rintro g p w hp ⟨hfw, h79, hG1, hG2⟩
        left
        have hw := hu.fg hfw
        have hp8 : p < 8 := by omega
        have hfit : hfB (fun j => wtN D (K j)) i fr p = (decide (nm (K i) (dh D p) = 0) && !been.testBit p) := by
          show ((wtN D (K i)).testBit p && fr.testBit p) = _
          rw [wt_tb, decide_eq_true hp, Bool.true_and, hrel p hp8]
        rw [fX12_givesFrom_85, hw.1, if_neg (nI_ge hp (by omega)), has_m (by omega) (by omega), oBs]
        cases hbp : been.testBit p with
        | true =>
          rw [hbp, Bool.not_true, Bool.and_false] at hfit
          have ec : gvC (fun j => wtN D (K j)) k i fr (p + 1) = gvC (fun j => wtN D (K j)) k i fr p := hmB_n (hmF_n hfit)
          rw [if_neg (show ¬ bI true = 0 by decide), nI_1]
          refine ⟨w, ⟨hfw, h79, ?_⟩, rfl⟩
          unfold gvX
          rw [ec]; exact ⟨hG1, hG2⟩
        | false =>
          rw [hbp, Bool.not_false, Bool.and_true] at hfit
          rw [if_pos (show bI false = 0 from rfl), gdi (show i < 8 by omega) (by omega), gdi hp8 (by omega), show gA w 78 (nI i) = nI (K i) from by show w.2.1 78 (nI i).toNatClampNeg = _; rw [nI_clamp (by omega)]; exact hw.2.1 i (by omega), show gA w 52 (nI p) = nI (dh D p) from by show w.2.1 52 (nI p).toNatClampNeg = _; rw [nI_clamp (by omega)]; exact hw.2.2 p hp, and_n]
          by_cases hz : nm (K i) (dh D p) = 0
          · rw [decide_eq_true hz] at hfit
            rw [if_pos ((nm_z hKi).mpr hz), gdi (show i < 8 by omega) (by omega), nxs, or_b (by omega), nI_1, nI_1, nI_1]
            obtain ⟨w1, hw1⟩ : ∃ w1, w1 = sA w 79 (nI i) (nI p) := ⟨_, rfl⟩
            have g1 : FG u w1 := by rw [hw1]; exact hfw.sA rfl
            have b1 : ∀ j, j < i + 1 → w1.2.1 79 j = if j = i then nI p else u.2.1 79 j := fun j hj => by
              rw [hw1]
              show upd (w.2.1 79) (nI i).toNatClampNeg (nI p) j = _
              rw [nI_clamp (by omega)]
              by_cases q2 : j = i
              · subst q2; rw [pk_us, if_pos rfl]
              · rw [pk_un q2, if_neg q2]; exact h79 j (by omega)
            have e80' : w1.2.1 80 = w.2.1 80 := by rw [hw1]; rfl
            have e51 : gI w1 47 51 = gI w 47 51 := by rw [hw1]; rfl
            have hbe2 : been ||| 2 ^ p < 256 := Nat.or_lt_two_pow (n := 8) hbe (Nat.pow_lt_pow_right (by decide) hp8)
            have hrel2 : ∀ p', p' < 8 → (nm fr (2 ^ p)).testBit p' = !(been ||| 2 ^ p).testBit p' := fun p' hp' => by
              rw [nm_tb (Nat.lt_trans hfr (by decide)), Nat.testBit_or, hrel p' hp', Bool.not_or]
            have hx := hmN_le (W := fun j => wtN D (K j)) k (i + 1) (nm fr (2 ^ p))
            have hcv : (gvC (fun j => wtN D (K j)) k i fr p).1 ≤ k + 1 := by
              have h8 := hmN_le (W := fun j => wtN D (K j)) (k + 1) i fr
              obtain ⟨d1, d2⟩ := hmB_ge (b := hmN (fun j => wtN D (K j)) k (i + 1) fr) (f := hmF (fun j => wtN D (K j)) k i fr) 8
              cases hc : (gvC (fun j => wtN D (K j)) k i fr p).2 with
              | none =>
                have : (gvC (fun j => wtN D (K j)) k i fr p).1 = _ := hmB_no p hc
                have h9 : (hmB (hmN (fun j => wtN D (K j)) k (i + 1) fr) (hmF (fun j => wtN D (K j)) k i fr) 8).1 ≤ k + 1 := h8
                omega
              | some p1 =>
                obtain ⟨c1, c2, _⟩ := hmB_so p hc
                have h9 : (hmB (hmN (fun j => wtN D (K j)) k (i + 1) fr) (hmF (fun j => wtN D (K j)) k i fr) 8).1 ≤ k + 1 := h8
                have h10 := d2 p1 (by omega) _ c2
                exact Nat.le_trans h10 h9
            have ey : gvC (fun j => wtN D (K j)) k i fr (p + 1) = if (gvC (fun j => wtN D (K j)) k i fr p).1 < hmN (fun j => wtN D (K j)) k (i + 1) (nm fr (2 ^ p)) + 1 then (hmN (fun j => wtN D (K j)) k (i + 1) (nm fr (2 ^ p)) + 1, some p) else gvC (fun j => wtN D (K j)) k i fr p := hmB_y (hmF_y hfit)
            rw [← hw1]
            by_cases hI : bm ≤ many + (gvC (fun j => wtN D (K j)) k i fr p).1
            · obtain ⟨i1, i2, i3⟩ := hG1 hI
              obtain ⟨w2, e3, f3, g3, p3, p4⟩ := ih (i + 1) (nm fr (2 ^ p)) (been ||| 2 ^ p) (many + 1) (many + (gvC (fun j => wtN D (K j)) k i fr p).1 + 1) f w1 (by omega) (by omega) (nm_256 hfr) hbe2 hrel2 (by omega) (by omega) (hu.fg g1) (e51.trans i1)
              rw [e3, oVs]
              refine ⟨w2, ⟨g1.trans f3, fun j hj => ?_, ?_⟩, rfl⟩
              · rw [g3 j (by omega), b1 j (by omega), if_neg (by omega)]
              · by_cases hL : (gvC (fun j => wtN D (K j)) k i fr p).1 < hmN (fun j => wtN D (K j)) k (i + 1) (nm fr (2 ^ p)) + 1
                · obtain ⟨j1, j2, j3⟩ := p3 (by omega)
                  unfold gvX
                  rw [ey, if_pos hL]
                  refine ⟨fun _ => ⟨?_, fun j hj => ?_, fun j hj => ?_⟩, fun w => absurd (show bm ≤ many + (hmN (fun j => wtN D (K j)) k (i + 1) (nm fr (2 ^ p)) + 1) by omega) w⟩
                  · rw [j1]; congr 1; show many + 1 + _ + 1 = many + (_ + 1) + 1; omega
                  · rw [j2 j (by omega), b1 j (by omega), if_neg (by omega)]
                  · cases j with
                    | zero => rw [Nat.add_zero, j2 i (by omega), b1 i (by omega), if_pos rfl]; rfl
                    | succ j => rw [show i + (j + 1) = i + 1 + j by omega, j3 j (by omega)]; rfl
                · obtain ⟨j1, j2⟩ := p4 (by omega)
                  unfold gvX
                  rw [ey, if_neg hL]
                  refine ⟨fun _ => ⟨j1, fun j hj => ?_, fun j hj => ?_⟩, fun w => absurd hI w⟩
                  · rw [j2 j (by omega), e80']; exact i2 j hj
                  · rw [j2 (i + j) (by omega), e80']; exact i3 j hj
            · obtain ⟨i1, i2⟩ := hG2 hI
              obtain ⟨w2, e3, f3, g3, p3, p4⟩ := ih (i + 1) (nm fr (2 ^ p)) (been ||| 2 ^ p) (many + 1) bm f w1 (by omega) (by omega) (nm_256 hfr) hbe2 hrel2 (by omega) hbm (hu.fg g1) (e51.trans i1)
              rw [e3, oVs]
              refine ⟨w2, ⟨g1.trans f3, fun j hj => ?_, ?_⟩, rfl⟩
              · rw [g3 j (by omega), b1 j (by omega), if_neg (by omega)]
              · by_cases hL : bm ≤ many + (hmN (fun j => wtN D (K j)) k (i + 1) (nm fr (2 ^ p)) + 1)
                · obtain ⟨j1, j2, j3⟩ := p3 (by omega)
                  unfold gvX
                  rw [ey, if_pos (by omega)]
                  refine ⟨fun _ => ⟨?_, fun j hj => ?_, fun j hj => ?_⟩, fun w => absurd hL w⟩
                  · rw [j1]; congr 1; show many + 1 + _ + 1 = many + (_ + 1) + 1; omega
                  · rw [j2 j (by omega), b1 j (by omega), if_neg (by omega)]
                  · cases j with
                    | zero => rw [Nat.add_zero, j2 i (by omega), b1 i (by omega), if_pos rfl]; rfl
                    | succ j => rw [show i + (j + 1) = i + 1 + j by omega, j3 j (by omega)]; rfl
                · obtain ⟨j1, j2⟩ := p4 (by omega)
                  have hno : ¬ bm ≤ many + (gvC (fun j => wtN D (K j)) k i fr (p + 1)).1 := by
                    rw [ey]
                    by_cases hL2 : (gvC (fun j => wtN D (K j)) k i fr p).1 < hmN (fun j => wtN D (K j)) k (i + 1) (nm fr (2 ^ p)) + 1
                    · rw [if_pos hL2]; exact hL
                    · rw [if_neg hL2]; exact hI
                  refine ⟨fun w => absurd w hno, fun _ => ⟨j1, fun j hj => ?_⟩⟩
                  rw [j2 j hj, e80']; exact i2 j hj
          · rw [decide_eq_false hz] at hfit
            have ec : gvC (fun j => wtN D (K j)) k i fr (p + 1) = gvC (fun j => wtN D (K j)) k i fr p := hmB_n (hmF_n hfit)
            rw [if_neg (fun w => hz ((nm_z hKi).mp w)), nI_1]
            refine ⟨w, ⟨hfw, h79, ?_⟩, rfl⟩
            unfold gvX
            rw [ec]; exact ⟨hG1, hG2⟩
      · rintro g w ⟨hfw, h79, hG⟩
        have hw := hu.fg hfw
        rw [fX12_givesFrom_85, hw.1, if_pos (nI_le (Nat.le_refl _) (by omega))]
        refine ⟨w, rfl, hfw, h79, ?_⟩
        have ec : hmC (fun j => wtN D (K j)) k i fr = gvC (fun j => wtN D (K j)) k i fr (dP D) := by
          have := hmB_ext (b := hmN (fun j => wtN D (K j)) k (i + 1) fr) (f := hmF (fun j => wtN D (K j)) k i fr) (n := dP D) (8 - dP D) (fun p a b => hmF_n (by
            show ((wtN D (K i)).testBit p && fr.testBit p) = false
            rw [wt_tb, decide_eq_false (by omega), Bool.false_and, Bool.false_and]))
          rw [show dP D + (8 - dP D) = 8 by omega] at this
          exact this
        have e1 : hmN (fun j => wtN D (K j)) (k + 1) i fr = (gvC (fun j => wtN D (K j)) k i fr (dP D)).1 := by rw [hmN_s, ec]
        have e2 : hmL (fun j => wtN D (K j)) (k + 1) i fr = gvX (fun j => wtN D (K j)) k i fr (dP D) := by
          show (hmC (fun j => wtN D (K j)) k i fr).2 :: hmL _ k (i + 1) (hmR fr (hmC (fun j => wtN D (K j)) k i fr).2) = _
          rw [ec]; rfl
        rw [e1, e2]; exact hG
      · rw [g2 j (by omega), a1 j (by omega), if_neg (by omega)]
      · obtain ⟨p3, p4⟩ := p2
        refine ⟨fun hI => ?_, fun hI => ?_⟩
        · obtain ⟨j1, j2, j3⟩ := p3 hI
          refine ⟨j1, fun j hj => ?_, fun j hj => ?_⟩
          · rw [j2 j (by omega), a1 j (by omega), if_neg (by omega)]
          · cases j with
            | zero => rw [Nat.add_zero, j2 i (by omega), a1 i (by omega), if_pos rfl]; rfl
            | succ j => rw [show i + (j + 1) = i + 1 + j by omega, j3 j (by omega)]; rfl
        · obtain ⟨j1, j2⟩ := p4 hI
          exact ⟨j1, fun j hj => by rw [j2 j hj, e80]⟩
    · rw [if_neg (fun w => q ((bv_lt (many + (k + 1)) (by omega) bm (by omega)).mp w))]
      exact ⟨u, rfl, Fm.rf, fun _ _ => rfl, fun w => absurd w (by omega), fun _ => ⟨hb, fun _ _ => rfl⟩⟩
