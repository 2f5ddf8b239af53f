/-! claims: who gets which -/
variable {D : DD} {m m' : MM} {e r : Nat} {u v w : US} {n mo p : Nat} {c : Nat → Nat} {ok : Bool}
theorem least_c {N fr i k : Nat} {W : Nat → Nat} (hN : N ≤ 8) (hW : ∀ j, j < N → W j < 256) (hf : fr < 256) (hi : i + (k + 1) = N) (hu : HeW N W u) : ∃ v, fX0_leastFor (nI i) (nI fr) (nI (hmN W (k + 1) i fr)) u = some (hV (hmC W k i fr).2, v) ∧ FH u v := by
  obtain ⟨u1, e1, f1⟩ := served_c (i := i + 1) hN hW hf (by omega) hu
  have ek : N - (i + 1) = k := by omega
  have hle := hmN_le (W := W) (k + 1) i fr
  have hle2 := hmN_le (W := W) k (i + 1) fr
  rw [ek] at e1
  unfold fX0_leastFor
  rw [nI_1, e1, oBs]
  have eN : hmN W (k + 1) i fr = (hmC W k i fr).1 := rfl
  cases hc : (hmC W k i fr).2 with
  | none =>
    have h1 : (hmC W k i fr).1 = hmN W k (i + 1) fr := hmB_no 8 hc
    rw [eN, h1, if_neg (nI_nlt (Nat.le_refl _) (by omega))]
    exact ⟨u1, rfl, f1⟩
  | some p0 =>
    obtain ⟨a1, a2, a3, a4⟩ := hmB_so 8 hc
    have a3' : hmN W k (i + 1) fr < hmN W (k + 1) i fr := a3
    rw [if_pos (nI_lt a3' (by omega))]
    have hwi := hW i (by omega)
    have hx : W i &&& fr < 65536 := Nat.lt_of_le_of_lt Nat.and_le_left (Nat.lt_trans hwi (by decide))
    have hbit : ∀ p, (W i &&& fr).testBit p = hfB W i fr p := fun p => Nat.testBit_and _ _ _
    have st : ∀ (g p : Nat) (w : US), p < 8 → FH u w → hfB W i fr p = true → ∃ w2, fX0_leastFor_17 (nI i) (nI fr) (nI (hmN W (k + 1) i fr)) (g + 1) (nI p) w = (if nI (hmN W k (i + 1) (nm fr (2 ^ p))) < nI (hmN W (k + 1) i fr - 1) then fX0_leastFor_17 (nI i) (nI fr) (nI (hmN W (k + 1) i fr)) g (nI (p + 1)) w2 else some (nI p, w2)) ∧ FH u w2 := by
      intro g p w hp hfw hfit
      obtain ⟨w2, e2, f2⟩ := served_c (i := i + 1) (fr := nm fr (2 ^ p)) hN hW (nm_256 hf) (by omega) (hu.fh hfw)
      rw [ek] at e2
      refine ⟨w2, ?_, hfw.trans f2⟩
      rw [fX0_leastFor_17, if_neg (show ¬ (8 : Int32) ≤ nI p from nI_ge (b := 8) hp (by omega)), gdi (show i < 8 by omega) (by omega), show gA w 41 (nI i) = nI (W i) from by show w.2.1 41 (nI i).toNatClampNeg = _; rw [nI_clamp (by omega)]; exact (hu.fh hfw).2 i (by omega), fa_and, has_c hx (by omega), oBs, hbit, hfit, if_neg (show ¬ bI true = 0 by decide), sh1 p (by omega), and_n, nI_1, e2, oBs, nI_1, subl _ (by omega)]
    refine lpE (fun g (z : Int32) w => fX0_leastFor_17 (nI i) (nI fr) (nI (hmN W (k + 1) i fr)) g z w) p0 (fun p => nI p) (fun _ w => FH u w) (fun o => ∃ v, o = some (hV (some p0), v) ∧ FH u v) ?_ ?_ (by omega) 0 rfl f1
    · rintro g p w hp hfw
      left
      cases hfit : hfB W i fr p with
      | true =>
        obtain ⟨w2, e2, f2⟩ := st g p w (by omega) hfw hfit
        have := a4 p hp _ (hmF_y hfit)
        have h5 : hmN W k (i + 1) (nm fr (2 ^ p)) + 1 < hmN W (k + 1) i fr := this
        rw [e2, if_pos (nI_lt (by omega) (by omega))]
        exact ⟨w2, f2, rfl⟩
      | false =>
        refine ⟨w, hfw, ?_⟩
        rw [fX0_leastFor_17, if_neg (show ¬ (8 : Int32) ≤ nI p from nI_ge (b := 8) (by omega) (by omega)), gdi (show i < 8 by omega) (by omega), show gA w 41 (nI i) = nI (W i) from by show w.2.1 41 (nI i).toNatClampNeg = _; rw [nI_clamp (by omega)]; exact (hu.fh hfw).2 i (by omega), fa_and, has_c hx (by omega), oBs, hbit, hfit, if_pos (show bI false = 0 from rfl), nI_1]
    · rintro g w hfw
      cases hfit : hfB W i fr p0 with
      | true =>
        obtain ⟨w2, e2, f2⟩ := st g p0 w a1 hfw hfit
        rw [hmF_y hfit] at a2
        have a5 : hmN W k (i + 1) (nm fr (2 ^ p0)) + 1 = hmN W (k + 1) i fr := Option.some.inj a2
        rw [e2, if_neg (nI_nlt (by omega) (by omega))]
        exact ⟨w2, rfl, f2⟩
      | false => rw [hmF_n hfit] at a2; cases a2
theorem m1p (n : Nat) : nI (n + 1) + (-1) = nI n := (Int32.sub_eq_add_neg (nI (n + 1)) 1).symm.trans (m1n n)
def hmT (L : List (Option Nat)) : List Int64 := L.map (fun o => (hV o).toInt64)
theorem tell23 {N : Nat} {W : Nat → Nat} (hN : N ≤ 8) (hW : ∀ j, j < N → W j < 256) (x : Int32) : ∀ (k i fr g : Nat) (l : List Int64) (w : US), i + k = N → k < g → fr < 256 → HeW N W w → TolC l w → l.length = i → ∃ v, fX0_tellMost_23 g (nI fr) x (nI (hmN W k i fr)) (nI i) w = some (x, v) ∧ TolC (l ++ hmT (hmL W k i fr)) v ∧ Fm [(12, 3), (8, 1)] [42] [33] w v := by
  intro k
  induction k with
  | zero =>
    intro i fr g l w hk hg hf hw hl hn
    obtain ⟨g, rfl⟩ : ∃ g', g = g' + 1 := ⟨g - 1, (by omega)⟩
    rw [fX0_tellMost_23, hw.1, if_pos (nI_le (by omega) (by omega))]
    exact ⟨w, rfl, by rw [show hmT (hmL W 0 i fr) = [] from rfl, List.append_nil]; exact hl, Fm.rf⟩
  | succ k ih =>
    intro i fr g l w hk hg hf hw hl hn
    obtain ⟨g, rfl⟩ : ∃ g', g = g' + 1 := ⟨g - 1, (by omega)⟩
    obtain ⟨w1, e1, f1⟩ := least_c hN hW hf hk hw
    obtain ⟨w2, e2, t2, f2⟩ := ad_c (hl.fm f1 rfl rfl) (by omega) (hV (hmC W k i fr).2).toInt64
    have f12 : Fm [(12, 3), (8, 1)] [42] [33] w w2 := (f1.mono rfl rfl rfl).trans (f2.mono rfl rfl rfl)
    have hw2 : HeW N W w2 := ⟨(f12.i 12 2 rfl).trans hw.1, fun j hj => by rw [f12.a 41 rfl]; exact hw.2 j hj⟩
    have hl2 : (l ++ [(hV (hmC W k i fr).2).toInt64]).length = i + 1 := by rw [List.length_append, hn]; rfl
    have hL : ∀ fr', hmR fr (hmC W k i fr).2 = fr' → l ++ hmT (hmL W (k + 1) i fr) = (l ++ [(hV (hmC W k i fr).2).toInt64]) ++ hmT (hmL W k (i + 1) fr') := fun fr' h => by
      rw [List.append_assoc, ← h]; rfl
    rw [fX0_tellMost_23, hw.1, if_neg (nI_ge (show i < N by omega) (by omega)), e1, oBs, e2, oVs, nI_1]
    cases hc : (hmC W k i fr).2 with
    | none =>
      have h1 : hmN W (k + 1) i fr = hmN W k (i + 1) fr := hmB_no 8 hc
      obtain ⟨v, e3, t3, f3⟩ := ih (i + 1) fr g _ w2 (by omega) (by omega) hf hw2 t2 hl2
      rw [if_pos (show hV none = -1 from rfl), h1, e3]
      exact ⟨v, rfl, by rw [hL fr (by rw [hc]; rfl)]; exact t3, f12.trans f3⟩
    | some p0 =>
      obtain ⟨a1, a2, a3, a4⟩ := hmB_so 8 hc
      cases hfit : hfB W i fr p0 with
      | false => rw [hmF_n hfit] at a2; cases a2
      | true =>
        rw [hmF_y hfit] at a2
        have a5 : hmN W k (i + 1) (nm fr (2 ^ p0)) + 1 = hmN W (k + 1) i fr := Option.some.inj a2
        obtain ⟨v, e3, t3, f3⟩ := ih (i + 1) (nm fr (2 ^ p0)) g _ w2 (by omega) (by omega) (nm_256 hf) hw2 t2 hl2
        rw [if_neg (show ¬ hV (some p0) = -1 from n31 (a := p0) (by omega)), show hV (some p0) = nI p0 from rfl, sh1 p0 (by omega), and_n, ← a5, m1p, e3]
        exact ⟨v, rfl, by rw [hL (nm fr (2 ^ p0)) (by rw [hc]; rfl)]; exact t3, f12.trans f3⟩
theorem tellMost_c {N : Nat} {W : Nat → Nat} (hN : N ≤ 8) (hW : ∀ j, j < N → W j < 256) (hu : HeW N W u) : ∃ v, fX0_tellMost u = some (nI (hmN W N 0 255), v) ∧ TolC (hmT (hmL W N 0 255)) v ∧ Fm [(12, 3), (8, 1)] [42] [33] u v := by
  obtain ⟨u1, e1, f1⟩ := served_c (i := 0) (fr := 255) hN hW (by decide) (Nat.zero_le _) hu
  rw [Nat.sub_zero] at e1
  obtain ⟨e2, t2⟩ := clr_c u1
  have f12 : Fm [(12, 3), (8, 1)] [42] [33] u (sI u1 8 1 0) := (f1.mono rfl rfl rfl).sI rfl
  obtain ⟨v, e3, t3, f3⟩ := tell23 hN hW (nI (hmN W N 0 255)) N 0 255 FU [] (sI u1 8 1 0) (by omega) (show N < 4096 by omega) (by decide) ⟨(f12.i 12 2 rfl).trans hu.1, fun j hj => by rw [f12.a 41 rfl]; exact hu.2 j hj⟩ t2 rfl
  unfold fX0_tellMost
  rw [show fX11_allOf 8 u = some (nI 255, u) from all_c (k := 8) (by decide) u, oBs, show (0 : Int32) = nI 0 from rfl, e1, oBs, e2, oVs, e3]
  exact ⟨v, rfl, t3, f12.trans f3⟩
/-! the model gives -/
def bV (x : Nat) : Int32 := nI x - 1
theorem bv_le : ∀ a : Nat, a < 20 → ∀ x : Nat, x < 20 → (nI a ≤ bV x ↔ a < x) := by decide +kernel
theorem bv_lt : ∀ a : Nat, a < 20 → ∀ x : Nat, x < 20 → (bV x < nI a ↔ x ≤ a) := by decide +kernel
theorem bv_1 : ∀ a : Nat, a < 20 → bV (a + 1) = nI a := by decide +kernel
/-- which panes a claim of kinds wants -/
def wtN (D : DD) (x : Nat) : Nat := bN (fun p => decide (nm x (dh D p) = 0)) (dP D)
def GvM (D : DD) (N : Nat) (K : Nat → Nat) (u : US) : Prop := gI u 47 6 = nI (dP D) ∧ (∀ j, j < N → u.2.1 78 j = nI (K j)) ∧ ∀ p, p < dP D → u.2.1 52 p = nI (dh D p)
abbrev FG (u v : US) : Prop := Fm [(47, 51)] [79, 80] [] u v
theorem GvM.fg {N : Nat} {K : Nat → Nat} (h : GvM D N K u) (f : FG u v) : GvM D N K v := ⟨(f.i 47 6 rfl).trans h.1, fun j hj => by rw [f.a 78 rfl]; exact h.2.1 j hj, fun p hp => by rw [f.a 52 rfl]; exact h.2.2 p hp⟩
def GvP (i N many bm val : Nat) (L : List (Option Nat)) (u v : US) : Prop := (bm ≤ many + val → gI v 47 51 = bV (many + val + 1) ∧ (∀ j, j < i → v.2.1 80 j = u.2.1 79 j) ∧ ∀ j, j < N - i → v.2.1 80 (i + j) = hV (L.getD j none)) ∧ (¬ bm ≤ many + val → gI v 47 51 = bV bm ∧ ∀ j, j < N → v.2.1 80 j = u.2.1 80 j)
theorem hmB_ext {b n : Nat} {f : Nat → Option Nat} : ∀ k, (∀ p, n ≤ p → p < n + k → f p = none) → hmB b f (n + k) = hmB b f n
  | 0, _ => rfl
  | k + 1, h => by
    show hmB b f (n + k + 1) = _
    rw [hmB_n (h (n + k) (by omega) (by omega))]
    exact hmB_ext k (fun p a b => h p a (by omega))
theorem nm_z {a b : Nat} (ha : a < 256) : nI (nm a b) = 0 ↔ nm a b = 0 := nI0 (Nat.lt_of_le_of_lt (nm_le a b) (Nat.lt_trans ha (by decide)))
theorem wt_tb {x p : Nat} : (wtN D x).testBit p = (decide (p < dP D) && decide (nm x (dh D p) = 0)) := bN_tb _ _ _
/-- the best way from the choices so far -/
def gvC (W : Nat → Nat) (k i fr p : Nat) : Nat × Option Nat := hmB (hmN W k (i + 1) fr) (hmF W k i fr) p
def gvX (W : Nat → Nat) (k i fr p : Nat) : List (Option Nat) := (gvC W k i fr p).2 :: hmL W k (i + 1) (hmR fr (gvC W k i fr p).2)
theorem gives_m {N : Nat} {K : Nat → Nat} (hN : N ≤ 8) (hK : ∀ j, j < N → K j < 256) (hP : dP D ≤ 8) : ∀ (k i fr been many bm f : Nat) (u : US), i + k = N → k < f → fr < 256 → been < 256 → (∀ p, p < 8 → fr.testBit p = !been.testBit p) → many ≤ i → bm ≤ 9 → GvM D N K u → gI u 47 51 = bV bm → ∃ v, fX12_givesFrom f (nI i) (nI N) (nI been) (nI many) u = some v ∧ FG u v ∧ (∀ j, j < i → v.2.1 79 j = u.2.1 79 j) ∧ GvP i N many bm (hmN (fun j => wtN D (K j)) k i fr) (hmL (fun j => wtN D (K j)) k i fr) u v := by
  intro k
  induction k with
  | zero =>
    intro i fr been many bm f u hk hf hfr hbe hrel hmi hbm hu hb
    obtain ⟨f, rfl⟩ : ∃ f', f = f' + 1 := ⟨f - 1, (by omega)⟩
    have : i = N := by omega
    subst this
    show ∃ v, GX12_givesFrom (fX12_givesFrom f) (nI i) (nI i) (nI been) (nI many) u = some v ∧ _
    unfold GX12_givesFrom
    rw [if_pos rfl, hb]
    by_cases q : many < bm
    · rw [if_pos ((bv_le many (by omega) bm (by omega)).mpr q)]
      exact ⟨u, rfl, Fm.rf, fun _ _ => rfl, fun w => absurd (show bm ≤ many + 0 from w) (by omega), fun _ => ⟨hb, fun _ _ => rfl⟩⟩
    · rw [if_neg (fun w => q ((bv_le many (by omega) bm (by omega)).mp w)), nxs]
      refine lpE (fun g (z : Int32) w => fX12_givesFrom_23 (fX12_givesFrom f) (nI i) (nI i) (nI been) (nI many) g z w) i (fun j => nI j) (fun j w => (∀ x, x < j → w.2.1 80 x = u.2.1 79 x) ∧ gI w 47 51 = nI many ∧ w.2.1 79 = u.2.1 79 ∧ FG u w) (fun o => ∃ v, o = some v ∧ FG u v ∧ (∀ j, j < i → v.2.1 79 j = u.2.1 79 j) ∧ GvP i i many bm (hmN (fun j => wtN D (K j)) 0 i fr) (hmL (fun j => wtN D (K j)) 0 i fr) u v) ?_ ?_ (by omega) 0 rfl ⟨fun x hx => absurd hx (Nat.not_lt_zero x), rfl, rfl, Fm.rf.sI rfl⟩
      · rintro g j w hj ⟨h1, h2, h3, h4⟩
        left
        rw [fX12_givesFrom_23, if_neg (nI_ge hj (by omega)), gdi (show j < 8 by omega) (by omega), gdi (show j < 8 by omega) (by omega), nxs, nI_1]
        refine ⟨sA w 80 (nI j) (gA w 79 (nI j)), ⟨fun x hx => ?_, h2, h3, h4.sA rfl⟩, rfl⟩
        show upd (w.2.1 80) (nI j).toNatClampNeg (w.2.1 79 (nI j).toNatClampNeg) x = _
        rw [nI_clamp (by omega)]
        by_cases q2 : x = j
        · subst q2; rw [pk_us, h3]
        · rw [pk_un q2]; exact h1 x (by omega)
      · rintro g w ⟨h1, h2, h3, h4⟩
        rw [fX12_givesFrom_23, if_pos (nI_le (Nat.le_refl _) (by omega))]
        refine ⟨w, rfl, h4, fun j _ => by rw [h3], fun _ => ⟨?_, h1, fun j hj => ?_⟩, fun w => absurd (show bm ≤ many + 0 by omega) w⟩
        · rw [h2]; exact (bv_1 many (by omega)).symm
        · omega
  | succ k ih =>
    intro i fr been many bm f u hk hf hfr hbe hrel hmi hbm hu hb
    obtain ⟨f, rfl⟩ : ∃ f', f = f' + 1 := ⟨f - 1, (by omega)⟩
    have hle := hmN_le (W := fun j => wtN D (K j)) (k + 1) i fr
    have hKi := hK i (by omega)
    show ∃ v, GX12_givesFrom (fX12_givesFrom f) (nI i) (nI N) (nI been) (nI many) u = some v ∧ _
    unfold GX12_givesFrom
    rw [if_neg (nI_n (a := i) (b := N) (by omega) (by omega) (by omega)), hb, nI_add, pk_sub (show i ≤ many + N by omega), show many + N - i = many + (k + 1) by omega]
    by_cases q : bm ≤ many + (k + 1)
    · rw [if_pos ((bv_lt (many + (k + 1)) (by omega) bm (by omega)).mpr q), gdi (show i < 8 by omega) (by omega), nxs]
      obtain ⟨u1, hu1⟩ : ∃ u1, u1 = sA u 79 (nI i) (-1) := ⟨_, rfl⟩
      have f1 : FG u u1 := by rw [hu1]; exact Fm.rf.sA rfl
      have a1 : ∀ j, j < i + 1 → u1.2.1 79 j = if j = i then -1 else u.2.1 79 j := fun j hj => by
        rw [hu1]
        show upd (u.2.1 79) (nI i).toNatClampNeg (-1) j = _
        rw [nI_clamp (by omega)]
        by_cases q2 : j = i
        · subst q2; rw [pk_us, if_pos rfl]
        · rw [pk_un q2, if_neg q2]
      have e80 : u1.2.1 80 = u.2.1 80 := by rw [hu1]; rfl
      obtain ⟨u2, e2, f2, g2, p2⟩ := ih (i + 1) fr been many bm f u1 (by omega) (by omega) hfr hbe hrel (by omega) hbm (hu.fg f1) (by rw [hu1]; exact hb)
      rw [← hu1, show nI i + 1 = nI (i + 1) from nI_1 i, e2, oVs]
      refine lpE (fun g (z : Int32) w => fX12_givesFrom_85 (fX12_givesFrom f) (nI i) (nI N) (nI been) (nI many) g z w) (dP D) (fun p => nI p) (fun p w => FG u w ∧ (∀ j, j < i → w.2.1 79 j = u.2.1 79 j) ∧ GvP i N many bm (gvC (fun j => wtN D (K j)) k i fr p).1 (gvX (fun j => wtN D (K j)) k i fr p) u w) (fun o => ∃ v, o = some v ∧ FG u v ∧ (∀ j, j < i → v.2.1 79 j = u.2.1 79 j) ∧ GvP i N many bm (hmN (fun j => wtN D (K j)) (k + 1) i fr) (hmL (fun j => wtN D (K j)) (k + 1) i fr) u v) ?_ ?_ (by omega) 0 rfl ⟨f1.trans f2, fun j hj => ?_, ?_⟩
      · rintro g p w hp ⟨hfw, h79, hG1, hG2⟩
        left
        have hw := hu.fg hfw
        have hp8 : p < 8 := by omega
        have hfit : hfB (fun j => wtN D (K j)) i fr p = (decide (nm (K i) (dh D p) = 0) && !been.testBit p) := by
          show ((wtN D (K i)).testBit p && fr.testBit p) = _
          rw [wt_tb, decide_eq_true hp, Bool.true_and, hrel p hp8]
        rw [fX12_givesFrom_85, hw.1, if_neg (nI_ge hp (by omega)), has_m (by omega) (by omega), oBs]
        cases hbp : been.testBit p with
        | true =>
          rw [hbp, Bool.not_true, Bool.and_false] at hfit
          have ec : gvC (fun j => wtN D (K j)) k i fr (p + 1) = gvC (fun j => wtN D (K j)) k i fr p := hmB_n (hmF_n hfit)
          rw [if_neg (show ¬ bI true = 0 by decide), nI_1]
          refine ⟨w, ⟨hfw, h79, ?_⟩, rfl⟩
          unfold gvX
          rw [ec]; exact ⟨hG1, hG2⟩
        | false =>
          rw [hbp, Bool.not_false, Bool.and_true] at hfit
          rw [if_pos (show bI false = 0 from rfl), gdi (show i < 8 by omega) (by omega), gdi hp8 (by omega), show gA w 78 (nI i) = nI (K i) from by show w.2.1 78 (nI i).toNatClampNeg = _; rw [nI_clamp (by omega)]; exact hw.2.1 i (by omega), show gA w 52 (nI p) = nI (dh D p) from by show w.2.1 52 (nI p).toNatClampNeg = _; rw [nI_clamp (by omega)]; exact hw.2.2 p hp, and_n]
          by_cases hz : nm (K i) (dh D p) = 0
          · rw [decide_eq_true hz] at hfit
            rw [if_pos ((nm_z hKi).mpr hz), gdi (show i < 8 by omega) (by omega), nxs, or_b (by omega), nI_1, nI_1, nI_1]
            obtain ⟨w1, hw1⟩ : ∃ w1, w1 = sA w 79 (nI i) (nI p) := ⟨_, rfl⟩
            have g1 : FG u w1 := by rw [hw1]; exact hfw.sA rfl
            have b1 : ∀ j, j < i + 1 → w1.2.1 79 j = if j = i then nI p else u.2.1 79 j := fun j hj => by
              rw [hw1]
              show upd (w.2.1 79) (nI i).toNatClampNeg (nI p) j = _
              rw [nI_clamp (by omega)]
              by_cases q2 : j = i
              · subst q2; rw [pk_us, if_pos rfl]
              · rw [pk_un q2, if_neg q2]; exact h79 j (by omega)
            have e80' : w1.2.1 80 = w.2.1 80 := by rw [hw1]; rfl
            have e51 : gI w1 47 51 = gI w 47 51 := by rw [hw1]; rfl
            have hbe2 : been ||| 2 ^ p < 256 := Nat.or_lt_two_pow (n := 8) hbe (Nat.pow_lt_pow_right (by decide) hp8)
            have hrel2 : ∀ p', p' < 8 → (nm fr (2 ^ p)).testBit p' = !(been ||| 2 ^ p).testBit p' := fun p' hp' => by
              rw [nm_tb (Nat.lt_trans hfr (by decide)), Nat.testBit_or, hrel p' hp', Bool.not_or]
            have hx := hmN_le (W := fun j => wtN D (K j)) k (i + 1) (nm fr (2 ^ p))
            have hcv : (gvC (fun j => wtN D (K j)) k i fr p).1 ≤ k + 1 := by
              have h8 := hmN_le (W := fun j => wtN D (K j)) (k + 1) i fr
              obtain ⟨d1, d2⟩ := hmB_ge (b := hmN (fun j => wtN D (K j)) k (i + 1) fr) (f := hmF (fun j => wtN D (K j)) k i fr) 8
              cases hc : (gvC (fun j => wtN D (K j)) k i fr p).2 with
              | none =>
                have : (gvC (fun j => wtN D (K j)) k i fr p).1 = _ := hmB_no p hc
                have h9 : (hmB (hmN (fun j => wtN D (K j)) k (i + 1) fr) (hmF (fun j => wtN D (K j)) k i fr) 8).1 ≤ k + 1 := h8
                omega
              | some p1 =>
                obtain ⟨c1, c2, _⟩ := hmB_so p hc
                have h9 : (hmB (hmN (fun j => wtN D (K j)) k (i + 1) fr) (hmF (fun j => wtN D (K j)) k i fr) 8).1 ≤ k + 1 := h8
                have h10 := d2 p1 (by omega) _ c2
                exact Nat.le_trans h10 h9
            have ey : gvC (fun j => wtN D (K j)) k i fr (p + 1) = if (gvC (fun j => wtN D (K j)) k i fr p).1 < hmN (fun j => wtN D (K j)) k (i + 1) (nm fr (2 ^ p)) + 1 then (hmN (fun j => wtN D (K j)) k (i + 1) (nm fr (2 ^ p)) + 1, some p) else gvC (fun j => wtN D (K j)) k i fr p := hmB_y (hmF_y hfit)
            rw [← hw1]
            by_cases hI : bm ≤ many + (gvC (fun j => wtN D (K j)) k i fr p).1
            · obtain ⟨i1, i2, i3⟩ := hG1 hI
              obtain ⟨w2, e3, f3, g3, p3, p4⟩ := ih (i + 1) (nm fr (2 ^ p)) (been ||| 2 ^ p) (many + 1) (many + (gvC (fun j => wtN D (K j)) k i fr p).1 + 1) f w1 (by omega) (by omega) (nm_256 hfr) hbe2 hrel2 (by omega) (by omega) (hu.fg g1) (e51.trans i1)
              rw [e3, oVs]
              refine ⟨w2, ⟨g1.trans f3, fun j hj => ?_, ?_⟩, rfl⟩
              · rw [g3 j (by omega), b1 j (by omega), if_neg (by omega)]
              · by_cases hL : (gvC (fun j => wtN D (K j)) k i fr p).1 < hmN (fun j => wtN D (K j)) k (i + 1) (nm fr (2 ^ p)) + 1
                · obtain ⟨j1, j2, j3⟩ := p3 (by omega)
                  unfold gvX
                  rw [ey, if_pos hL]
                  refine ⟨fun _ => ⟨?_, fun j hj => ?_, fun j hj => ?_⟩, fun w => absurd (show bm ≤ many + (hmN (fun j => wtN D (K j)) k (i + 1) (nm fr (2 ^ p)) + 1) by omega) w⟩
                  · rw [j1]; congr 1; show many + 1 + _ + 1 = many + (_ + 1) + 1; omega
                  · rw [j2 j (by omega), b1 j (by omega), if_neg (by omega)]
                  · cases j with
                    | zero => rw [Nat.add_zero, j2 i (by omega), b1 i (by omega), if_pos rfl]; rfl
                    | succ j => rw [show i + (j + 1) = i + 1 + j by omega, j3 j (by omega)]; rfl
                · obtain ⟨j1, j2⟩ := p4 (by omega)
                  unfold gvX
                  rw [ey, if_neg hL]
                  refine ⟨fun _ => ⟨j1, fun j hj => ?_, fun j hj => ?_⟩, fun w => absurd hI w⟩
                  · rw [j2 j (by omega), e80']; exact i2 j hj
                  · rw [j2 (i + j) (by omega), e80']; exact i3 j hj
            · obtain ⟨i1, i2⟩ := hG2 hI
              obtain ⟨w2, e3, f3, g3, p3, p4⟩ := ih (i + 1) (nm fr (2 ^ p)) (been ||| 2 ^ p) (many + 1) bm f w1 (by omega) (by omega) (nm_256 hfr) hbe2 hrel2 (by omega) hbm (hu.fg g1) (e51.trans i1)
              rw [e3, oVs]
              refine ⟨w2, ⟨g1.trans f3, fun j hj => ?_, ?_⟩, rfl⟩
              · rw [g3 j (by omega), b1 j (by omega), if_neg (by omega)]
              · by_cases hL : bm ≤ many + (hmN (fun j => wtN D (K j)) k (i + 1) (nm fr (2 ^ p)) + 1)
                · obtain ⟨j1, j2, j3⟩ := p3 (by omega)
                  unfold gvX
                  rw [ey, if_pos (by omega)]
                  refine ⟨fun _ => ⟨?_, fun j hj => ?_, fun j hj => ?_⟩, fun w => absurd hL w⟩
                  · rw [j1]; congr 1; show many + 1 + _ + 1 = many + (_ + 1) + 1; omega
                  · rw [j2 j (by omega), b1 j (by omega), if_neg (by omega)]
                  · cases j with
                    | zero => rw [Nat.add_zero, j2 i (by omega), b1 i (by omega), if_pos rfl]; rfl
                    | succ j => rw [show i + (j + 1) = i + 1 + j by omega, j3 j (by omega)]; rfl
                · obtain ⟨j1, j2⟩ := p4 (by omega)
                  have hno : ¬ bm ≤ many + (gvC (fun j => wtN D (K j)) k i fr (p + 1)).1 := by
                    rw [ey]
                    by_cases hL2 : (gvC (fun j => wtN D (K j)) k i fr p).1 < hmN (fun j => wtN D (K j)) k (i + 1) (nm fr (2 ^ p)) + 1
                    · rw [if_pos hL2]; exact hL
                    · rw [if_neg hL2]; exact hI
                  refine ⟨fun w => absurd w hno, fun _ => ⟨j1, fun j hj => ?_⟩⟩
                  rw [j2 j hj, e80']; exact i2 j hj
          · rw [decide_eq_false hz] at hfit
            have ec : gvC (fun j => wtN D (K j)) k i fr (p + 1) = gvC (fun j => wtN D (K j)) k i fr p := hmB_n (hmF_n hfit)
            rw [if_neg (fun w => hz ((nm_z hKi).mp w)), nI_1]
            refine ⟨w, ⟨hfw, h79, ?_⟩, rfl⟩
            unfold gvX
            rw [ec]; exact ⟨hG1, hG2⟩
      · rintro g w ⟨hfw, h79, hG⟩
        have hw := hu.fg hfw
        rw [fX12_givesFrom_85, hw.1, if_pos (nI_le (Nat.le_refl _) (by omega))]
        refine ⟨w, rfl, hfw, h79, ?_⟩
        have ec : hmC (fun j => wtN D (K j)) k i fr = gvC (fun j => wtN D (K j)) k i fr (dP D) := by
          have := hmB_ext (b := hmN (fun j => wtN D (K j)) k (i + 1) fr) (f := hmF (fun j => wtN D (K j)) k i fr) (n := dP D) (8 - dP D) (fun p a b => hmF_n (by
            show ((wtN D (K i)).testBit p && fr.testBit p) = false
            rw [wt_tb, decide_eq_false (by omega), Bool.false_and, Bool.false_and]))
          rw [show dP D + (8 - dP D) = 8 by omega] at this
          exact this
        have e1 : hmN (fun j => wtN D (K j)) (k + 1) i fr = (gvC (fun j => wtN D (K j)) k i fr (dP D)).1 := by rw [hmN_s, ec]
        have e2 : hmL (fun j => wtN D (K j)) (k + 1) i fr = gvX (fun j => wtN D (K j)) k i fr (dP D) := by
          show (hmC (fun j => wtN D (K j)) k i fr).2 :: hmL _ k (i + 1) (hmR fr (hmC (fun j => wtN D (K j)) k i fr).2) = _
          rw [ec]; rfl
        rw [e1, e2]; exact hG
      · rw [g2 j (by omega), a1 j (by omega), if_neg (by omega)]
      · obtain ⟨p3, p4⟩ := p2
        refine ⟨fun hI => ?_, fun hI => ?_⟩
        · obtain ⟨j1, j2, j3⟩ := p3 hI
          refine ⟨j1, fun j hj => ?_, fun j hj => ?_⟩
          · rw [j2 j (by omega), a1 j (by omega), if_neg (by omega)]
          · cases j with
            | zero => rw [Nat.add_zero, j2 i (by omega), a1 i (by omega), if_pos rfl]; rfl
            | succ j => rw [show i + (j + 1) = i + 1 + j by omega, j3 j (by omega)]; rfl
        · obtain ⟨j1, j2⟩ := p4 hI
          exact ⟨j1, fun j hj => by rw [j2 j hj, e80]⟩
    · rw [if_neg (fun w => q ((bv_lt (many + (k + 1)) (by omega) bm (by omega)).mp w))]
      exact ⟨u, rfl, Fm.rf, fun _ _ => rfl, fun w => absurd w (by omega), fun _ => ⟨hb, fun _ _ => rfl⟩⟩
/-! the text of claims -/
def clR (n : Nat) (c : Nat → Nat) : Nat → Nat → Nat × Nat × Bool
  | 0, q => (0, q, false)
  | k + 1, q => if (klP n 80 c q 8).2 = 0 then (0, (klP n 80 c q 8).1, false) else if htB n 80 c (klP n 80 c q 8).1 59 then ((clR n c k ((klP n 80 c q 8).1 + 1)).1 + 1, (clR n c k ((klP n 80 c q 8).1 + 1)).2) else (1, (klP n 80 c q 8).1, !decide ((klP n 80 c q 8).1 < min n 80))
/-- the kinds of a line -/
def clK (n : Nat) (c : Nat → Nat) : Nat → Nat → Nat
  | 0, q => (klP n 80 c q 8).2
  | j + 1, q => clK n c j ((klP n 80 c q 8).1 + 1)
theorem clK_lt : ∀ j q, clK n c j q < 256
  | 0, q => kl_lt 8
  | j + 1, q => clK_lt j _
theorem clR_k : ∀ k q, (clR n c k q).1 ≤ k
  | 0, _ => Nat.le_refl _
  | k + 1, q => by
    rw [clR]
    by_cases h1 : (klP n 80 c q 8).2 = 0
    · rw [if_pos h1]; exact Nat.zero_le _
    · rw [if_neg h1]
      by_cases h2 : htB n 80 c (klP n 80 c q 8).1 59 = true
      · rw [if_pos h2]; exact Nat.succ_le_succ (clR_k k _)
      · rw [if_neg h2]; exact Nat.succ_le_succ (Nat.zero_le _)
theorem clR_e : ∀ k q, (clR n c k q).2.2 = true → ¬ (clR n c k q).2.1 < min n 80
  | 0, _, h => by cases h
  | k + 1, q, h => by
    rw [clR] at h ⊢
    by_cases h1 : (klP n 80 c q 8).2 = 0
    · rw [if_pos h1] at h; cases h
    · rw [if_neg h1] at h ⊢
      by_cases h2 : htB n 80 c (klP n 80 c q 8).1 59 = true
      · rw [if_pos h2] at h ⊢; exact clR_e k _ h
      · rw [if_neg h2] at h ⊢
        have h3 : (!decide ((klP n 80 c q 8).1 < min n 80)) = true := h
        intro w
        have w2 : (klP n 80 c q 8).1 < min n 80 := w
        rw [decide_eq_true w2] at h3; cases h3
theorem hides_c {x : Nat} (hP : dP D ≤ 8) (hx : x < 256) (h3 : gI u 3 3 = nI (dP D)) (h19 : ∀ p, p < dP D → u.2.1 19 p = nI (dh D p)) : fX8_panesHiding (nI x) u = some (nI (wtN D x), u) := by
  unfold fX8_panesHiding
  refine lpS (fun f k => fX8_panesHiding_4 (nI x) f (nI (bN (fun p => decide (nm x (dh D p) = 0)) k)) (nI k) u) (dP D) _ (fun g k hk => ?_) (fun g => ?_) FU 0 (FUg (by omega)) (Nat.zero_le _)
  · show fX8_panesHiding_4 (nI x) (g + 1) (nI (bN (fun p => decide (nm x (dh D p) = 0)) k)) (nI k) u = _
    rw [fX8_panesHiding_4, h3, if_neg (nI_ge hk (by omega)), gdi (show k < 8 by omega) (by omega), show gA u 19 (nI k) = nI (dh D k) from by show u.2.1 19 (nI k).toNatClampNeg = _; rw [nI_clamp (by omega)]; exact h19 k hk, and_n, nI_1]
    by_cases q : nm x (dh D k) = 0
    · rw [if_pos ((nm_z hx).mpr q), or_b (by omega), bN_y (p := fun p => decide (nm x (dh D p) = 0)) (decide_eq_true q)]
    · rw [if_neg (fun w => q ((nm_z hx).mp w)), bN_n (p := fun p => decide (nm x (dh D p) = 0)) (decide_eq_false q)]
  · show fX8_panesHiding_4 (nI x) (g + 1) (nI (bN (fun p => decide (nm x (dh D p) = 0)) (dP D))) (nI (dP D)) u = _
    rw [fX8_panesHiding_4, h3, if_pos (nI_le (Nat.le_refl _) (by omega))]; rfl
abbrev FLc (u v : US) : Prop := Fm [(2, 2), (2, 3), (12, 2)] [41] [] u v
theorem claims_c (ht : Tok n 80 c) (hP : dP D ≤ 8) : ∀ (k i f q : Nat) (w : US), i + k = 8 → k + 1 < f → Rc n 80 c q true w → gI w 3 3 = nI (dP D) → (∀ p, p < dP D → w.2.1 19 p = nI (dh D p)) → gI w 12 2 = nI i → ∃ v, fX11_readClaims_27 f 1 (nI i) w = some (anV n (clR n c k q).2.1 (clR n c k q).2.2 0, v) ∧ ((clR n c k q).2.2 = true → gI v 12 2 = nI (i + (clR n c k q).1) ∧ (∀ j, j < i → v.2.1 41 j = w.2.1 41 j) ∧ ∀ j, j < (clR n c k q).1 → v.2.1 41 (i + j) = nI (wtN D (clK n c j q))) ∧ FLc w v := by
  have e91 : ∀ (b : Bool) (q : Nat) (ok : Bool) (w : US), Rc n 80 c q ok w → ∃ v, fX11_readClaims_91 (bI b) w = some (anV n q (ok && !b) 0, v) ∧ Fc w v := fun b q ok w hr => by
    obtain ⟨v1, e1, r1, f1⟩ := dem_c ht.1 hr (!b)
    obtain ⟨v2, e2, f2⟩ := answer_c ht.1 r1 0
    refine ⟨v2, ?_, f1.trans f2⟩
    unfold fX11_readClaims_91 fX11_readClaims_104
    cases b with
    | true => rw [if_neg (show ¬ bI true = 0 by decide), show (0 : Int32) = bI (!true) from rfl, e1, oBs, show bI (!true) = (0 : Int32) from rfl, e2, oBs]
    | false => rw [if_pos (show bI false = 0 from rfl), show (1 : Int32) = bI (!false) from rfl, e1, oBs, e2, oBs]
  intro k
  induction k with
  | zero =>
    intro i f q w hi hf hr h3 h19 h12
    obtain ⟨f, rfl⟩ : ∃ f', f = f' + 1 := ⟨f - 1, (by omega)⟩
    have : i = 8 := by omega
    subst this
    obtain ⟨v, e1, f1⟩ := e91 true q true w hr
    rw [fX11_readClaims_27, if_neg (show ¬ (1 : Int32) = 0 by decide), if_pos (show (8 : Int32) ≤ nI 8 by decide), show (1 : Int32) = bI true from rfl, e1]
    exact ⟨v, rfl, fun w => (by cases w), f1.mono rfl rfl rfl⟩
  | succ k ih =>
    intro i f q w hi hf hr h3 h19 h12
    obtain ⟨f, rfl⟩ : ∃ f', f = f' + 1 := ⟨f - 1, (by omega)⟩
    have hi8 : i < 8 := by omega
    obtain ⟨v1, e1, r1, f1⟩ := kinds_c ht hr
    rw [if_pos rfl] at e1 r1
    have hx : (klP n 80 c q 8).2 < 256 := kl_lt 8
    rw [fX11_readClaims_27, if_neg (show ¬ (1 : Int32) = 0 by decide), if_neg (show ¬ (8 : Int32) ≤ nI i from nI_ge (b := 8) hi8 (by omega)), e1, oBs, clR]
    -- the line is added
    have line : ∀ (b ok : Bool) (K : Int32 → Int32 → US → Option (Int32 × US)), ok = b → ∃ v3, fX11_readClaims_58 K (nI i) (nI (klP n 80 c q 8).2) (bI b) v1 = K (bI (ok && htB n 80 c (klP n 80 c q 8).1 59)) (nI (i + 1)) v3 ∧ Rc n 80 c (if (ok && htB n 80 c (klP n 80 c q 8).1 59) = true then (klP n 80 c q 8).1 + 1 else (klP n 80 c q 8).1) (ok && (htB n 80 c (klP n 80 c q 8).1 59 || !decide ((klP n 80 c q 8).1 < min n 80))) v3 ∧ gI v3 12 2 = nI (i + 1) ∧ (∀ j, j < i → v3.2.1 41 j = w.2.1 41 j) ∧ v3.2.1 41 i = nI (wtN D (klP n 80 c q 8).2) ∧ FLc w v3 := by
      intro b ok K hb
      subst hb
      obtain ⟨v2, e2, r2, f2⟩ := dem_c ht.1 r1 ok
      rw [Bool.true_and] at e2 r2
      have f12 : Fc w v2 := f1.trans f2
      have eh := hides_c (u := v2) hP hx ((f12.i 3 3 rfl).trans h3) (fun p hp => by rw [f12.a 19 rfl]; exact h19 p hp)
      have e12 : gI v2 12 2 = nI i := (f12.i 12 2 rfl).trans h12
      obtain ⟨v3, hv3⟩ : ∃ v3, v3 = sI (sA v2 41 (nI i) (nI (wtN D (klP n 80 c q 8).2))) 12 2 (nI (i + 1)) := ⟨_, rfl⟩
      have ea : fX0_add (nI (wtN D (klP n 80 c q 8).2)) v2 = some v3 := by
        unfold fX0_add
        rw [e12, if_neg (show ¬ (8 : Int32) ≤ nI i from nI_ge (b := 8) hi8 (by omega)), gdi hi8 (by omega), nxs, show gI (sA v2 41 (nI i) (nI (wtN D (klP n 80 c q 8).2))) 12 2 = nI i from e12, nI_1, nxs, hv3]
      have f3 : Fm [(12, 2)] [41] [] v2 v3 := by rw [hv3]; exact (Fm.rf.sA rfl).sI rfl
      obtain ⟨v4, e4, r4, f4⟩ := more_c ht (r2.fm f3 rfl rfl)
      refine ⟨v4, ?_, r4, ?_, fun j hj => ?_, ?_, ((f12.mono rfl rfl rfl).trans (f3.mono rfl rfl rfl)).trans (f4.mono rfl rfl rfl)⟩
      · unfold fX11_readClaims_58
        rw [e2, oBs, eh, oBs, ea, oVs, e4, oBs, nI_1]
      · rw [show gI v4 12 2 = gI v3 12 2 from f4.i 12 2 rfl, hv3]; rfl
      · rw [f4.a 41 rfl, hv3]
        show upd (v2.2.1 41) (nI i).toNatClampNeg _ j = _
        rw [nI_clamp (by omega), pk_un (by omega), f12.a 41 rfl]
      · rw [f4.a 41 rfl, hv3]
        show upd (v2.2.1 41) (nI i).toNatClampNeg _ i = _
        rw [nI_clamp (by omega), pk_us]
    by_cases h0 : (klP n 80 c q 8).2 = 0
    · obtain ⟨v3, e3, r3, g3, l3, n3, f3⟩ := line false false (fX11_readClaims_27 f) rfl
      rw [Bool.false_and] at e3 r3
      rw [Bool.false_and, if_neg (by decide)] at r3
      rw [if_pos (by rw [h0]; rfl), if_pos h0, show (0 : Int32) = bI false from rfl, e3]
      obtain ⟨f, rfl⟩ : ∃ f', f = f' + 1 := ⟨f - 1, (by omega)⟩
      obtain ⟨v4, e4, f4⟩ := e91 false _ _ v3 r3
      rw [fX11_readClaims_27, if_pos (show bI false = 0 from rfl), e4]
      exact ⟨v4, rfl, fun w => (by cases w), f3.trans (f4.mono rfl rfl rfl)⟩
    · obtain ⟨v3, e3, r3, g3, l3, n3, f3⟩ := line true true (fX11_readClaims_27 f) rfl
      rw [Bool.true_and] at e3 r3
      rw [Bool.true_and] at r3
      rw [if_neg (fun w => h0 ((nI0 (by omega)).mp w)), if_neg h0, show (1 : Int32) = bI true from rfl, e3]
      cases h59 : htB n 80 c (klP n 80 c q 8).1 59 with
      | true =>
        rw [h59, if_pos rfl, Bool.true_or] at r3
        obtain ⟨v4, e4, s4, f4⟩ := ih (i + 1) f _ v3 (by omega) (by omega) r3 ((f3.i 3 3 rfl).trans h3) (fun p hp => by rw [f3.a 19 rfl]; exact h19 p hp) g3
        rw [show bI true = (1 : Int32) from rfl, e4, if_pos rfl]
        refine ⟨v4, rfl, fun w => ?_, f3.trans f4⟩
        obtain ⟨s1, s2, s3⟩ := s4 w
        refine ⟨?_, fun j hj => ?_, fun j hj => ?_⟩
        · rw [s1]; congr 1; show i + 1 + _ = i + (_ + 1); omega
        · rw [s2 j (by omega)]; exact l3 j hj
        · cases j with
          | zero => rw [Nat.add_zero, s2 i (by omega)]; exact n3
          | succ j =>
            rw [show i + (j + 1) = i + 1 + j by omega]
            exact s3 j (Nat.lt_of_succ_lt_succ hj)
      | false =>
        rw [h59, if_neg (by decide), Bool.false_or] at r3
        obtain ⟨f, rfl⟩ : ∃ f', f = f' + 1 := ⟨f - 1, (by omega)⟩
        obtain ⟨v4, e4, f4⟩ := e91 false _ _ v3 r3
        rw [fX11_readClaims_27, if_pos (show bI false = 0 from rfl), e4, if_neg (by decide), show (!false) = true from rfl, Bool.and_true]
        refine ⟨v4, rfl, fun _ => ⟨(f4.i 12 2 rfl).trans g3, fun j hj => by rw [f4.a 41 rfl]; exact l3 j hj, fun j hj => ?_⟩, f3.trans (f4.mono rfl rfl rfl)⟩
        have : j = 0 := by have h : j < 1 := hj; omega
        subst this
        rw [Nat.add_zero, f4.a 41 rfl]; exact n3
/-- what the model does with the claims it has read -/
def clG (x : Int32) (u : US) : Option (Int32 × US) := nx (sI u 47 51 (-1)) fun u1 => oV (fX12_givesFrom 12 0 x 0 0 u1) fun u2 => nx (sI u2 47 1 0) fun u3 => fX12_claims_142 FU x 0 u3
theorem claims_m (ht : Tok n 80 c) : ∀ (k i f q : Nat) (w : US), i + k = 8 → k + 1 < f → Rm n 80 c q w → ∃ v, fX12_claims_27 f (nI i) 1 1 w = (if (clR n c k q).2.2 then clG (nI (i + (clR n c k q).1)) v else some (-1 - nI (clR n c k q).2.1, v)) ∧ Rm n 80 c (clR n c k q).2.1 v ∧ ((clR n c k q).2.2 = true → (∀ j, j < i → v.2.1 78 j = w.2.1 78 j) ∧ ∀ j, j < (clR n c k q).1 → v.2.1 78 (i + j) = nI (clK n c j q)) ∧ Fm [(47, 19)] [78] [] w v := by
  intro k
  induction k with
  | zero =>
    intro i f q w hi hf hr
    obtain ⟨f, rfl⟩ : ∃ f', f = f' + 1 + 1 := ⟨f - 2, (by omega)⟩
    have : i = 8 := by omega
    subst this
    rw [fX12_claims_27, if_neg (show ¬ (1 : Int32) = 0 by decide), if_pos (show (8 : Int32) ≤ nI 8 by decide)]
    unfold fX12_claims_43 fX12_claims_76
    rw [if_pos rfl, if_pos rfl, fX12_claims_27, if_pos rfl, if_pos rfl, show gI w 47 19 = nI q from hr.2.1]
    exact ⟨w, rfl, hr, fun w => (by cases w), Fm.rf⟩
  | succ k ih =>
    intro i f q w hi hf hr
    obtain ⟨f, rfl⟩ : ∃ f', f = f' + 1 + 1 := ⟨f - 2, (by omega)⟩
    have hi8 : i < 8 := by omega
    obtain ⟨v1, e1, r1, f1⟩ := letters_m ht hr
    have hx : (klP n 80 c q 8).2 < 256 := kl_lt 8
    have hn := ht.1
    rw [fX12_claims_27, if_neg (show ¬ (1 : Int32) = 0 by decide), if_neg (show ¬ (8 : Int32) ≤ nI i from nI_ge (b := 8) hi8 (by omega))]
    unfold fX12_claims_43
    obtain ⟨v2, hv2⟩ : ∃ v2, v2 = sA v1 78 (nI i) (nI (klP n 80 c q 8).2) := ⟨_, rfl⟩
    have r2 : Rm n 80 c (klP n 80 c q 8).1 v2 := by rw [hv2]; exact r1.fm (a := []) (b := [78]) (d := []) (Fm.rf.sA rfl) rfl rfl
    have f2 : Fm [(47, 19)] [78] [] w v2 := by rw [hv2]; exact (f1.mono rfl rfl rfl).sA rfl
    have l2 : (∀ j, j < i → v2.2.1 78 j = w.2.1 78 j) ∧ v2.2.1 78 i = nI (klP n 80 c q 8).2 := by
      rw [hv2]
      refine ⟨fun j hj => ?_, ?_⟩
      · show upd (v1.2.1 78) (nI i).toNatClampNeg _ j = _
        rw [nI_clamp (by omega), pk_un (by omega), f1.a 78 rfl]
      · show upd (v1.2.1 78) (nI i).toNatClampNeg _ i = _
        rw [nI_clamp (by omega), pk_us]
    rw [if_neg (show ¬ (1 : Int32) = 0 by decide), e1, oBs, gdi hi8 (by omega), nxs, ← hv2, gdi hi8 (by omega), show gA v2 78 (nI i) = nI (klP n 80 c q 8).2 from by rw [hv2]; exact gA_me _ 78 _ _, clR]
    unfold fX12_claims_72 fX12_claims_76
    by_cases h0 : (klP n 80 c q 8).2 = 0
    · rw [if_pos (by rw [h0]; rfl), if_pos h0, if_pos rfl, fX12_claims_27, if_pos rfl, if_pos rfl, show gI v2 47 19 = nI (klP n 80 c q 8).1 from r2.2.1]
      exact ⟨v2, rfl, r2, fun w => (by cases w), f2⟩
    · obtain ⟨v3, e3, r3, f3⟩ := tsign_m ht r2 (s := 59) (by decide)
      rw [if_neg (fun w => h0 ((nI0 (by omega)).mp w)), if_neg h0, if_neg (show ¬ (1 : Int32) = 0 by decide), show (59 : Int32) = nI 59 from rfl, e3, oBs, nI_1]
      cases h59 : htB n 80 c (klP n 80 c q 8).1 59 with
      | true =>
        rw [h59, if_pos rfl] at r3
        obtain ⟨v4, e4, r4, s4, f4⟩ := ih (i + 1) (f + 1) _ v3 (by omega) (by omega) r3
        rw [if_neg (show ¬ bI true = 0 by decide), e4, if_pos rfl, show i + 1 + (clR n c k ((klP n 80 c q 8).1 + 1)).1 = i + ((clR n c k ((klP n 80 c q 8).1 + 1)).1 + 1) by omega]
        refine ⟨v4, rfl, r4, fun w => ?_, (f2.trans (f3.mono rfl rfl rfl)).trans f4⟩
        obtain ⟨s1, s2⟩ := s4 w
        refine ⟨fun j hj => ?_, fun j hj => ?_⟩
        · rw [s1 j (by omega), f3.a 78 rfl]; exact l2.1 j hj
        · cases j with
          | zero => rw [Nat.add_zero, s1 i (by omega), f3.a 78 rfl]; exact l2.2
          | succ j =>
            rw [show i + (j + 1) = i + 1 + j by omega]
            exact s2 j (Nat.lt_of_succ_lt_succ hj)
      | false =>
        rw [h59, if_neg (by decide)] at r3
        have hle := r3.2.2
        rw [if_pos (show bI false = 0 from rfl), fX12_claims_27, if_pos rfl, if_neg (show ¬ (1 : Int32) = 0 by decide), show gI v3 47 20 = nI (min n 80) from r3.1.2, show gI v3 47 19 = nI (klP n 80 c q 8).1 from r3.2.1, if_neg (show ¬ false = true by decide)]
        have f23 : Fm [(47, 19)] [78] [] w v3 := f2.trans (f3.mono rfl rfl rfl)
        by_cases hq : (klP n 80 c q 8).1 < min n 80
        · rw [if_neg (nI_ge hq (by omega)), decide_eq_true hq, show (!true) = false from rfl]
          exact ⟨v3, rfl, r3, fun w => (by cases w), f23⟩
        · rw [if_pos (nI_le (by omega) (by omega)), decide_eq_false hq, show (!false) = true from rfl]
          refine ⟨v3, rfl, r3, fun _ => ⟨fun j hj => by rw [f3.a 78 rfl]; exact l2.1 j hj, fun j hj => ?_⟩, f23⟩
          have : j = 0 := by have h : j < 1 := hj; omega
          subst this
          rw [Nat.add_zero, f3.a 78 rfl]; exact l2.2
theorem tk_s : ∀ (l : List Int64) (j : Nat), j < l.length → l.take (j + 1) = l.take j ++ [l.getD j 0]
  | [], j, h => absurd h (Nat.not_lt_zero j)
  | x :: l, 0, _ => rfl
  | x :: l, j + 1, h => congrArg (x :: ·) (tk_s l j (Nat.lt_of_succ_lt_succ h))
theorem hmL_len {W : Nat → Nat} : ∀ k i fr, (hmL W k i fr).length = k
  | 0, _, _ => rfl
  | k + 1, i, fr => congrArg (· + 1) (hmL_len k (i + 1) _)
theorem hmT_g {L : List (Option Nat)} : ∀ {j : Nat}, j < L.length → (hmT L).getD j 0 = (hV (L.getD j none)).toInt64 := by
  intro j hj
  unfold hmT
  simp [List.getD, hj]
theorem c142 {N : Nat} (hN : N ≤ 8) {L : List (Option Nat)} (hL : L.length = N) (h80 : ∀ j, j < N → u.2.1 80 j = hV (L.getD j none)) (h0 : TolM [] u) : ∃ v, fX12_claims_142 FU (nI N) 0 u = some (gI u 47 51, v) ∧ TolM (hmT L) v ∧ Tm u v := by
  have hlen : (hmT L).length = N := by unfold hmT; rw [List.length_map]; exact hL
  refine lpE (fun g (z : Int32) w => fX12_claims_142 g (nI N) z w) N (fun j => nI j) (fun j w => TolM ((hmT L).take j) w ∧ Tm u w) (fun o => ∃ v, o = some (gI u 47 51, v) ∧ TolM (hmT L) v ∧ Tm u v) ?_ ?_ (by omega) 0 rfl ⟨h0, Fm.rf⟩
  · rintro g j w hj ⟨h1, h2⟩
    left
    have hl : ((hmT L).take j).length = j := by rw [List.length_take]; omega
    obtain ⟨v, e1, t1, f1⟩ := en_m h1 (by omega) (hV (L.getD j none)).toInt64
    refine ⟨v, ⟨?_, h2.trans f1⟩, ?_⟩
    · rw [tk_s _ _ (by omega), hmT_g (by omega)]; exact t1
    · rw [fX12_claims_142, if_neg (nI_ge hj (by omega)), gdi (show j < 8 by omega) (by omega), show gA w 80 (nI j) = hV (L.getD j none) from by show w.2.1 80 (nI j).toNatClampNeg = _; rw [nI_clamp (by omega), h2.a 80 rfl]; exact h80 j hj, e1, oVs, nI_1]
  · rintro g w ⟨h1, h2⟩
    rw [fX12_claims_142, if_pos (nI_le (Nat.le_refl _) (by omega)), show gI w 47 51 = gI u 47 51 from h2.i 47 51 rfl]
    rw [show N = (hmT L).length from hlen.symm, List.take_length] at h1
    exact ⟨w, rfl, h1, h2⟩
def spL (n : Nat) (c : Nat → Nat) : Nat × Nat × Bool := if n = 0 then (0, 0, true) else clR n c 8 0
theorem st_35 : St_35 Inv := by
  intro kk u hkk hI
  obtain ⟨n, c, hn, hc, hxc, hxm⟩ := tx_of hI
  have ht : Tok n 80 c := ⟨hn, by decide, hc⟩
  have hmin : min n 80 = n := Nat.min_eq_left hn
  obtain ⟨D, m, hW, -⟩ := Inv_to hI
  have hTo := Inv_told hI
  have hRu := Inv_irul hI
  have hP : dP D ≤ 8 := hW.1.1.2.2.2.2.2.1
  have hC3 : u.1 3 3 = nI (dP D) := hW.2.1.1.2.2.2.1
  have hC19 : RowN (dP D) (u.2.1 19) (dh D) := hW.2.1.2.2.2.2.1
  have hM6 : u.1 47 6 = nI (dP D) := hW.2.2.1.1.2.2.2.1
  have hM52 : RowN (dP D) (u.2.1 52) (dh D) := hW.2.2.1.2.2.2.2.1
  have hN8 : (spL n c).1 ≤ 8 := by
    unfold spL
    by_cases h0 : n = 0
    · rw [if_pos h0]; exact Nat.zero_le _
    · rw [if_neg h0]; exact clR_k 8 0
  have hend : (spL n c).2.2 = true → (spL n c).2.1 ≤ n → (spL n c).2.1 = n := by
    unfold spL
    by_cases h0 : n = 0
    · rw [if_pos h0]; exact fun _ _ => h0.symm
    · rw [if_neg h0]
      intro h1 h2
      have := clR_e 8 0 h1
      omega
  have hwt : ∀ j, j < (spL n c).1 → wtN D (clK n c j 0) < 256 := fun j _ => Nat.lt_of_lt_of_le (bN_lt _ _) (two8 hP)
  -- the class reads
  have rc : ∃ v, (oV (fX0_clear u) fun u1 => fX11_readClaims u1) = some (anV n (spL n c).2.1 (spL n c).2.2 0, v) ∧ ((spL n c).2.2 = true → HeW (spL n c).1 (fun j => wtN D (clK n c j 0)) v) ∧ Fm [(2, 1), (2, 2), (2, 3), (12, 2)] [41] [] u v := by
    obtain ⟨u1, hu1⟩ : ∃ u1, u1 = sI u 12 2 0 := ⟨_, rfl⟩
    have f1 : Fm [(2, 1), (2, 2), (2, 3), (12, 2)] [41] [] u u1 := by rw [hu1]; exact Fm.rf.sI rfl
    have x1 : u1.1 1 1 = nI n ∧ RowN n (u1.2.1 15) c := by rw [hu1]; exact hxc
    obtain ⟨u2, e2, r2, f2⟩ := open_c (mo := 80) x1
    have f12 : Fm [(2, 1), (2, 2), (2, 3), (12, 2)] [41] [] u u2 := f1.trans (f2.mono rfl rfl rfl)
    have h12 : gI u2 12 2 = nI 0 := by rw [show gI u2 12 2 = gI u1 12 2 from f2.i 12 2 rfl, hu1]; rfl
    unfold fX0_clear fX11_readClaims fX7_isEmpty
    rw [nxs, oVs, ← hu1, show (80 : Int32) = nI 80 from rfl, e2, oVs, show gI u2 1 1 = nI n from (f2.i 1 1 rfl).trans x1.1]
    unfold spL
    by_cases h0 : n = 0
    · subst h0
      obtain ⟨u3, e3, r3, f3⟩ := dem_c (n := 0) (Nat.zero_le _) r2 true
      obtain ⟨u4, e4, f4⟩ := answer_c (n := 0) (Nat.zero_le _) r3 0
      rw [if_pos (show nI 0 = 0 from rfl), oBs, if_neg (show ¬ (1 : Int32) = 0 by decide), if_pos rfl, FU_s, fX11_readClaims_27, if_pos rfl]
      unfold fX11_readClaims_91 fX11_readClaims_104
      rw [if_pos rfl, show (1 : Int32) = bI true from rfl, e3, oBs, e4, oBs]
      exact ⟨u4, rfl, fun _ => ⟨(f4.i 12 2 rfl).trans ((f3.i 12 2 rfl).trans h12), fun j hj => absurd hj (Nat.not_lt_zero j)⟩, (f12.trans (f3.mono rfl rfl rfl)).trans (f4.mono rfl rfl rfl)⟩
    · obtain ⟨u3, e3, s3, f3⟩ := claims_c (D := D) ht hP 8 0 FU 0 u2 rfl (by decide) r2 ((f12.i 3 3 rfl).trans hC3) (fun p hp => by rw [f12.a 19 rfl]; exact hC19 p hp) h12
      rw [if_neg (fun q => h0 ((nI0 (by omega)).mp q)), oBs, if_pos rfl, if_neg h0, show fX11_readClaims_27 FU 1 0 u2 = _ from e3]
      refine ⟨u3, rfl, fun w => ?_, f12.trans (f3.mono rfl rfl rfl)⟩
      obtain ⟨s1, _, s2⟩ := s3 w
      rw [Nat.zero_add] at s1
      refine ⟨s1, fun j hj => ?_⟩
      have := s2 j hj
      rw [Nat.zero_add] at this; exact this
  obtain ⟨u1, e1, s1, f1⟩ := rc
  obtain ⟨u2, hu2⟩ : ∃ u2, u2 = sI u1 1 1 0 := ⟨_, rfl⟩
  have f12 : Fm [(1, 1), (2, 1), (2, 2), (2, 3), (12, 2)] [41] [] u u2 := by rw [hu2]; exact (f1.mono rfl rfl rfl).sI rfl
  have ecl : fX11_claims u = (if anV n (spL n c).2.1 (spL n c).2.2 0 = 0 then oB (fX0_tellMost u2) fun r4 u4 => some (r4, u4) else some (anV n (spL n c).2.1 (spL n c).2.2 0, u2)) := by
    unfold fX11_claims
    have h1 : ∀ K : Int32 → US → Option (Int32 × US), (oV (fX0_clear u) fun u1 => oB (fX11_readClaims u1) K) = K (anV n (spL n c).2.1 (spL n c).2.2 0) u1 := fun K => by
      have h2 : fX0_clear u = some (sI u 12 2 0) := rfl
      rw [h2, oVs] at e1 ⊢
      rw [e1, oBs]
    rw [h1, show fX7_clear u1 = some (sI u1 1 1 0) from rfl, oVs, ← hu2]
  -- the model reads
  have rm : ∀ w : US, w.1 47 18 = nI n → RowN n (w.2.1 57) c → ∃ v, fX12_claims w = (if (spL n c).2.2 then clG (nI (spL n c).1) v else some (-1 - nI (spL n c).2.1, v)) ∧ (spL n c).2.1 ≤ n ∧ gI v 47 18 = 0 ∧ ((spL n c).2.2 = true → ∀ j, j < (spL n c).1 → v.2.1 78 j = nI (clK n c j 0)) ∧ Fm [(47, 0), (47, 18), (47, 19), (47, 20), (47, 21)] [78] [] w v := by
    intro w h18 h57
    obtain ⟨w1, x1, r1, a1, b1, g1⟩ := begins_m (u := sI w 47 0 0) (mo := 80) ht ⟨h18, h57⟩
    have g01 : Fm [(47, 0), (47, 18), (47, 19), (47, 20), (47, 21)] [78] [] w w1 := (Fm.rf.sI rfl).trans (g1.mono rfl rfl rfl)
    unfold fX12_claims
    rw [nxs, show (80 : Int32) = nI 80 from rfl, x1, oBs]
    unfold spL
    by_cases h0 : n = 0
    · subst h0
      rw [if_pos (show nI 0 ≤ 0 by decide), if_pos rfl, FU_s, fX12_claims_27, if_pos rfl, if_neg (show ¬ (1 : Int32) = 0 by decide), show gI w1 47 20 = nI (min 0 80) from r1.1.2, show gI w1 47 19 = nI 0 from r1.2.1, if_pos (show nI (min 0 80) ≤ nI 0 by decide)]
      exact ⟨w1, rfl, Nat.le_refl _, a1, fun _ j hj => absurd hj (Nat.not_lt_zero j), g01⟩
    · obtain ⟨w2, e2, r2, s2, g2⟩ := claims_m ht 8 0 FU 0 w1 rfl (by decide) r1
      have := r2.2.2
      rw [if_neg (nI_nle (Nat.pos_of_ne_zero h0) (by omega)), if_neg h0, show fX12_claims_27 FU 0 1 1 w1 = _ from e2, Nat.zero_add]
      refine ⟨w2, rfl, (by omega), (g2.i 47 18 rfl).trans a1, fun w j hj => ?_, g01.trans (g2.mono rfl rfl rfl)⟩
      have := (s2 w).2 j hj
      rw [Nat.zero_add] at this; exact this
  have hfin : ∀ z : US, Fm [(1, 1), (2, 1), (2, 2), (2, 3), (12, 2), (12, 3), (8, 1), (47, 0), (47, 1), (47, 18), (47, 19), (47, 20), (47, 21), (47, 51)] [41, 42, 78, 79, 80] [33, 48] u z → z.1 1 1 = 0 → z.1 47 18 = 0 → ITold (z.1 8 1) (z.1 47 1) (z.2.2.1 33) (z.2.2.1 48) → Inv (kk + 1) z := fun z f z1 z2 tz => by
    refine Inv_rul hI (f.mono rfl rfl rfl).fmr z1 z2 tz ?_
    rw [f.2.2.2, f.i 13 2 rfl, f.i 14 2 rfl, f.i 47 26 rfl, f.a 43 rfl, f.a 45 rfl, f.a 59 rfl]; exact hRu
  cases hs : (spL n c).2.2 with
  | false =>
    have av : anV n (spL n c).2.1 (spL n c).2.2 0 = -1 - nI (spL n c).2.1 := by unfold anV; rw [hs]; rfl
    obtain ⟨w1, x1, hle, g18, _, g1⟩ := rm u2 ((f12.i 47 18 rfl).trans hxm.1) (by rw [f12.a 57 rfl]; exact hxm.2)
    rw [hs, if_neg (by decide)] at x1
    rw [av, if_neg (neg_n0 _ (by omega))] at ecl
    have fa : Fm [(1, 1), (2, 1), (2, 2), (2, 3), (12, 2), (12, 3), (8, 1), (47, 0), (47, 1), (47, 18), (47, 19), (47, 20), (47, 21), (47, 51)] [41, 42, 78, 79, 80] [33, 48] u w1 := (f12.mono rfl rfl rfl).trans (g1.mono rfl rfl rfl)
    refine ⟨_, u2, w1, ecl, x1, hfin w1 fa ?_ g18 ?_⟩
    · rw [g1.i 1 1 rfl, hu2]; rfl
    · rw [g1.i 8 1 rfl, g1.i 47 1 rfl, g1.j 33 rfl, g1.j 48 rfl, f12.i 8 1 rfl, f12.i 47 1 rfl, f12.j 33 rfl, f12.j 48 rfl]; exact hTo
  | true =>
    have hw2 : HeW (spL n c).1 (fun j => wtN D (clK n c j 0)) u2 := by rw [hu2]; exact s1 hs
    obtain ⟨u3, e3, t3, f3⟩ := tellMost_c hN8 hwt hw2
    have f13 : Fm [(1, 1), (2, 1), (2, 2), (2, 3), (12, 2), (12, 3), (8, 1)] [41, 42] [33] u u3 := (f12.mono rfl rfl rfl).trans (f3.mono rfl rfl rfl)
    obtain ⟨w1, x1, hle, g18, h78, g1⟩ := rm u3 ((f13.i 47 18 rfl).trans hxm.1) (by rw [f13.a 57 rfl]; exact hxm.2)
    have av : anV n (spL n c).2.1 (spL n c).2.2 0 = 0 := by unfold anV; rw [hs, hend hs hle, decide_eq_true rfl]; rfl
    rw [av, if_pos rfl, e3, oBs] at ecl
    rw [hs, if_pos rfl] at x1
    obtain ⟨w2, hw2'⟩ : ∃ w2, w2 = sI w1 47 51 (-1) := ⟨_, rfl⟩
    have g12 : Fm [(47, 0), (47, 18), (47, 19), (47, 20), (47, 21), (47, 51)] [78, 79, 80] [] u3 w2 := by rw [hw2']; exact (g1.mono rfl rfl rfl).sI rfl
    have GM : GvM D (spL n c).1 (fun j => clK n c j 0) w2 := by
      refine ⟨(g12.i 47 6 rfl).trans ((f13.i 47 6 rfl).trans hM6), fun j hj => ?_, fun p hp => ?_⟩
      · rw [hw2']; exact h78 hs j hj
      · rw [g12.a 52 rfl, f13.a 52 rfl]; exact hM52 p hp
    have hrel : ∀ p : Nat, p < 8 → (255 : Nat).testBit p = !(0 : Nat).testBit p := by decide +kernel
    obtain ⟨w3, e4, f4, _, p4, _⟩ := gives_m (N := (spL n c).1) (K := fun j => clK n c j 0) hN8 (fun j _ => clK_lt j 0) hP (spL n c).1 0 255 0 0 0 12 w2 (Nat.zero_add _) (by omega) (by decide) (by decide) hrel (Nat.le_refl _) (by decide) GM (by rw [hw2']; rfl)
    obtain ⟨q1, _, q3⟩ := p4 (Nat.zero_le _)
    have hmle := hmN_le (W := fun j => wtN D (clK n c j 0)) (spL n c).1 0 255
    have q1' : gI w3 47 51 = nI (hmN (fun j => wtN D (clK n c j 0)) (spL n c).1 0 255) := by rw [q1, Nat.zero_add]; exact bv_1 _ (by omega)
    obtain ⟨w4, e5, t5, f5⟩ := c142 (u := sI w3 47 1 0) hN8 (hmL_len (W := fun j => wtN D (clK n c j 0)) (spL n c).1 0 255) (fun j hj => by
      have := q3 j (by omega)
      rw [Nat.zero_add] at this; exact this) (clr_m w3)
    have em : fX12_claims u3 = some (nI (hmN (fun j => wtN D (clK n c j 0)) (spL n c).1 0 255), w4) := by
      rw [x1]
      unfold clG
      rw [nxs, ← hw2', show fX12_givesFrom 12 0 (nI (spL n c).1) 0 0 w2 = _ from e4, oVs, nxs, e5, show gI (sI w3 47 1 0) 47 51 = gI w3 47 51 from rfl, q1']
    have g34 : Fm [(47, 0), (47, 1), (47, 18), (47, 19), (47, 20), (47, 21), (47, 51)] [78, 79, 80] [48] u3 w4 := (((g12.mono rfl rfl rfl).trans (f4.mono rfl rfl rfl)).sI rfl).trans (f5.mono rfl rfl rfl)
    refine ⟨_, u3, w4, ecl, em, hfin w4 ((f13.mono rfl rfl rfl).trans (g34.mono rfl rfl rfl)) ?_ ?_ (told_of (t3.fm g34 rfl rfl) t5 ?_)⟩
    · rw [g34.i 1 1 rfl, f3.i 1 1 rfl, hu2]; rfl
    · rw [f5.i 47 18 rfl]
      show w3.1 47 18 = 0
      rw [f4.i 47 18 rfl, hw2']; exact g18
    · unfold hmT
      rw [List.length_map, hmL_len]; omega
