/-! sheet, sign -/
variable {D : DD} {m m' : MM} {e r : Nat} {u v : US}
def shC (x : Int32) : Int32 := if (0 : Int32) < (if x < 9 then x else 9) then if x < 9 then x else 9 else 0
theorem shC_n (x : Int32) : ∃ c : Nat, c < 10 ∧ shC x = nI c := by
  unfold shC
  by_cases h : (0 : Int32) < (if x < 9 then x else 9)
  · rw [if_pos h]
    have h2 : (if x < 9 then x else 9) ≤ (9 : Int32) := by
      by_cases q : x < 9
      · rw [if_pos q]; exact (fa_of_lt q).1
      · rw [if_neg q]; decide
    obtain ⟨c, hc, e⟩ := nI_rng (n := 9) (M := 9) rfl ⟨(fa_of_lt h).1, h2⟩
    exact ⟨c, (by omega), e⟩
  · rw [if_neg h]; exact ⟨0, (by omega), rfl⟩
def nar (k x : Int32) : Int32 := if k = 0 then x.toInt8.toInt32 else if k = 1 then x.toInt16.toInt32 else x
theorem shame_c (k x : Int32) (u : US) : fX8_shameOf k x u = some (shC (nar k x), u) := by
  unfold fX8_shameOf nar fX8_shameOf_20
  by_cases h : k = 0
  · rw [if_pos h, if_pos h]; rfl
  · rw [if_neg h, if_neg h]
    by_cases h1 : k = 1
    · rw [if_pos h1, if_pos h1]; rfl
    · rw [if_neg h1, if_neg h1]; rfl
theorem s42_c {a1 a2 a3 a4 : Int32} {K : Int32 → Int32 → US → Option (Int32 × US)} {i : Nat} (hi : i < 8) (y x : Int32) : fX8_setShames_42 a1 a2 a3 a4 K y (nI i) (nI i) x u = K (y + x) (nI (i + 1)) (sA u 17 (nI i) x) := by
  rw [fX8_setShames_42, gdi hi (by omega), nxs, gdi hi (by omega), nI_1, show gA (sA u 17 (nI i) x) 17 (nI i) = x from pk_us]
theorem shames_c (h : Cw D m 4 u) {k n f st : Int32} {s : Nat → Nat} (hs : ∀ t, t < dT D → (if n ≤ nI t then 0 else shC (nar k (f + nI t * st))) = nI (s t)) : ∃ v, fX8_setShames k n f st u = some (nI (fb_sm s (dT D)), v) ∧ RowN (dT D) (v.2.1 17) s ∧ Fm [] [17] [] u v := by
  have b := h.b
  unfold fX8_setShames
  refine lpE (fun g (z : Int32 × Int32) w => fX8_setShames_6 k n f st g z.1 z.2 w) (dT D) (fun i => (nI (fb_sm s i), nI i)) (fun i w => RowN i (w.2.1 17) s ∧ Fm [] [17] [] u w) (fun o => ∃ v, o = some (nI (fb_sm s (dT D)), v) ∧ RowN (dT D) (v.2.1 17) s ∧ Fm [] [17] [] u v) ?_ ?_ (by omega) (0, 0) rfl ⟨fun j hj => absurd hj (Nat.not_lt_zero j), Fm.rf⟩
  · rintro g i w hi ⟨hw, hf⟩
    have xT : gI w 3 2 = nI (dT D) := (hf.i 3 2 rfl).trans h.xT
    have key := hs i hi
    have nxt2 : RowN (i + 1) ((sA w 17 (nI i) (nI (s i))).2.1 17) s := fun j hj => by
      show upd (w.2.1 17) (nI i).toNatClampNeg (nI (s i)) j = _
      rw [nI_clamp (by omega)]
      by_cases q : j = i
      · subst q; rw [pk_us]
      · rw [pk_un q]; exact hw j (by omega)
    left
    dsimp only
    rw [fX8_setShames_6, xT, if_neg (nI_ge hi (by omega))]
    by_cases q : n ≤ nI i
    · rw [if_pos q] at key
      rw [if_pos q, s42_c (by omega), key, nI_add]
      exact ⟨_, ⟨nxt2, hf.sA rfl⟩, rfl⟩
    · rw [if_neg q] at key
      rw [if_neg q, shame_c, oBs, s42_c (by omega), key, nI_add]
      exact ⟨_, ⟨nxt2, hf.sA rfl⟩, rfl⟩
  · rintro g w ⟨hw, hf⟩
    have xT : gI w 3 2 = nI (dT D) := (hf.i 3 2 rfl).trans h.xT
    dsimp only
    rw [fX8_setShames_6, xT, if_pos (nI_le (Nat.le_refl _) (by omega))]
    exact ⟨w, rfl, hw, hf⟩
theorem s112_m {a1 a2 a3 a4 : Int32} {K : Int32 → Int32 → Int32 → US → Option (Int32 × US)} {i : Nat} (hi : i < 8) (y z x : Int32) : fX12_sheet_112 a1 a2 a3 a4 K y z (nI i) (nI i) x u = K (y + x) (z + a4) (nI (i + 1)) (sA u 50 (nI i) x) := by
  rw [fX12_sheet_112, gdi hi (by omega), nxs, gdi hi (by omega), nI_1, show gA (sA u 50 (nI i) x) 50 (nI i) = x from pk_us]
theorem st_add (f st : Int32) (i : Nat) : f + nI i * st + st = f + nI (i + 1) * st := by
  rw [← nI_1, Int32.add_mul, Int32.one_mul, Int32.add_assoc]
theorem sheet_m (h : Mw D m 55 u) {k n f st : Int32} {s : Nat → Nat} (hs : ∀ t, t < dT D → (if k = 3 then 0 else if n ≤ nI t then 0 else shC (nar k (f + nI t * st))) = nI (s t)) : ∃ v, fX12_sheet_46 k n f st FU 0 f 0 u = some (if k = 3 then -3 else nI (fb_sm s (dT D)), v) ∧ RowN (dT D) (v.2.1 50) s ∧ Fm [] [50] [] u v := by
  have b := h.b
  refine lpE (fun g (z : Int32 × Int32 × Int32) w => fX12_sheet_46 k n f st g z.1 z.2.1 z.2.2 w) (dT D) (fun i => (nI (fb_sm s i), f + nI i * st, nI i)) (fun i w => RowN i (w.2.1 50) s ∧ Fm [] [50] [] u w) (fun o => ∃ v, o = some (if k = 3 then -3 else nI (fb_sm s (dT D)), v) ∧ RowN (dT D) (v.2.1 50) s ∧ Fm [] [50] [] u v) ?_ ?_ (by omega) (0, f, 0) (by rw [show nI 0 = (0 : Int32) from rfl, Int32.zero_mul, Int32.add_zero]; rfl) ⟨fun j hj => absurd hj (Nat.not_lt_zero j), Fm.rf⟩
  · rintro g i w hi ⟨hw, hf⟩
    have xT : gI w 47 5 = nI (dT D) := (hf.i 47 5 rfl).trans h.xT
    have key := hs i hi
    have nxt2 : RowN (i + 1) ((sA w 50 (nI i) (nI (s i))).2.1 50) s := fun j hj => by
      show upd (w.2.1 50) (nI i).toNatClampNeg (nI (s i)) j = _
      rw [nI_clamp (by omega)]
      by_cases q : j = i
      · subst q; rw [pk_us]
      · rw [pk_un q]; exact hw j (by omega)
    left
    dsimp only
    have e78 : ∀ x : Int32, x = nar k (f + nI i * st) → fX12_sheet_78 k n f st (fX12_sheet_46 k n f st g) (nI (fb_sm s i)) (f + nI i * st) (nI i) x w = fX12_sheet_46 k n f st g (nI (fb_sm s i + s i)) (f + nI (i + 1) * st) (nI (i + 1)) (sA w 50 (nI i) (nI (s i))) := by
      intro x hx
      unfold fX12_sheet_78 fX12_sheet_97
      by_cases q3 : k = 3
      · rw [if_pos q3] at key
        rw [if_pos q3, s112_m (by omega), key, nI_add, st_add]
      · rw [if_neg q3] at key
        rw [if_neg q3]
        by_cases q : n ≤ nI i
        · rw [if_pos q] at key
          rw [if_neg (n_lt.mpr q), s112_m (by omega), key, nI_add, st_add]
        · rw [if_neg q] at key
          rw [if_pos (fa_of_nle q), s112_m (by omega), show (if (0 : Int32) < (if x < 9 then x else 9) then if x < 9 then x else 9 else 0) = shC x from rfl, hx, key, nI_add, st_add]
    rw [fX12_sheet_46, xT, if_neg (nI_ge hi (by omega))]
    refine ⟨sA w 50 (nI i) (nI (s i)), ⟨nxt2, hf.sA rfl⟩, ?_⟩
    by_cases h0 : k = 0
    · rw [if_pos h0, e78 _ (by unfold nar; rw [if_pos h0])]; rfl
    · rw [if_neg h0]
      by_cases h1 : k = 1
      · rw [if_pos h1, e78 _ (by unfold nar; rw [if_neg h0, if_pos h1])]; rfl
      · rw [if_neg h1, e78 _ (by unfold nar; rw [if_neg h0, if_neg h1])]; rfl
  · rintro g w ⟨hw, hf⟩
    have xT : gI w 47 5 = nI (dT D) := (hf.i 47 5 rfl).trans h.xT
    dsimp only
    rw [fX12_sheet_46, xT, if_pos (nI_le (Nat.le_refl _) (by omega))]
    refine ⟨w, ?_, hw, hf⟩
    by_cases q3 : k = 3
    · rw [if_pos q3, if_pos q3]
    · rw [if_neg q3, if_neg q3]
def dS (D : DD) (s : Nat → Nat) : DD := (D.1, D.2.1, s, D.2.2.2)
theorem Inv_sh {n : Nat} {s : Nat → Nat} (hW : Wd D m u) (hR : Rst n D u) (hs : ∀ t, t < dT D → s t < 10) (f : Fm [(47, 0)] [17, 50] [] u v) (h1 : RowN (dT D) (v.2.1 17) s) (h2 : RowN (dT D) (v.2.1 50) s) : Inv (n + 1) v := by
  obtain ⟨w1, ⟨c0, c1, c2, c3, c4, c5, c6⟩, ⟨d0, d1, d2, d3, d4, d5, d6⟩, w4, w5, w6, w7⟩ := hW
  obtain ⟨g1, g2, g3, g4, g5⟩ := hR
  refine Inv_mono n v (Inv_fr (D := dS D s) (m := m) ⟨⟨w1.1, w1.2.1, hs, w1.2.2.2⟩, ⟨?_, ?_, h1, ?_, ?_, ?_, ?_⟩, ⟨?_, ?_, h2, ?_, ?_, ?_, ?_⟩, w4.fm f rfl rfl, w5, w6.fm f rfl rfl, w7.fm f rfl⟩ ⟨?_, ?_, ?_, ?_, ?_⟩)
  · rw [f.i 3 0 rfl, f.i 3 1 rfl, f.i 3 2 rfl, f.i 3 3 rfl, f.i 3 4 rfl]; exact c0
  · rw [f.a 16 rfl]; exact c1
  · rw [f.a 18 rfl]; exact c3
  · rw [f.a 19 rfl]; exact c4
  · rw [f.a 20 rfl]; exact c5
  · rw [f.a 21 rfl]; exact c6
  · rw [f.i 47 3 rfl, f.i 47 4 rfl, f.i 47 5 rfl, f.i 47 6 rfl, f.i 47 7 rfl]; exact d0
  · rw [f.a 49 rfl]; exact d1
  · rw [f.a 51 rfl]; exact d3
  · rw [f.a 52 rfl]; exact d4
  · rw [f.a 53 rfl]; exact d5
  · rw [f.a 54 rfl]; exact d6
  · rw [f.i 1 1 rfl, f.i 47 18 rfl, f.a 15 rfl, f.a 57 rfl]; exact g1
  · rw [f.i 7 3 rfl, f.i 47 30 rfl, f.a 31 rfl, f.a 63 rfl]; exact g2
  · rw [f.i 7 2 rfl, f.i 47 8 rfl, f.a 32 rfl, f.a 82 rfl, f.a 83 rfl, f.a 84 rfl, f.i 4 4 rfl, f.a 31 rfl]; exact g3
  · rw [f.i 8 1 rfl, f.i 47 1 rfl, f.j 33 rfl, f.j 48 rfl]; exact g4
  · rw [f.i 11 3 rfl, f.i 47 43 rfl, f.a 36 rfl, f.a 37 rfl, f.a 38 rfl, f.a 74 rfl, f.a 75 rfl, f.a 76 rfl]; exact g5
theorem in3 {v : Int32} (h : ¬ v < 0) (h2 : ¬ 3 < v) : 0 ≤ v ∧ v ≤ 3 := ⟨n_lt.mp h, n_lt.mp h2⟩
theorem st_10 : St_10 Inv := by
  intro n a1 a2 a3 a4 u hn hI
  obtain ⟨D, m, hW, hR⟩ := Inv_to hI
  have hc := hW.cw
  have fin : ∀ (s : Nat → Nat) (v : US) (w : US), (∀ t, t < dT D → s t < 10) → Fm [] [17] [] u v → RowN (dT D) (v.2.1 17) s → Fm [] [50] [] (sI v 47 0 0) w → RowN (dT D) (w.2.1 50) s → Inv (n + 1) w := fun s v w hs f1 r1 f2 r2 =>
    Inv_sh hW hR hs (((f1.mono rfl rfl rfl : Fm [(47, 0)] [17, 50] [] u v).sI rfl).trans (f2.mono rfl rfl rfl)) (by rw [f2.a 17 rfl]; exact r1) r2
  have hMw : ∀ v, Fm [] [17] [] u v → Mw D m 55 (sI v 47 0 0) := fun v f => hW.mw.fm55 ((f.mono rfl rfl rfl : Fm [(47, 0)] [17] [] u v).sI rfl) rfl rfl
  unfold fX11_sheet
  by_cases q0 : a1 < 0
  · refine ⟨-1, u, sI u 47 0 0, by rw [if_pos q0], ?_, q_no hI⟩
    rw [fX12_sheet, nxs, in_0_3, if_neg (fun w => absurd q0 (n_lt.mpr w.1)), oBs, if_pos rfl]
  · by_cases q1 : 3 < a1
    · refine ⟨-1, u, sI u 47 0 0, by rw [if_neg q0, if_pos q1], ?_, q_no hI⟩
      rw [fX12_sheet, nxs, in_0_3, if_neg (fun w => absurd q1 (n_lt.mpr w.2)), oBs, if_pos rfl]
    · have h3 := in3 q0 q1
      rw [if_neg q0, if_neg q1]
      by_cases q2 : a2 ≤ 8
      · rw [if_pos q2]
        by_cases q3 : a1 = 3
        · rw [if_pos q3]
          obtain ⟨v, e1, r1, f1⟩ := shames_c hc (k := 0) (n := 0) (f := 0) (st := 0) (s := fun _ => 0) (fun t ht => by rw [if_pos (show (0 : Int32) ≤ nI t from nI_pos' (by have := hc.b; omega))]; rfl)
          obtain ⟨w, e2, r2, f2⟩ := sheet_m (hMw v f1) (k := a1) (n := a2) (f := a3) (st := a4) (s := fun _ => 0) (fun t ht => by rw [if_pos q3]; rfl)
          refine ⟨-3, v, w, by rw [e1, oBs], ?_, fin _ v w (fun _ _ => by decide) f1 r1 f2 r2⟩
          rw [fX12_sheet, nxs, in_0_3, if_pos h3, oBs, if_neg (by decide), if_pos q2, if_pos q3, fX12_sheet_37, e2, if_pos q3]
        · rw [if_neg q3]
          by_cases q4 : 0 ≤ a2
          · rw [if_pos q4]
            have hx : ∀ t : Nat, ∃ c : Nat, c < 10 ∧ (if a2 ≤ nI t then 0 else shC (nar a1 (a3 + nI t * a4))) = nI c := fun t => by
              by_cases q : a2 ≤ nI t
              · rw [if_pos q]; exact ⟨0, (by omega), rfl⟩
              · rw [if_neg q]; exact shC_n _
            have hs1 : ∀ t, t < dT D → (if a2 ≤ nI t then 0 else shC (nar a1 (a3 + nI t * a4))) = nI (Classical.choose (hx t)) := fun t _ => (Classical.choose_spec (hx t)).2
            obtain ⟨v, e1, r1, f1⟩ := shames_c hc (s := fun t => Classical.choose (hx t)) hs1
            obtain ⟨w, e2, r2, f2⟩ := sheet_m (hMw v f1) (k := a1) (n := a2) (f := a3) (st := a4) (s := fun t => Classical.choose (hx t)) (fun t ht => by rw [if_neg q3]; exact hs1 t ht)
            refine ⟨_, v, w, by rw [e1, oBs], ?_, fin _ v w (fun t _ => (Classical.choose_spec (hx t)).1) f1 r1 f2 r2⟩
            rw [fX12_sheet, nxs, in_0_3, if_pos h3, oBs, if_neg (by decide), if_pos q2, if_neg q3, if_pos q4, fX12_sheet_37, e2, if_neg q3]
          · rw [if_neg q4]
            refine ⟨-2, u, sI u 47 0 0, rfl, ?_, q_no hI⟩
            rw [fX12_sheet, nxs, in_0_3, if_pos h3, oBs, if_neg (by decide), if_pos q2, if_neg q3, if_neg q4]
      · rw [if_neg q2]
        refine ⟨-1, u, sI u 47 0 0, rfl, ?_, q_no hI⟩
        rw [fX12_sheet, nxs, in_0_3, if_pos h3, oBs, if_neg (by decide), if_neg q2]
/-! the text -/
def scrIx : List (Nat × Nat) := (1, 1) :: (47, 18) :: scrIt
def scrAx : List Nat := 15 :: 57 :: scrA
abbrev Fx (u v : US) : Prop := Fm scrIx scrAx scrJt u v
theorem Inv_Fx {n : Nat} {u v : US} (h : Inv n u) (f : Fx u v) (hx : ITx (v.1 1 1) (v.1 47 18) (v.2.1 15) (v.2.1 57)) (ht : ITold (v.1 8 1) (v.1 47 1) (v.2.2.1 33) (v.2.2.1 48)) : Inv (n + 1) v := by
  obtain ⟨R, C, nt, np, nr, h1, h2, h3, h4, h5, h6, h7, h8, h9, h10⟩ := h
  refine ⟨R, C, nt, np, nr, h1, ?_, hx, ?_, ?_, ?_, ?_, ?_, ht, ?_⟩
  · rw [f.i 3 0 rfl, f.i 47 3 rfl, f.i 3 1 rfl, f.i 47 4 rfl, f.i 3 2 rfl, f.i 47 5 rfl, f.i 3 3 rfl, f.i 47 6 rfl, f.i 3 4 rfl, f.i 47 7 rfl]; exact h2
  · rw [f.a 16 rfl, f.a 17 rfl, f.a 18 rfl, f.a 19 rfl, f.a 20 rfl, f.a 21 rfl, f.a 49 rfl, f.a 50 rfl, f.a 51 rfl, f.a 52 rfl, f.a 53 rfl, f.a 54 rfl]; exact h4
  · rw [f.a 22 rfl, f.a 23 rfl, f.a 24 rfl, f.a 55 rfl, f.i 4 3 rfl, f.i 4 4 rfl]; exact h5
  · rw [f.2.2.2, f.i 13 2 rfl, f.i 14 2 rfl, f.i 47 26 rfl, f.a 43 rfl, f.a 45 rfl, f.a 59 rfl]; exact h6
  · rw [f.i 7 3 rfl, f.i 47 30 rfl, f.a 31 rfl, f.a 63 rfl]; exact h7
  · rw [f.i 7 2 rfl, f.i 47 8 rfl, f.a 32 rfl, f.a 82 rfl, f.a 83 rfl, f.a 84 rfl, f.i 4 4 rfl, f.a 31 rfl]; exact IKept_mono h8
  · rw [f.i 11 3 rfl, f.i 47 43 rfl, f.a 36 rfl, f.a 37 rfl, f.a 38 rfl, f.a 74 rfl, f.a 75 rfl, f.a 76 rfl]; exact h10
def byt (x : Int32) (i : Nat) : Int32 := (ush x (24 - (8 * nI i))) &&& 255
theorem byt_m (x : Int32) {i : Nat} (hi : i < 4) : (x >>> ((24 - (8 * nI i)) &&& 31)) &&& 255 = byt x i := by
  unfold byt
  have key : ∀ n : Nat, n ≤ 24 → (x >>> (nI n &&& 31)) &&& 255 = (x.toUInt32 >>> ((nI n).toUInt32 &&& Int32.toUInt32 31)).toInt32 &&& 255 := by
    intro n hn
    apply b_ext
    intro j hj
    rw [b_and, b_and, b_255, b_sshr n (by omega) x hj, b_ushr n (by omega)]
    by_cases q : j < 8
    · rw [if_pos (by omega)]
    · rw [decide_eq_false q, Bool.and_false, Bool.and_false]
  rcases (show i = 0 ∨ i = 1 ∨ i = 2 ∨ i = 3 by omega) with rfl | rfl | rfl | rfl
  · exact key 24 (by omega)
  · exact key 16 (by omega)
  · exact key 8 (by omega)
  · exact key 0 (by omega)
theorem byt_n (x : Int32) (i : Nat) : ∃ c : Nat, c < 256 ∧ byt x i = nI c := pk_andE _ 8 (by decide)
def txF (f : Nat → Int32) (k : Nat) (x : Int32) (i j : Nat) : Int32 := if k ≤ j ∧ j < k + i then byt x (j - k) else f j
theorem txF_s {f g : Nat → Int32} {k i : Nat} {x : Int32} (h : ∀ j, g j = txF f k x i j) : ∀ j, upd g (k + i) (byt x i) j = txF f k x (i + 1) j := by
  intro j
  unfold txF at h ⊢
  by_cases q : j = k + i
  · subst q
    rw [pk_us, if_pos ⟨(by omega), (by omega)⟩, Nat.add_sub_cancel_left]
  · rw [pk_un q, h j]
    by_cases q2 : k ≤ j ∧ j < k + i
    · rw [if_pos q2, if_pos ⟨q2.1, (by omega)⟩]
    · rw [if_neg q2, if_neg (fun w => by omega)]
theorem sign_c {k : Nat} (hk : k ≤ 76) (h : gI u 1 1 = nI k) (x : Int32) : ∃ v, fX7_add_13 x FU 0 u = some (nI (k + 4), v) ∧ gI v 1 1 = nI (k + 4) ∧ (∀ j, v.2.1 15 j = txF (u.2.1 15) k x 4 j) ∧ Fm [(1, 1)] [15] [] u v := by
  refine lpE (fun f (z : Int32) w => fX7_add_13 x f z w) 4 (fun i => nI i) (fun i w => (∀ j, w.2.1 15 j = txF (u.2.1 15) k x i j) ∧ gI w 1 1 = nI k ∧ Fm [(1, 1)] [15] [] u w) (fun o => ∃ v, o = some (nI (k + 4), v) ∧ gI v 1 1 = nI (k + 4) ∧ (∀ j, v.2.1 15 j = txF (u.2.1 15) k x 4 j) ∧ Fm [(1, 1)] [15] [] u v) ?_ ?_ (by omega) 0 rfl ⟨fun j => by unfold txF; rw [if_neg (fun w => by omega)], h, Fm.rf⟩
  · rintro f i w hi ⟨hw, he, hf⟩
    left
    rw [fX7_add_13, if_neg (show ¬ (4 : Int32) ≤ nI i from nI_ge (b := 4) hi (by omega)), he, nI_add, gdi (show k + i < 80 by omega) (by omega), nxs, nI_1]
    refine ⟨sA w 15 (nI (k + i)) (byt x i), ⟨fun j => ?_, he, hf.sA rfl⟩, rfl⟩
    show upd (w.2.1 15) (nI (k + i)).toNatClampNeg (byt x i) j = _
    rw [nI_clamp (by omega)]
    exact txF_s hw j
  · rintro f w ⟨hw, he, hf⟩
    rw [fX7_add_13, if_pos (show (4 : Int32) ≤ nI 4 by decide), he, show nI k + 4 = nI (k + 4) from nI_add k 4, nxs]
    exact ⟨_, rfl, rfl, hw, hf.sI rfl⟩
theorem sign_m {k : Nat} (hk : k ≤ 76) (h : gI u 47 18 = nI k) (x : Int32) : ∃ v, fX12_sign_18 x FU 0 u = some (nI (k + 4), v) ∧ gI v 47 18 = nI (k + 4) ∧ (∀ j, v.2.1 57 j = txF (u.2.1 57) k x 4 j) ∧ Fm [(47, 18)] [57] [] u v := by
  refine lpE (fun f (z : Int32) w => fX12_sign_18 x f z w) 4 (fun i => nI i) (fun i w => (∀ j, w.2.1 57 j = txF (u.2.1 57) k x i j) ∧ gI w 47 18 = nI k ∧ Fm [(47, 18)] [57] [] u w) (fun o => ∃ v, o = some (nI (k + 4), v) ∧ gI v 47 18 = nI (k + 4) ∧ (∀ j, v.2.1 57 j = txF (u.2.1 57) k x 4 j) ∧ Fm [(47, 18)] [57] [] u v) ?_ ?_ (by omega) 0 rfl ⟨fun j => by unfold txF; rw [if_neg (fun w => by omega)], h, Fm.rf⟩
  · rintro f i w hi ⟨hw, he, hf⟩
    left
    rw [fX12_sign_18, if_neg (show ¬ (4 : Int32) ≤ nI i from nI_ge (b := 4) hi (by omega)), he, nI_add, gdi (show k + i < 80 by omega) (by omega), nxs, nI_1, byt_m x hi]
    refine ⟨sA w 57 (nI (k + i)) (byt x i), ⟨fun j => ?_, he, hf.sA rfl⟩, rfl⟩
    show upd (w.2.1 57) (nI (k + i)).toNatClampNeg (byt x i) j = _
    rw [nI_clamp (by omega)]
    exact txF_s hw j
  · rintro f w ⟨hw, he, hf⟩
    rw [fX12_sign_18, if_pos (show (4 : Int32) ≤ nI 4 by decide), he, show nI k + 4 = nI (k + 4) from nI_add k 4, nxs]
    exact ⟨_, rfl, rfl, hw, hf.sI rfl⟩
theorem Inv_tx {n : Nat} {u : US} (h : Inv n u) : ITx (u.1 1 1) (u.1 47 18) (u.2.1 15) (u.2.1 57) := by
  obtain ⟨R, C, nt, np, nr, h1, h2, h3, h4⟩ := h
  exact h3
theorem st_0 : St_0 Inv := by
  intro n a u hn hI
  obtain ⟨k, hk, ea, eb, ht⟩ := Inv_tx hI
  by_cases q : k ≤ 76
  · obtain ⟨v, e1, l1, s1, f1⟩ := sign_c (u := u) q ea a
    have k0 : Fm [(47, 0)] [] [] v (sI v 47 0 0) := Fm.rf.sI rfl
    obtain ⟨w, e2, l2, s2, f2⟩ := sign_m (u := sI v 47 0 0) q (show v.1 47 18 = nI k from (f1.i 47 18 rfl).trans eb) a
    have fm : Fm [(47, 0), (47, 18)] [57] [] v w := (k0.mono rfl rfl rfl).trans (f2.mono rfl rfl rfl)
    refine ⟨nI (k + 4), v, w, ?_, ?_, Inv_Fx hI ((f1.mono rfl rfl rfl).trans (fm.mono rfl rfl rfl)) ⟨k + 4, (by omega), (fm.i 1 1 rfl).trans l1, l2, fun j hj => ?_⟩ ?_⟩
    · unfold fX11_sign fX7_add
      rw [show gI u 1 1 = nI k from ea, if_pos (show nI k ≤ (76 : Int32) from nI_le (b := 76) q (by omega)), e1, oBs]
    · rw [fX12_sign, nxs, show gI (sI v 47 0 0) 47 18 = nI k from (f1.i 47 18 rfl).trans eb, if_pos (show nI k ≤ (76 : Int32) from nI_le (b := 76) q (by omega)), e2]
    · rw [fm.a 15 rfl, s1 j, s2 j]
      show txF _ _ _ _ _ = txF (v.2.1 57) k a 4 j ∧ _
      rw [f1.a 57 rfl]
      unfold txF
      by_cases q2 : k ≤ j ∧ j < k + 4
      · rw [if_pos q2, if_pos q2]; exact ⟨rfl, byt_n _ _⟩
      · rw [if_neg q2, if_neg q2]; exact ht j (by omega)
    · rw [fm.i 8 1 rfl, f1.i 8 1 rfl, fm.i 47 1 rfl, f1.i 47 1 rfl, fm.j 33 rfl, f1.j 33 rfl, fm.j 48 rfl, f1.j 48 rfl]; exact Inv_told hI
  · refine ⟨-1, u, sI u 47 0 0, ?_, ?_, q_no hI⟩
    · unfold fX11_sign fX7_add
      rw [show gI u 1 1 = nI k from ea, if_neg (show ¬ nI k ≤ (76 : Int32) from nI_ge (a := 76) (by omega) (by omega)), oBs]
    · rw [fX12_sign, nxs, show gI (sI u 47 0 0) 47 18 = nI k from eb, if_neg (show ¬ nI k ≤ (76 : Int32) from nI_ge (a := 76) (by omega) (by omega))]
