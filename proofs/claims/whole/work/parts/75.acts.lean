/-! hang, takes, ball, carry -/
variable {D : DD} {m m' : MM} {e r : Nat} {u v : US}
def scrIa : List (Nat × Nat) := (4, 3) :: (4, 4) :: (7, 3) :: (47, 30) :: scrIt
def scrAa : List Nat := 22 :: 23 :: 24 :: 55 :: 31 :: 63 :: scrA
abbrev Fa (u v : US) : Prop := Fm scrIa scrAa scrJt u v
theorem Fm.ta {u v : US} (h : Ft u v) : Fa u v := h.mono rfl rfl rfl
theorem Fm.ra {u v : US} (h : Fr u v) : Fa u v := h.mono rfl rfl rfl
theorem fin_act {n : Nat} (hW : Wd D m u) (hR : Rst n D u) (f : Fa u v) (hm : MoOK D m') (hc : MoC D m' 4 v) (hM : MoM D m' 55 v) (hp : IPast (dR D) (dC D) (dT D) (dP D) (dM D) (v.1 7 3) (v.1 47 30) (v.2.1 31) (v.2.1 63)) (hh : ∃ h : Nat, h ≤ 300 * (n + 1) ∧ v.1 4 4 = nI h) (hh2 : ∀ j, j < 15 → ∃ h : Nat, h ≤ 300 * (n + 1) ∧ v.2.1 31 (26 * j + 25) = nI h) (ht : ITold (v.1 8 1) (v.1 47 1) (v.2.2.1 33) (v.2.2.1 48)) : Inv (n + 1) v := by
  obtain ⟨g1, g2, ⟨⟨c, kb, g3, g4⟩, g5⟩, g6, g7⟩ := hR
  refine Inv_fr (D := D) (m := m') ⟨hW.1, hW.2.1.fm f rfl rfl, hW.2.2.1.fm f rfl rfl, hW.2.2.2.1.fm f rfl rfl, hm, hc, hM⟩ ⟨?_, hp, ⟨?_, hh, hh2, ?_⟩, ht, ?_⟩
  · rw [f.i 1 1 rfl, f.i 47 18 rfl, f.a 15 rfl, f.a 57 rfl]; exact g1
  · rw [f.i 7 2 rfl, f.i 47 8 rfl, f.a 32 rfl, f.a 82 rfl, f.a 83 rfl, f.a 84 rfl]; exact ⟨c, kb, (by omega), g4⟩
  · rw [f.a 32 rfl]
    intro j hj
    obtain ⟨h, h1, h2⟩ := g5.2.2 j hj
    exact ⟨h, (by omega), h2⟩
  · rw [f.i 11 3 rfl, f.i 47 43 rfl, f.a 36 rfl, f.a 37 rfl, f.a 38 rfl, f.a 74 rfl, f.a 75 rfl, f.a 76 rfl]; exact g7
theorem copy5 (u : US) : ∃ v, fX1_copy 5 4 u = some v ∧ (∀ i, i < 26 → moC v 5 i = moC u 4 i) ∧ Fm [(5, 3), (5, 4)] [25, 26, 27] [] u v := by
  have f : Fm [(5, 3), (5, 4)] [25, 26, 27] [] u (sI (sI (sF (sF (sF u 25 (va_cpy (u.2.1 22) (u.2.1 25) (0 : Int32).toNatClampNeg (0 : Int32).toNatClampNeg (8 : Int32).toNatClampNeg)) 26 (va_cpy (u.2.1 23) (u.2.1 26) (0 : Int32).toNatClampNeg (0 : Int32).toNatClampNeg (8 : Int32).toNatClampNeg)) 27 (va_cpy (u.2.1 24) (u.2.1 27) (0 : Int32).toNatClampNeg (0 : Int32).toNatClampNeg (8 : Int32).toNatClampNeg)) 5 3 (u.1 4 3)) 5 4 (u.1 4 4)) := ((((Fm.rf.sF rfl).sF rfl).sF rfl).sI rfl).sI rfl
  refine ⟨_, rfl, fun i hi => ?_, f⟩
  show cMom (va_cpy (u.2.1 22) (u.2.1 25) (0 : Int32).toNatClampNeg (0 : Int32).toNatClampNeg (8 : Int32).toNatClampNeg) (va_cpy (u.2.1 23) (u.2.1 26) (0 : Int32).toNatClampNeg (0 : Int32).toNatClampNeg (8 : Int32).toNatClampNeg) (va_cpy (u.2.1 24) (u.2.1 27) (0 : Int32).toNatClampNeg (0 : Int32).toNatClampNeg (8 : Int32).toNatClampNeg) (u.1 4 3) (u.1 4 4) i = cMom (u.2.1 22) (u.2.1 23) (u.2.1 24) (u.1 4 3) (u.1 4 4) i
  unfold cMom
  by_cases h1 : i < 8
  · rw [if_pos h1, if_pos h1, cpy8 _ _ h1]
  · rw [if_neg h1, if_neg h1]
    by_cases h2 : i < 16
    · rw [if_pos h2, if_pos h2, cpy8 _ _ (by omega)]
    · rw [if_neg h2, if_neg h2]
      by_cases h3 : i < 24
      · rw [if_pos h3, if_pos h3, cpy8 _ _ (by omega)]
      · rw [if_neg h3, if_neg h3]
theorem Wd.mom (h : Wd D m u) : MomOK (dR D) (dC D) (dT D) (dP D) (dM D) (moC u 4) ∧ MomEq (dT D) (dP D) (moC u 4) (u.2.1 55) := mo_I h.2.2.2.2.1 ((cm_mo h.1.1).mpr h.2.2.2.2.2.1) h.2.2.2.2.2.2
theorem IsPu.cg {k : Nat} {f mo mo' f' : Nat → Int32} (h : IsPu k f mo f') (hm : ∀ i, i < 26 → mo i = mo' i) : IsPu k f mo' f' := by
  intro j i hj hi
  rw [h j i hj hi]
  unfold puF
  split
  · split
    · exact hm i hi
    · rfl
  · split
    · exact hm i hi
    · rfl
theorem pu_m {k : Nat} {f g mo f' : Nat → Int32} (h1 : ∀ j i, i < 26 → g (26 * j + i) = if j = k then mo i else f (26 * j + i)) (h2 : ∀ j i, j < 15 → i < 26 → f' (26 * j + i) = if k < 15 then g (26 * j + i) else g (26 * (j + 1) + i)) (hk : k ≤ 15) : IsPu k f mo f' := by
  intro j i hj hi
  rw [h2 j i hj hi]
  unfold puF
  by_cases q : k < 15
  · rw [if_pos q, if_pos q, h1 j i hi]
  · rw [if_neg q, if_neg q, h1 (j + 1) i hi]
    by_cases q2 : j = 14
    · rw [if_pos (by omega), if_pos q2]
    · rw [if_neg (by omega), if_neg q2]
theorem act_ok {A B : US → Option (Int32 × US)} {a : Int32} {n : Nat} (hW : Wd D m u) (hR : Rst n D u) (hA : ∀ w, Cw D m 4 w → ∃ v, A w = some (a, v) ∧ Cw D m' 4 v ∧ Fm [(4, 3)] [22, 23, 24] [] w v) (hB : ∀ w, Mw D m 55 w → ∃ v, B w = some (a, v) ∧ Mw D m' 55 v ∧ Fm [] [55] [] w v) : ∃ (r : Int32) (u1 u2 : US), (oV (fX1_copy 5 4 u) fun u1 => oB (A u1) fun r2 u2 => oB (fX11_remembered r2 u2) fun r3 u3 => some (r3, u3)) = some (r, u1) ∧ (nx (sI u1 47 0 0) fun u1 => oV (fX12_putsBy u1) fun u2 => oB (B u2) fun r3 u3 => oB (fX12_counted r3 u3) fun r4 u4 => some (r4, u4)) = some (r, u2) ∧ Inv (n + 1) u2 := by
  have hd := hW.1.1
  have hR' := hR
  obtain ⟨g1, ⟨k, hk, pa, pb, pp⟩, ⟨g3, ⟨h0, hh0, eh⟩, hh2, hh3⟩, ⟨kt, g6, to1, to2, to3⟩, g7⟩ := hR'
  have hmom := hW.mom
  obtain ⟨u1, e1, mo1, f1⟩ := copy5 u
  have hW1 : Wd D m u1 := hW.fr (f1.mono rfl rfl rfl)
  obtain ⟨u2, e2, c2, f2⟩ := hA u1 hW1.cw
  have mo2 : ∀ i, i < 26 → moC u2 5 i = moC u 4 i := fun i hi => by
    rw [← mo1 i hi]
    unfold moC
    rw [f2.a (fpt 5 0) rfl, f2.a (fpt 5 1) rfl, f2.a (fpt 5 2) rfl, f2.i 5 3 rfl, f2.i 5 4 rfl]
  have f12 : Fm [(5, 3), (5, 4), (4, 3)] [25, 26, 27, 22, 23, 24] [] u u2 := (f1.mono rfl rfl rfl).trans (f2.mono rfl rfl rfl)
  rw [e1, oVs, e2, oBs]
  by_cases hneg : a < 0
  · -- refused
    have k0 : Fm [(47, 0)] [] [] u2 (sI u2 47 0 0) := Fm.rf.sI rfl
    have M0 : Mw D m 55 (sI u2 47 0 0) := by
      have f : Fm [(5, 3), (5, 4), (4, 3), (47, 0)] [25, 26, 27, 22, 23, 24] [] u (sI u2 47 0 0) := (f12.mono rfl rfl rfl).sI rfl
      exact ⟨Or.inl rfl, hW.1, hW.2.2.1.fm f rfl rfl, hW.2.2.2.1.fm f rfl rfl, hW.2.2.2.2.1, hW.2.2.2.2.2.2.fm f rfl⟩
    obtain ⟨w1, x1, s1, y1⟩ := putsBy_m (u := sI u2 47 0 0) hk (show u2.1 47 30 = nI k from (f12.i 47 30 rfl).trans pb)
    have M1 : Mw D m 55 w1 := ⟨Or.inl rfl, M0.2.1, M0.2.2.1.fm y1 rfl rfl, M0.2.2.2.1.fm y1 rfl rfl, M0.2.2.2.2.1, M0.2.2.2.2.2.fm y1 rfl⟩
    obtain ⟨w2, x2, d2, y2⟩ := hB w1 M1
    have fm : Fm [(47, 0)] [63, 55] [] u2 w2 := ((k0.mono rfl rfl rfl).trans (y1.mono rfl rfl rfl)).trans (y2.mono rfl rfl rfl)
    refine ⟨a, u2, w2, by unfold fX11_remembered; rw [if_pos hneg, oBs], ?_, ?_⟩
    · rw [nxs, x1, oVs, x2, oBs]
      unfold fX12_counted
      rw [if_neg (fun q => absurd hneg (n_lt.mpr q)), oBs]
    · refine fin_act (m' := m') hW hR ((f12.mono rfl rfl rfl).trans (fm.mono rfl rfl rfl)) c2.2.2.2.2.1 (c2.2.2.2.2.2.fm fm rfl rfl) d2.2.2.2.2.2 ⟨k, hk, ?_, ?_, fun j hj => ?_⟩ ⟨h0, (by omega), ?_⟩ (fun j hj => ?_) ⟨kt, g6, ?_, ?_, fun j hj => ?_⟩
      · rw [fm.i 7 3 rfl, f12.i 7 3 rfl]; exact pa
      · rw [fm.i 47 30 rfl, f12.i 47 30 rfl]; exact pb
      · have e31 : w2.2.1 31 = u.2.1 31 := (fm.a 31 rfl).trans (f12.a 31 rfl)
        have e63 : ∀ i, i < 26 → slotF (w2.2.1 63) j i = slotF (u.2.1 63) j i := fun i hi => by
          show w2.2.1 63 (26 * j + i) = u.2.1 63 (26 * j + i)
          rw [y2.a 63 rfl, s1 j i hi, if_neg (by omega)]
          show u2.2.1 63 _ = _
          rw [f12.a 63 rfl]
        rw [e31]
        exact ⟨(pp j hj).1, MoE_cg ⟨hd.2.2.2.2.1, hd.2.2.2.2.2.1⟩ (fun _ _ => rfl) e63 (pp j hj).2⟩
      · rw [fm.i 4 4 rfl, f12.i 4 4 rfl]; exact eh
      · obtain ⟨h, h1, h2⟩ := hh2 j hj
        exact ⟨h, (by omega), by rw [fm.a 31 rfl, f12.a 31 rfl]; exact h2⟩
      · rw [fm.i 8 1 rfl, f12.i 8 1 rfl]; exact to1
      · rw [fm.i 47 1 rfl, f12.i 47 1 rfl]; exact to2
      · rw [fm.j 33 rfl, f12.j 33 rfl, fm.j 48 rfl, f12.j 48 rfl]; exact to3 j hj
  · obtain ⟨u3, e3, k3, p3, f3⟩ := push_c (u := u2) (e := 5) (Or.inr rfl) hk ((f12.i 7 3 rfl).trans pa)
    have f13 : Fm [(5, 3), (5, 4), (4, 3), (7, 3)] [25, 26, 27, 22, 23, 24, 31] [] u u3 := (f12.mono rfl rfl rfl).trans (f3.mono rfl rfl rfl)
    have k0 : Fm [(47, 0)] [] [] u3 (sI u3 47 0 0) := Fm.rf.sI rfl
    have M0 : Mw D m 55 (sI u3 47 0 0) := by
      have f : Fm [(5, 3), (5, 4), (4, 3), (7, 3), (47, 0)] [25, 26, 27, 22, 23, 24, 31] [] u (sI u3 47 0 0) := (f13.mono rfl rfl rfl).sI rfl
      exact ⟨Or.inl rfl, hW.1, hW.2.2.1.fm f rfl rfl, hW.2.2.2.1.fm f rfl rfl, hW.2.2.2.2.1, hW.2.2.2.2.2.2.fm f rfl⟩
    obtain ⟨w1, x1, s1, y1⟩ := putsBy_m (u := sI u3 47 0 0) hk (show u3.1 47 30 = nI k from (f13.i 47 30 rfl).trans pb)
    have M1 : Mw D m 55 w1 := ⟨Or.inl rfl, M0.2.1, M0.2.2.1.fm y1 rfl rfl, M0.2.2.2.1.fm y1 rfl rfl, M0.2.2.2.2.1, M0.2.2.2.2.2.fm y1 rfl⟩
    obtain ⟨w2, x2, d2, y2⟩ := hB w1 M1
    obtain ⟨w3, x3, kk3, s3, y3⟩ := puts_m (u := w2) hk ((y2.i 47 30 rfl).trans ((y1.i 47 30 rfl).trans ((f13.i 47 30 rfl).trans pb))) a
    have fm : Fm [(47, 0), (47, 30)] [63, 55] [] u3 w3 := (((k0.mono rfl rfl rfl).trans (y1.mono rfl rfl rfl)).trans (y2.mono rfl rfl rfl)).trans (y3.mono rfl rfl rfl)
    refine ⟨a, u3, w3, by unfold fX11_remembered; rw [if_neg hneg, e3, oVs, oBs], ?_, ?_⟩
    · rw [nxs, x1, oVs, x2, oBs]
      unfold fX12_counted
      rw [if_pos (n_lt.mp hneg), x3, oBs, oBs]
    · have P1 : IsPu k (u.2.1 31) (moC u 4) (w3.2.1 31) := by
        have := p3.cg mo2
        rw [f12.a 31 rfl] at this
        rw [fm.a 31 rfl]
        exact this
      have P2 : IsPu k (u.2.1 63) (u.2.1 55) (w3.2.1 63) := by
        refine pu_m (g := w2.2.1 63) (fun j i hi => ?_) s3 hk
        rw [y2.a 63 rfl, s1 j i hi]
        show (if j = k then u3.2.1 55 i else u3.2.1 63 (26 * j + i)) = _
        rw [f13.a 55 rfl, f13.a 63 rfl]
      refine fin_act (m' := m') hW hR ((f13.mono rfl rfl rfl).trans (fm.mono rfl rfl rfl)) c2.2.2.2.2.1 ((c2.2.2.2.2.2.fm f3 rfl rfl).fm fm rfl rfl) (d2.2.2.2.2.2.fm y3 rfl) (past_push ⟨hd.2.2.2.2.1, hd.2.2.2.2.2.1⟩ hk pp hmom.1 hmom.2 P1 P2 ((fm.i 7 3 rfl).trans k3) kk3) ⟨h0, (by omega), ?_⟩ (hr_push hk P1 hh2 ⟨h0, hh0, eh⟩) ⟨kt, g6, ?_, ?_, fun j hj => ?_⟩
      · rw [fm.i 4 4 rfl, f13.i 4 4 rfl]; exact eh
      · rw [fm.i 8 1 rfl, f13.i 8 1 rfl]; exact to1
      · rw [fm.i 47 1 rfl, f13.i 47 1 rfl]; exact to2
      · rw [fm.j 33 rfl, f13.j 33 rfl, fm.j 48 rfl, f13.j 48 rfl]; exact to3 j hj
/-! the acts themselves, also for day -/
abbrev AcC (A : US → Option (Int32 × US)) (D : DD) (m : MM) (a : Int32) (m' : MM) : Prop := ∀ w, Cw D m 4 w → ∃ v, A w = some (a, v) ∧ Cw D m' 4 v ∧ Fm [(4, 3)] [22, 23, 24] [] w v
abbrev AcM (B : US → Option (Int32 × US)) (D : DD) (m : MM) (a : Int32) (m' : MM) : Prop := ∀ w, Mw D m 55 w → ∃ v, B w = some (a, v) ∧ Mw D m' 55 v ∧ Fm [] [55] [] w v
theorem hang_a (hd : DatO D) (hm : MoOK D m) (a1 a2 : Int32) : ∃ a m', AcC (fX11_hangPane a1 a2) D m a m' ∧ AcM (fX12_hangs 55 a1 a2) D m a m' ∧ mT m' = mT m := by
  have b := hd.1
  have b1 := b.2.2.2.2.2.1
  have b2 := b.2.2.2.2.2.2
  by_cases h1 : isIx (dP D) a1
  · obtain ⟨p, hp, rfl⟩ := h1
    by_cases h2 : isIx (dM D) a2
    · obtain ⟨r, hr, rfl⟩ := h2
      by_cases q : mO m p = some r
      · refine ⟨-2, m, fun w hw => ⟨w, ?_, hw, Fm.rf⟩, fun w hw => ⟨w, ?_, hw, Fm.rf⟩, rfl⟩
        · unfold fX11_hangPane
          rw [isP_cy hw hp, oBs, if_neg (by decide), isR_cy hw hr, oBs, if_neg (by decide), gdi (show p < 8 by omega) (by omega), show gA w 24 (nI p) = _ from hw.gO hp, if_pos ((hV_eq (by omega) (hw.oo hp)).mpr q)]
        · unfold fX12_hangs
          rw [gd_t hw.im, isP_my hw hp, oBs, if_neg (by decide), isR_my hw hr, oBs, if_neg (by decide), ad16, hw.l, gdi (show 16 + p < 26 by omega) (by omega), hw.gO hp, if_pos ((hV_eq (by omega) (hw.oo hp)).mpr q)]
      · refine ⟨nI (pcN (huN D (mSO m p (some r)) (some r))), mSO m p (some r), fun w hw => ?_, fun w hw => ?_, rfl⟩
        · have hw2 : Cw D (mSO m p (some r)) 4 (sA w 24 (nI p) (nI r)) := hw.sO hp (x := some r) (fun r' h => by cases h; exact hr)
          refine ⟨_, ?_, hw2, Fm.rf.sA rfl⟩
          unfold fX11_hangPane
          rw [isP_cy hw hp, oBs, if_neg (by decide), isR_cy hw hr, oBs, if_neg (by decide), gdi (show p < 8 by omega) (by omega), show gA w 24 (nI p) = _ from hw.gO hp, if_neg (fun w1 => q ((hV_eq (by omega) (hw.oo hp)).mp w1)), gdi (show p < 8 by omega) (by omega), nxs, pIn_c hw2 hr, oBs, bc_n (huN_256 (by omega)), oBs]
        · have hw2 : Mw D (mSO m p (some r)) 55 (sA w 55 (nI (16 + p)) (nI r)) := hw.sO hp (x := some r) (fun r' h => by cases h; exact hr)
          refine ⟨_, ?_, hw2, Fm.rf.sA rfl⟩
          unfold fX12_hangs
          rw [gd_t hw.im, isP_my hw hp, oBs, if_neg (by decide), isR_my hw hr, oBs, if_neg (by decide), ad16, hw.l, gdi (show 16 + p < 26 by omega) (by omega), hw.gO hp, if_neg (fun w1 => q ((hV_eq (by omega) (hw.oo hp)).mp w1)), gdi (show 16 + p < 26 by omega) (by omega), nxs, pOf_m hw2 hr, oBs, bc_n (huN_256 (by omega)), oBs]
    · refine ⟨-1, m, fun w hw => ⟨w, ?_, hw, Fm.rf⟩, fun w hw => ⟨w, ?_, hw, Fm.rf⟩, rfl⟩
      · unfold fX11_hangPane
        rw [isP_cy hw hp, oBs, if_neg (by decide), isR_cn hw h2, oBs, if_pos rfl]
      · unfold fX12_hangs
        rw [gd_t hw.im, isP_my hw hp, oBs, if_neg (by decide), isR_mn hw h2, oBs, if_pos rfl]
  · refine ⟨-1, m, fun w hw => ⟨w, ?_, hw, Fm.rf⟩, fun w hw => ⟨w, ?_, hw, Fm.rf⟩, rfl⟩
    · unfold fX11_hangPane
      rw [isP_cn hw h1, oBs, if_pos rfl]
    · unfold fX12_hangs
      rw [gd_t hw.im, isP_mn hw h1, oBs, if_pos rfl]
theorem sO_same {p : Nat} {x : Option Nat} (h : mO m p = x) : mEq D (mSO m p x) m := ⟨fun _ _ => rfl, fun _ _ => rfl, fun i hi => by show uN' (mO m) p x i = _; unfold uN'; split; rename_i q; rw [q]; exact h.symm; rfl, rfl, rfl⟩
theorem takes_a (hd : DatO D) (hm : MoOK D m) (a1 : Int32) : ∃ a m', AcC (fX11_takeDown a1) D m a m' ∧ AcM (fX12_takesDown a1) D m a m' ∧ mT m' = mT m := by
  have b := hd.1
  have b1 := b.2.2.2.2.2.1
  have b2 := b.2.2.2.2.2.2
  by_cases h1 : isIx (dP D) a1
  · obtain ⟨p, hp, rfl⟩ := h1
    have hno : ∀ r, (none : Option Nat) = some r → r < dM D := fun r h => by cases h
    cases q : mO m p with
    | none =>
      refine ⟨-2, m, fun w hw => ⟨w, ?_, hw, Fm.rf⟩, fun w hw => ⟨sA w 55 (nI (16 + p)) (-1), ?_, (hw.sO hp hno).cg (sO_same q), Fm.rf.sA rfl⟩, rfl⟩
      · unfold fX11_takeDown
        rw [isP_cy hw hp, oBs, if_neg (by decide), gdi (show p < 8 by omega) (by omega), show gA w 24 (nI p) = _ from hw.gO hp, q, if_pos (show hV none = -1 from rfl)]
      · unfold fX12_takesDown
        rw [isP_my hw hp, oBs, if_neg (by decide), ad16, gdi (show 16 + p < 26 by omega) (by omega), gdi (show 16 + p < 26 by omega) (by omega), nxs, hw.gO hp, q, if_neg (show ¬ 0 ≤ hV none by decide)]
    | some r =>
      have hr : r < dM D := hm.2.2.1 p hp r q
      refine ⟨nI r, mSO m p none, fun w hw => ⟨sA w 24 (nI p) (-1), ?_, hw.sO hp hno, Fm.rf.sA rfl⟩, fun w hw => ⟨sA w 55 (nI (16 + p)) (-1), ?_, hw.sO hp hno, Fm.rf.sA rfl⟩, rfl⟩
      · unfold fX11_takeDown
        rw [isP_cy hw hp, oBs, if_neg (by decide), gdi (show p < 8 by omega) (by omega), show gA w 24 (nI p) = _ from hw.gO hp, q, if_neg (show ¬ hV (some r) = -1 from n31 (by omega)), gdi (show p < 8 by omega) (by omega), nxs]; rfl
      · unfold fX12_takesDown
        rw [isP_my hw hp, oBs, if_neg (by decide), ad16, gdi (show 16 + p < 26 by omega) (by omega), gdi (show 16 + p < 26 by omega) (by omega), nxs, hw.gO hp, q, if_pos (show 0 ≤ hV (some r) from nI_pos' (by omega))]; rfl
  · refine ⟨-1, m, fun w hw => ⟨w, ?_, hw, Fm.rf⟩, fun w hw => ⟨w, ?_, hw, Fm.rf⟩, rfl⟩
    · unfold fX11_takeDown
      rw [isP_cn hw h1, oBs, if_pos rfl]
    · unfold fX12_takesDown
      rw [isP_mn hw h1, oBs, if_pos rfl]
theorem ball_a (hd : DatO D) (hm : MoOK D m) (a1 : Int32) : ∃ a m', AcC (fX11_breakPane a1) D m a m' ∧ AcM (fX12_breaks 55 a1) D m a m' ∧ mT m' = mT m := by
  have b := hd.1
  have b1 := b.2.2.2.2.2.1
  have hB := hm.b256 hd
  by_cases h1 : isIx (dP D) a1
  · obtain ⟨p, hp, rfl⟩ := h1
    have hx : mB m ||| 2 ^ p < 2 ^ dP D := or_pow hm.2.2.2 hp
    have hx8 : mB m ||| 2 ^ p < 256 := Nat.lt_of_lt_of_le hx (pow8 b1)
    cases q : (mB m).testBit p with
    | true =>
      refine ⟨-2, m, fun w hw => ⟨w, ?_, hw, Fm.rf⟩, fun w hw => ⟨w, ?_, hw, Fm.rf⟩, rfl⟩
      · unfold fX11_breakPane
        rw [isP_cy hw hp, oBs, if_neg (by decide), broken_c hw hp, oBs, q, if_neg (show ¬ bI true = 0 by decide)]
      · unfold fX12_breaks
        rw [gd_t hw.im, isP_my hw hp, oBs, if_neg (by decide), hw.l, gd_t (show inb 24 26 = true from rfl), hw.gB, has_m (by omega) (by omega), oBs, q, if_neg (show ¬ bI true = 0 by decide)]
    | false =>
      refine ⟨nI (pcN (mB m ||| 2 ^ p)), mSB m (mB m ||| 2 ^ p), fun w hw => ⟨_, ?_, hw.sB hx, Fm.rf.sI rfl⟩, fun w hw => ⟨_, ?_, hw.sB hx, Fm.rf.sA rfl⟩, rfl⟩
      · unfold fX11_breakPane
        rw [isP_cy hw hp, oBs, if_neg (by decide), broken_c hw hp, oBs, q, if_pos (show bI false = 0 from rfl), hw.gB, or_b (by omega), nxs, show gI (sI w 4 3 (nI (mB m ||| 2 ^ p))) 4 3 = nI (mB m ||| 2 ^ p) from rfl, bc_n hx8, oBs]
      · have hw2 := hw.sB hx
        unfold fX12_breaks
        rw [gd_t hw.im, isP_my hw hp, oBs, if_neg (by decide), hw.l, gd_t (show inb 24 26 = true from rfl), hw.gB, has_m (by omega) (by omega), oBs, q, if_pos (show bI false = 0 from rfl), gd_t (show inb 24 26 = true from rfl), gd_t (show inb 24 26 = true from rfl), hw.gB, or_b (by omega), nxs, gd_t (show inb 24 26 = true from rfl), hw2.gB, show mB (mSB m (mB m ||| 2 ^ p)) = mB m ||| 2 ^ p from rfl, bc_n hx8, oBs]
  · refine ⟨-1, m, fun w hw => ⟨w, ?_, hw, Fm.rf⟩, fun w hw => ⟨w, ?_, hw, Fm.rf⟩, rfl⟩
    · unfold fX11_breakPane
      rw [isP_cn hw h1, oBs, if_pos rfl]
    · unfold fX12_breaks
      rw [gd_t hw.im, isP_mn hw h1, oBs, if_pos rfl]
theorem carry_a (hd : DatO D) (hm : MoOK D m) (a1 a2 a3 : Int32) : ∃ a m', AcC (fX11_carryThing a1 a2 a3) D m a m' ∧ AcM (fX12_carries a1 a2 a3) D m a m' ∧ mT m' = mT m := by
  have b := hd.1
  have b1 := b.2.2.2.2.1
  have hRC := hd.RC
  by_cases h1 : isIx (dT D) a1
  · obtain ⟨t, ht, rfl⟩ := h1
    by_cases h2 : isIx (dR D * dC D) a2
    · obtain ⟨f, hf, rfl⟩ := h2
      by_cases h3 : 0 ≤ a3 ∧ a3 ≤ 4
      · obtain ⟨h, hh, rfl⟩ := nI_rng (n := 4) (M := 4) rfl h3
        refine ⟨nI (mF m t), mSH (mSF m t f) t h, fun w hw => ⟨_, ?_, (hw.sF ht hf).sH ht (x := h) (by omega), (Fm.rf.sA rfl).sA rfl⟩, fun w hw => ⟨_, ?_, (hw.sF ht hf).sH ht (x := h) (by omega), (Fm.rf.sA rfl).sA rfl⟩, rfl⟩
        · unfold fX11_carryThing
          rw [isT_cy hw ht, oBs, if_neg (by decide), isF_cy hw hf, oBs, if_neg (by decide), if_neg (nI_pos (by omega)), if_pos (show nI h < (5 : Int32) from nI_lt (b := 5) (by omega) (by omega)), gdi (show t < 8 by omega) (by omega), gdi (show t < 8 by omega) (by omega), nxs, gdi (show t < 8 by omega) (by omega), nxs, show gA w 22 (nI t) = _ from hw.gF ht]; rfl
        · unfold fX12_carries
          rw [isT_my hw ht, oBs, if_neg (by decide), isF_my hw hf, oBs, if_neg (by decide), in_0_4, if_pos h3, oBs, if_neg (by decide), gdi (show t < 26 by omega) (by omega), gdi (show t < 26 by omega) (by omega), nxs, ad8, gdi (show 8 + t < 26 by omega) (by omega), nxs, hw.gF ht]
      · refine ⟨-1, m, fun w hw => ⟨w, ?_, hw, Fm.rf⟩, fun w hw => ⟨w, ?_, hw, Fm.rf⟩, rfl⟩
        · unfold fX11_carryThing
          rw [isT_cy hw ht, oBs, if_neg (by decide), isF_cy hw hf, oBs, if_neg (by decide)]
          by_cases q : a3 < 0
          · rw [if_pos q]
          · rw [if_neg q, if_neg (fun w1 => h3 ⟨n_lt.mp q, by
              rw [fa_lt] at w1; rw [fa_le]
              have e0 : (5 : Int32).toInt = 5 := rfl
              have e1 : (4 : Int32).toInt = 4 := rfl
              omega⟩)]
        · unfold fX12_carries
          rw [isT_my hw ht, oBs, if_neg (by decide), isF_my hw hf, oBs, if_neg (by decide), in_0_4, if_neg h3, oBs, if_pos rfl]
    · refine ⟨-1, m, fun w hw => ⟨w, ?_, hw, Fm.rf⟩, fun w hw => ⟨w, ?_, hw, Fm.rf⟩, rfl⟩
      · unfold fX11_carryThing
        rw [isT_cy hw ht, oBs, if_neg (by decide), isF_cn hw h2, oBs, if_pos rfl]
      · unfold fX12_carries
        rw [isT_my hw ht, oBs, if_neg (by decide), isF_mn hw h2, oBs, if_pos rfl]
  · refine ⟨-1, m, fun w hw => ⟨w, ?_, hw, Fm.rf⟩, fun w hw => ⟨w, ?_, hw, Fm.rf⟩, rfl⟩
    · unfold fX11_carryThing
      rw [isT_cn hw h1, oBs, if_pos rfl]
    · unfold fX12_carries
      rw [isT_mn hw h1, oBs, if_pos rfl]
theorem st_11 : St_11 Inv := by
  intro n a1 a2 u hn hI
  obtain ⟨D, m, hW, hR⟩ := Inv_to hI
  obtain ⟨a, m', h1, h2, _⟩ := hang_a hW.1 hW.2.2.2.2.1 a1 a2
  exact act_ok hW hR h1 h2
theorem st_12 : St_12 Inv := by
  intro n a1 u hn hI
  obtain ⟨D, m, hW, hR⟩ := Inv_to hI
  obtain ⟨a, m', h1, h2, _⟩ := takes_a hW.1 hW.2.2.2.2.1 a1
  exact act_ok hW hR h1 h2
theorem st_13 : St_13 Inv := by
  intro n a1 u hn hI
  obtain ⟨D, m, hW, hR⟩ := Inv_to hI
  obtain ⟨a, m', h1, h2, _⟩ := ball_a hW.1 hW.2.2.2.2.1 a1
  exact act_ok hW hR h1 h2
theorem st_14 : St_14 Inv := by
  intro n a1 a2 a3 u hn hI
  obtain ⟨D, m, hW, hR⟩ := Inv_to hI
  obtain ⟨a, m', h1, h2, _⟩ := carry_a hW.1 hW.2.2.2.2.1 a1 a2 a3
  exact act_ok hW hR h1 h2
