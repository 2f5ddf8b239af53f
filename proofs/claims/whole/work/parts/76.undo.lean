/-! undo, keep, again -/
variable {D : DD} {m m' : MM} {e r : Nat} {u v : US}
theorem undo26 {k : Nat} (hk : k < 15) (h : gI u 47 30 = nI k) : ∃ v, fX12_undo_26 FU 0 u = some (nI k, v) ∧ (∀ i, i < 26 → v.2.1 55 i = slotF (u.2.1 63) k i) ∧ Fm [] [55] [] u v := by
  refine lpE (fun f (x : Int32) w => fX12_undo_26 f x w) 26 (fun i => nI i) (fun n w => (∀ i, i < n → w.2.1 55 i = slotF (u.2.1 63) k i) ∧ Fm [] [55] [] u w) (fun o => ∃ v, o = some (nI k, v) ∧ (∀ i, i < 26 → v.2.1 55 i = slotF (u.2.1 63) k i) ∧ Fm [] [55] [] u v) ?_ ?_ (by omega) 0 rfl ⟨fun i hi => absurd hi (Nat.not_lt_zero i), Fm.rf⟩
  · rintro f n w hn ⟨hw, hf⟩
    left
    have e1 : gI w 47 30 = nI k := (hf.i 47 30 rfl).trans h
    rw [fX12_undo_26, if_neg (show ¬ (26 : Int32) ≤ nI n from nI_ge (b := 26) hn (by omega)), e1, show (26 : Int32) * nI k = nI (26 * k) from pk_mul 26 k, nI_add, gdi (show 26 * k + n < 416 by omega) (by omega), gdi hn (by omega), nxs, nI_1]
    refine ⟨_, ⟨fun i hi => ?_, hf.sA rfl⟩, rfl⟩
    show upd (w.2.1 55) (nI n).toNatClampNeg (w.2.1 63 (nI (26 * k + n)).toNatClampNeg) i = _
    rw [nI_clamp (by omega), nI_clamp (by omega), hf.a 63 rfl]
    by_cases q : i = n
    · subst q; rw [pk_us]; rfl
    · rw [pk_un q]; exact hw i (by omega)
  · rintro f w ⟨hw, hf⟩
    rw [fX12_undo_26, if_pos (show (26 : Int32) ≤ nI 26 by decide), show gI w 47 30 = _ from (hf.i 47 30 rfl).trans h]
    exact ⟨w, rfl, hw, hf⟩
theorem again43 {k : Nat} (hk : k < 3) : ∃ v, fX12_again_43 (nI k) FU 0 u = some (1, v) ∧ gI v 47 30 = 0 ∧ (∀ i, i < 26 → v.2.1 55 i = slotF (u.2.1 84) k i) ∧ Fm [(47, 30)] [55] [] u v := by
  refine lpE (fun f (x : Int32) w => fX12_again_43 (nI k) f x w) 26 (fun i => nI i) (fun n w => (∀ i, i < n → w.2.1 55 i = slotF (u.2.1 84) k i) ∧ Fm [(47, 30)] [55] [] u w) (fun o => ∃ v, o = some (1, v) ∧ gI v 47 30 = 0 ∧ (∀ i, i < 26 → v.2.1 55 i = slotF (u.2.1 84) k i) ∧ Fm [(47, 30)] [55] [] u v) ?_ ?_ (by omega) 0 rfl ⟨fun i hi => absurd hi (Nat.not_lt_zero i), Fm.rf⟩
  · rintro f n w hn ⟨hw, hf⟩
    left
    rw [fX12_again_43, if_neg (show ¬ (26 : Int32) ≤ nI n from nI_ge (b := 26) hn (by omega)), show (26 : Int32) * nI k = nI (26 * k) from pk_mul 26 k, nI_add, gdi (show 26 * k + n < 78 by omega) (by omega), gdi hn (by omega), nxs, nI_1]
    refine ⟨_, ⟨fun i hi => ?_, hf.sA rfl⟩, rfl⟩
    show upd (w.2.1 55) (nI n).toNatClampNeg (w.2.1 84 (nI (26 * k + n)).toNatClampNeg) i = _
    rw [nI_clamp (by omega), nI_clamp (by omega), hf.a 84 rfl]
    by_cases q : i = n
    · subst q; rw [pk_us]; rfl
    · rw [pk_un q]; exact hw i (by omega)
  · rintro f w ⟨hw, hf⟩
    rw [fX12_again_43, if_pos (show (26 : Int32) ≤ nI 26 by decide), nxs]
    exact ⟨_, rfl, rfl, hw, hf.sI rfl⟩
theorem keep38 {k : Nat} (hk : k < 3) : ∃ v, fX12_keep_38 (nI k) FU 0 u = some (1, v) ∧ (∀ j i, i < 26 → v.2.1 84 (26 * j + i) = if j = k then u.2.1 55 i else u.2.1 84 (26 * j + i)) ∧ Fm [] [84] [] u v := by
  refine lpE (fun f (x : Int32) w => fX12_keep_38 (nI k) f x w) 26 (fun i => nI i) (fun n w => (∀ j i, i < 26 → w.2.1 84 (26 * j + i) = if j = k ∧ i < n then u.2.1 55 i else u.2.1 84 (26 * j + i)) ∧ Fm [] [84] [] u w) (fun o => ∃ v, o = some (1, v) ∧ (∀ j i, i < 26 → v.2.1 84 (26 * j + i) = if j = k then u.2.1 55 i else u.2.1 84 (26 * j + i)) ∧ Fm [] [84] [] u v) ?_ ?_ (by omega) 0 rfl ⟨fun j i _ => by rw [if_neg (fun q => absurd q.2 (Nat.not_lt_zero i))], Fm.rf⟩
  · rintro f n w hn ⟨hw, hf⟩
    left
    rw [fX12_keep_38, if_neg (show ¬ (26 : Int32) ≤ nI n from nI_ge (b := 26) hn (by omega)), gdi hn (by omega), show (26 : Int32) * nI k = nI (26 * k) from pk_mul 26 k, nI_add, gdi (show 26 * k + n < 78 by omega) (by omega), nxs, nI_1]
    refine ⟨_, ⟨fun j i hi => ?_, hf.sA rfl⟩, rfl⟩
    show upd (w.2.1 84) (nI (26 * k + n)).toNatClampNeg (w.2.1 55 (nI n).toNatClampNeg) (26 * j + i) = _
    rw [nI_clamp (by omega), nI_clamp (by omega), hf.a 55 rfl]
    by_cases q : j = k ∧ i = n
    · rw [q.1, q.2, pk_us, if_pos ⟨rfl, (by omega)⟩]
    · rw [pk_un (by omega), hw j i hi]
      by_cases q1 : j = k ∧ i < n
      · rw [if_pos q1, if_pos ⟨q1.1, (by omega)⟩]
      · rw [if_neg q1, if_neg (fun q2 => by omega)]
  · rintro f w ⟨hw, hf⟩
    rw [fX12_keep_38, if_pos (show (26 : Int32) ≤ nI 26 by decide)]
    refine ⟨w, rfl, fun j i hi => ?_, hf⟩
    rw [hw j i hi]
    by_cases q : j = k
    · rw [if_pos ⟨q, hi⟩, if_pos q]
    · rw [if_neg (fun q2 => q q2.1), if_neg q]
theorem isMo_cg (hd : DatO D) {f g : Nat → Int32} (h : isMo D m f) (e : ∀ i, i < 26 → g i = f i) : isMo D m g := by
  have b := hd.1
  have b1 := b.2.2.2.2.1
  have b2 := b.2.2.2.2.2.1
  obtain ⟨h1, h2, h3, h4, h5⟩ := h
  exact ⟨fun t ht => by rw [e _ (by omega)]; exact h1 t ht, fun t ht => by rw [e _ (by omega)]; exact h2 t ht, fun t ht => by rw [e _ (by omega)]; exact h3 t ht, by rw [e _ (by omega)]; exact h4, by rw [e _ (by omega)]; exact h5⟩
theorem st_17 : St_17 Inv := by
  intro n u hn hI
  obtain ⟨D, m, hW, hR⟩ := Inv_to hI
  have hR' := hR
  obtain ⟨g1, ⟨k, hk, pa, pb, pp⟩, ⟨g3, hh1, hh2, hh3⟩, g6, g7⟩ := hR'
  unfold fX11_undo fX4_pop fX12_undo
  rw [gd_t (show isMom 4 = true from rfl), show gI u 7 3 = nI k from pa]
  by_cases q : k = 0
  · subst q
    rw [if_pos (show nI 0 = 0 from rfl)]
    refine ⟨-1, u, sI u 47 0 0, rfl, ?_, q_no hI⟩
    rw [nxs, show gI (sI u 47 0 0) 47 30 = nI 0 from pb, if_pos (show nI 0 = 0 from rfl)]
  · obtain ⟨j, rfl⟩ : ∃ j, k = j + 1 := ⟨k - 1, (by omega)⟩
    rw [if_neg (nI_ne0 (by omega) (by omega)), m1n, nxs, show gI (sI u 7 3 (nI j)) 7 3 = nI j from rfl, read_31 (u := sI u 7 3 (nI j)) (by omega), oVs, oBs]
    have f1 : Fm [(7, 3), (4, 3), (4, 4)] [22, 23, 24] [] u (rdU (sI u 7 3 (nI j)) (u.2.1 31) j) := (Fm.rf.sI rfl).trans (rdU_f.mono rfl rfl rfl)
    have key := mo_of (D := D) hW.1.1 (pp j (by omega)).1 (pp j (by omega)).2
    have k0 : Fm [(47, 0), (47, 30)] [] [] (rdU (sI u 7 3 (nI j)) (u.2.1 31) j) (sI (sI (rdU (sI u 7 3 (nI j)) (u.2.1 31) j) 47 0 0) 47 30 (nI j)) := (Fm.rf.sI rfl).sI rfl
    obtain ⟨w, e1, s1, y1⟩ := undo26 (u := sI (sI (rdU (sI u 7 3 (nI j)) (u.2.1 31) j) 47 0 0) 47 30 (nI j)) (k := j) (by omega) rfl
    refine ⟨nI j, rdU (sI u 7 3 (nI j)) (u.2.1 31) j, w, rfl, ?_, ?_⟩
    · rw [nxs, show gI (sI (rdU (sI u 7 3 (nI j)) (u.2.1 31) j) 47 0 0) 47 30 = nI (j + 1) from pb, if_neg (nI_ne0 (by omega) (by omega)), m1n, nxs, e1]
    · have fm : Fm [(47, 0), (47, 30)] [55] [] (rdU (sI u 7 3 (nI j)) (u.2.1 31) j) w := (k0.mono rfl rfl rfl).trans (y1.mono rfl rfl rfl)
      have e63 : (rdU (sI u 7 3 (nI j)) (u.2.1 31) j).2.1 63 = u.2.1 63 := f1.a 63 rfl
      refine fin_act (m' := moOf (slotF (u.2.1 31) j)) hW hR ((f1.mono rfl rfl rfl).trans (fm.mono rfl rfl rfl)) key.1 ((rdU_mo hW.1 key.2.1).fm fm rfl rfl) (isMo_cg hW.1 key.2.2 (fun i hi => ?_)) ⟨j, (by omega), ?_, ?_, fun i hi => ?_⟩ ?_ (fun i hi => ?_) ?_
      · rw [s1 i hi]
        show slotF ((rdU (sI u 7 3 (nI j)) (u.2.1 31) j).2.1 63) j i = _
        rw [e63]
      · rw [fm.i 7 3 rfl]; rfl
      · rw [y1.i 47 30 rfl]; rfl
      · rw [fm.a 31 rfl, f1.a 31 rfl, fm.a 63 rfl, f1.a 63 rfl]; exact pp i (by omega)
      · obtain ⟨h, h1, h2⟩ := hh2 j (by omega)
        refine ⟨h, (by omega), ?_⟩
        rw [fm.i 4 4 rfl]
        show u.2.1 31 (j * 26 + 25) = _
        rw [Nat.mul_comm]; exact h2
      · obtain ⟨h, h1, h2⟩ := hh2 i hi
        refine ⟨h, (by omega), ?_⟩
        rw [fm.a 31 rfl, f1.a 31 rfl]; exact h2
      · rw [fm.i 8 1 rfl, f1.i 8 1 rfl, fm.i 47 1 rfl, f1.i 47 1 rfl, fm.j 33 rfl, f1.j 33 rfl, fm.j 48 rfl, f1.j 48 rfl]; exact g6
theorem in2 {v : Int32} : (0 ≤ v ∧ v ≤ 2) ↔ ∃ j : Nat, j < 3 ∧ v = nI j := by
  constructor
  · intro h
    obtain ⟨j, hj, e⟩ := nI_rng (n := 2) (M := 2) rfl h
    exact ⟨j, (by omega), e⟩
  · rintro ⟨j, hj, rfl⟩
    exact ⟨nI_pos' (by omega), (show nI j ≤ (2 : Int32) from nI_le (b := 2) (by omega) (by omega))⟩
theorem st_41 : St_41 Inv := by
  intro n a u hn hI
  obtain ⟨D, m, hW, hR⟩ := Inv_to hI
  have hR' := hR
  obtain ⟨g1, ⟨k, hk, pa, pb, pp⟩, ⟨⟨c, kb, g3, ec, hkb, ekb, g4⟩, hh1, hh2, hh3⟩, g6, g7⟩ := hR'
  unfold fX11_again fX4_restore
  rw [gd_t (show isMom 4 = true from rfl)]
  by_cases h : 0 ≤ a ∧ a ≤ 2
  · obtain ⟨j, hj, rfl⟩ := in2.mp h
    obtain ⟨q1, ⟨d, hd, ed⟩, q3, q4⟩ := g4 j hj
    have i3 := inb_nI (show j < 3 by omega) (show 3 < 2 ^ 31 by decide)
    rw [if_neg (nI_pos (by omega)), if_neg (show ¬ (3 : Int32) ≤ nI j from nI_ge (b := 3) hj (by omega)), show gI u 7 2 = nI kb from ekb, has_c (by omega) (by omega), oBs]
    have e82 : gA (sI u 47 0 0) 82 (nI j) = u.2.1 82 j := by show u.2.1 82 (nI j).toNatClampNeg = _; rw [nI_clamp (by omega)]
    have e83 : gA (sI u 47 0 0) 83 (nI j) = u.2.1 83 j := by show u.2.1 83 (nI j).toNatClampNeg = _; rw [nI_clamp (by omega)]
    cases hb : kb.testBit j with
    | false =>
      rw [if_pos (show bI false = 0 from rfl), oBs, gd_t (show isB 0 = true from rfl)]
      refine ⟨0, u, sI u 47 0 0, rfl, ?_, q_no hI⟩
      have hno : ¬ (u.2.1 82 j = 1 ∧ u.2.1 83 j = u.1 47 8) := fun w => by rw [q3.mpr w] at hb; cases hb
      rw [fX12_again, nxs, in_0_2, if_pos h, oBs, if_neg (by decide), gd_t i3, e82]
      rcases q1 with q1 | q1
      · rw [if_pos q1]
      · rw [if_neg (by rw [q1]; decide), gd_t i3, e83, show gI (sI u 47 0 0) 47 8 = u.1 47 8 from rfl, if_neg (fun w => hno ⟨q1, w⟩)]
    | true =>
      obtain ⟨w1, w2⟩ := q3.mp hb
      obtain ⟨p1, p2⟩ := q4 hb
      have key := mo_of (D := D) hW.1.1 p1 p2
      rw [if_neg (show ¬ bI true = 0 by decide), read_32 (u := u) hj, oVs, nxs, oBs, gd_t (show isB 1 = true from rfl)]
      have f1 : Fm [(7, 3), (4, 3), (4, 4)] [22, 23, 24] [] u (sI (rdU u (u.2.1 32) j) 7 3 0) := (rdU_f.mono rfl rfl rfl : Fm [(7, 3), (4, 3), (4, 4)] [22, 23, 24] [] u (rdU u (u.2.1 32) j)).sI rfl
      have k0 : Fm [(47, 0), (47, 30)] [55] [] (sI (rdU u (u.2.1 32) j) 7 3 0) (sI (sI (rdU u (u.2.1 32) j) 7 3 0) 47 0 0) := Fm.rf.sI rfl
      obtain ⟨w, e1, z1, s1, y1⟩ := again43 (u := sI (sI (rdU u (u.2.1 32) j) 7 3 0) 47 0 0) hj
      refine ⟨1, sI (rdU u (u.2.1 32) j) 7 3 0, w, rfl, ?_, ?_⟩
      · rw [fX12_again, nxs, in_0_2, if_pos h, oBs, if_neg (by decide), gd_t i3, show gA (sI (sI (rdU u (u.2.1 32) j) 7 3 0) 47 0 0) 82 (nI j) = 1 from e82.trans w1, if_neg (by decide), gd_t i3, show gA (sI (sI (rdU u (u.2.1 32) j) 7 3 0) 47 0 0) 83 (nI j) = u.1 47 8 from e83.trans w2, show gI (sI (sI (rdU u (u.2.1 32) j) 7 3 0) 47 0 0) 47 8 = u.1 47 8 from rfl, if_pos rfl, e1]
      · have fm : Fm [(47, 0), (47, 30)] [55] [] (sI (rdU u (u.2.1 32) j) 7 3 0) w := k0.trans (y1.mono rfl rfl rfl)
        have hmc : MoC D (moOf (slotF (u.2.1 32) j)) 4 (sI (rdU u (u.2.1 32) j) 7 3 0) := (rdU_mo hW.1 key.2.1).fm (a := [(7, 3)]) (b := []) (c := []) (Fm.rf.sI rfl) rfl rfl
        refine fin_act (m' := moOf (slotF (u.2.1 32) j)) hW hR ((f1.mono rfl rfl rfl).trans (fm.mono rfl rfl rfl)) key.1 (hmc.fm fm rfl rfl) (isMo_cg hW.1 key.2.2 (fun i hi => s1 i hi)) ⟨0, (by omega), ?_, z1, fun i hi => absurd hi (Nat.not_lt_zero i)⟩ ?_ (fun i hi => ?_) ?_
        · rw [fm.i 7 3 rfl]; rfl
        · obtain ⟨h, h1, h2⟩ := hh3 j hj
          refine ⟨h, (by omega), ?_⟩
          rw [fm.i 4 4 rfl]
          show u.2.1 32 (j * 26 + 25) = _
          rw [Nat.mul_comm]; exact h2
        · obtain ⟨h, h1, h2⟩ := hh2 i hi
          refine ⟨h, (by omega), ?_⟩
          rw [fm.a 31 rfl, f1.a 31 rfl]; exact h2
        · rw [fm.i 8 1 rfl, f1.i 8 1 rfl, fm.i 47 1 rfl, f1.i 47 1 rfl, fm.j 33 rfl, f1.j 33 rfl, fm.j 48 rfl, f1.j 48 rfl]; exact g6
  · refine ⟨0, u, sI u 47 0 0, ?_, ?_, q_no hI⟩
    · by_cases q : a < 0
      · rw [if_pos q]; rfl
      · rw [if_neg q, if_pos]
        · rfl
        · rw [fa_lt] at q; rw [fa_le]
          rw [fa_le, fa_le] at h
          have e0 : (0 : Int32).toInt = 0 := rfl
          have e2 : (2 : Int32).toInt = 2 := rfl
          have e3 : (3 : Int32).toInt = 3 := rfl
          omega
    · rw [fX12_again, nxs, in_0_2, if_neg h, oBs, if_pos rfl]
theorem tb_or2 (a j i : Nat) : (a ||| 2 ^ j).testBit i = (a.testBit i || decide (i = j)) := fb_bit_set a j i
theorem st_40 : St_40 Inv := by
  intro n a u hn hI
  obtain ⟨D, m, hW, hR⟩ := Inv_to hI
  have hmom := hW.mom
  have hd := hW.1.1
  obtain ⟨g1, g2, ⟨⟨c, kb, g3, ec, hkb, ekb, g4⟩, hh1, hh2, hh3⟩, g6, g7⟩ := hR
  unfold fX11_keep fX4_save
  rw [gd_t (show isMom 4 = true from rfl)]
  by_cases h : 0 ≤ a ∧ a ≤ 2
  · obtain ⟨j, hj, rfl⟩ := in2.mp h
    have i3 := inb_nI (show j < 3 by omega) (show 3 < 2 ^ 31 by decide)
    rw [if_neg (nI_pos (by omega)), if_pos (show nI j < (3 : Int32) from nI_lt (b := 3) hj (by omega)), write_32 hj, oVs, nxs, show gI (sF u 32 (wrF (u.2.1 32) j (moC u 4))) 7 2 = nI kb from ekb, or_b (by omega), oBs, gd_t (show isB 1 = true from rfl)]
    have f1 : Fm [(7, 2)] [32] [] u (sI (sF u 32 (wrF (u.2.1 32) j (moC u 4))) 7 2 (nI (kb ||| 2 ^ j))) := (Fm.rf.sF rfl).sI rfl
    generalize hu1 : sI (sF u 32 (wrF (u.2.1 32) j (moC u 4))) 7 2 (nI (kb ||| 2 ^ j)) = u1 at f1
    have e32 : u1.2.1 32 = wrF (u.2.1 32) j (moC u 4) := by rw [← hu1]; rfl
    have e72 : u1.1 7 2 = nI (kb ||| 2 ^ j) := by rw [← hu1]; rfl
    have k0 : Fm [(47, 0)] [82, 83] [] u1 (sA (sA (sI u1 47 0 0) 82 (nI j) 1) 83 (nI j) (nI c)) := ((Fm.rf.sI rfl).sA rfl).sA rfl
    obtain ⟨w, e1, s1, y1⟩ := keep38 (u := sA (sA (sI u1 47 0 0) 82 (nI j) 1) 83 (nI j) (nI c)) hj
    refine ⟨1, u1, w, rfl, ?_, ?_⟩
    · rw [fX12_keep, nxs, in_0_2, if_pos h, oBs, if_neg (by decide), gd_t i3, nxs, gd_t i3, nxs, show vp_nar .boolean 1 = 1 by decide, show gI (sA (sI u1 47 0 0) 82 (nI j) 1) 47 8 = nI c from (f1.i 47 8 rfl).trans ec, e1]
    · have fm : Fm [(47, 0)] [82, 83, 84] [] u1 w := (k0.mono rfl rfl rfl).trans (y1.mono rfl rfl rfl)
      have fw : Fm [(7, 2), (47, 0)] [32, 82, 83, 84] [] u w := (f1.mono rfl rfl rfl).trans (fm.mono rfl rfl rfl)
      have e82 : w.2.1 82 = upd (u.2.1 82) j 1 := by
        rw [y1.a 82 rfl]
        show upd (u1.2.1 82) (nI j).toNatClampNeg 1 = _
        rw [nI_clamp (by omega), f1.a 82 rfl]
      have e83 : w.2.1 83 = upd (u.2.1 83) j (nI c) := by
        rw [y1.a 83 rfl]
        show upd (u1.2.1 83) (nI j).toNatClampNeg (nI c) = _
        rw [nI_clamp (by omega), f1.a 83 rfl]
      have hk8 : kb ||| 2 ^ j < 2 ^ 3 := Nat.or_lt_two_pow hkb (wb_lt2 hj)
      refine Inv_fr (D := D) (m := m) ⟨hW.1, hW.2.1.fm fw rfl rfl, hW.2.2.1.fm fw rfl rfl, hW.2.2.2.1.fm fw rfl rfl, hW.2.2.2.2.1, hW.2.2.2.2.2.1.fm fw rfl rfl, hW.2.2.2.2.2.2.fm fw rfl⟩ ⟨?_, ?_, ⟨⟨c, kb ||| 2 ^ j, (by omega), ?_, hk8, ?_, fun i hi => ?_⟩, ?_, ?_, fun i hi => ?_⟩, ?_, ?_⟩
      · rw [fw.i 1 1 rfl, fw.i 47 18 rfl, fw.a 15 rfl, fw.a 57 rfl]; exact g1
      · rw [fw.i 7 3 rfl, fw.i 47 30 rfl, fw.a 31 rfl, fw.a 63 rfl]; exact g2
      · rw [fw.i 47 8 rfl]; exact ec
      · rw [fm.i 7 2 rfl]; exact e72
      · obtain ⟨q1, ⟨d, hd', ed⟩, q3, q4⟩ := g4 i hi
        rw [e82, e83, fw.i 47 8 rfl, tb_or2]
        by_cases q : i = j
        · subst q
          rw [pk_us, pk_us, decide_eq_true rfl, Bool.or_true]
          refine ⟨Or.inr rfl, ⟨c, Nat.le_refl _, rfl⟩, ⟨fun _ => ⟨rfl, ec.symm⟩, fun _ => rfl⟩, fun _ => ?_⟩
          have a1 : ∀ x, x < 26 → slotF (w.2.1 32) i x = moC u 4 x := fun x hx => by
            show w.2.1 32 (26 * i + x) = _
            rw [fm.a 32 rfl, e32]
            unfold wrF
            rw [if_pos ⟨(by omega), (by omega)⟩, Nat.add_sub_cancel_left]
          have a2 : ∀ x, x < 26 → slotF (w.2.1 84) i x = u.2.1 55 x := fun x hx => by
            show w.2.1 84 (26 * i + x) = _
            rw [s1 i x hx, if_pos rfl]
            show u1.2.1 55 x = _
            rw [f1.a 55 rfl]
          exact ⟨Mom_cg ⟨hd.2.2.2.2.1, hd.2.2.2.2.2.1⟩ a1 hmom.1, MoE_cg ⟨hd.2.2.2.2.1, hd.2.2.2.2.2.1⟩ a1 a2 hmom.2⟩
        · rw [pk_un q, pk_un q, decide_eq_false q, Bool.or_false]
          refine ⟨q1, ⟨d, hd', ed⟩, q3, fun hb => ?_⟩
          have a1 : ∀ x, x < 26 → slotF (w.2.1 32) i x = slotF (u.2.1 32) i x := fun x hx => by
            show w.2.1 32 (26 * i + x) = u.2.1 32 (26 * i + x)
            rw [fm.a 32 rfl, e32]
            unfold wrF
            rw [if_neg (fun w => by omega)]
          have a2 : ∀ x, x < 26 → slotF (w.2.1 84) i x = slotF (u.2.1 84) i x := fun x hx => by
            show w.2.1 84 (26 * i + x) = u.2.1 84 (26 * i + x)
            rw [s1 i x hx, if_neg q]
            show u1.2.1 84 _ = _
            rw [f1.a 84 rfl]
          exact ⟨Mom_cg ⟨hd.2.2.2.2.1, hd.2.2.2.2.2.1⟩ a1 (q4 hb).1, MoE_cg ⟨hd.2.2.2.2.1, hd.2.2.2.2.2.1⟩ a1 a2 (q4 hb).2⟩
      · obtain ⟨h, h1, h2⟩ := hh1
        exact ⟨h, (by omega), by rw [fw.i 4 4 rfl]; exact h2⟩
      · intro i hi
        obtain ⟨h, h1, h2⟩ := hh2 i hi
        exact ⟨h, (by omega), by rw [fw.a 31 rfl]; exact h2⟩
      · rw [fm.a 32 rfl, e32]
        unfold wrF
        by_cases q : i = j
        · subst q
          obtain ⟨h, h1, h2⟩ := hh1
          refine ⟨h, (by omega), ?_⟩
          rw [if_pos ⟨(by omega), (by omega)⟩, Nat.add_sub_cancel_left]
          exact h2
        · obtain ⟨h, h1, h2⟩ := hh3 i hi
          refine ⟨h, (by omega), ?_⟩
          rw [if_neg (fun w => by omega)]
          exact h2
      · rw [fw.i 8 1 rfl, fw.i 47 1 rfl, fw.j 33 rfl, fw.j 48 rfl]; exact g6
      · rw [fw.i 11 3 rfl, fw.i 47 43 rfl, fw.a 36 rfl, fw.a 37 rfl, fw.a 38 rfl, fw.a 74 rfl, fw.a 75 rfl, fw.a 76 rfl]; exact g7
  · refine ⟨0, u, sI u 47 0 0, ?_, ?_, q_no hI⟩
    · by_cases q : a < 0
      · rw [if_pos q]; rfl
      · rw [if_neg q, if_neg]
        · rfl
        · intro w
          rw [fa_lt] at q w
          rw [fa_le, fa_le] at h
          have e0 : (0 : Int32).toInt = 0 := rfl
          have e2 : (2 : Int32).toInt = 2 := rfl
          have e3 : (3 : Int32).toInt = 3 := rfl
          omega
    · rw [fX12_keep, nxs, in_0_2, if_neg h, oBs, if_pos rfl]
