/-! square -/
variable {D : DD} {m m' : MM} {e r : Nat} {u v : US} {n mo p : Nat} {c : Nat → Nat} {ok : Bool}
theorem tx_of {k : Nat} (h : Inv k u) : ∃ n c, n ≤ 80 ∧ (∀ j, j < n → c j < 256) ∧ (u.1 1 1 = nI n ∧ RowN n (u.2.1 15) c) ∧ (u.1 47 18 = nI n ∧ RowN n (u.2.1 57) c) := by
  obtain ⟨n, hn, ea, eb, ht⟩ := Inv_tx h
  refine ⟨n, fun j => (u.2.1 15 j).toNatClampNeg, hn, fun j hj => ?_, ⟨ea, fun j hj => ?_⟩, eb, fun j hj => ?_⟩ <;> obtain ⟨h1, x, hx, e⟩ := ht j hj
  · show (u.2.1 15 j).toNatClampNeg < 256
    rw [e, nI_clamp (by omega)]; exact hx
  · show u.2.1 15 j = nI (u.2.1 15 j).toNatClampNeg
    rw [e, nI_clamp (by omega)]
  · show u.2.1 57 j = nI (u.2.1 15 j).toNatClampNeg
    rw [← h1, e, nI_clamp (by omega)]
/-- the text is gone, nothing else is changed -/
theorem Inv_gone {k : Nat} (h : Inv k u) (f : Fm ((1, 1) :: (47, 18) :: scrI) scrA scrJ u v) (e1 : v.1 1 1 = 0) (e2 : v.1 47 18 = 0) : Inv (k + 1) v := by
  refine Inv_Fx h (f.mono rfl rfl rfl) ⟨0, (by omega), e1, e2, fun j hj => absurd hj (Nat.not_lt_zero j)⟩ ?_
  rw [f.i 8 1 rfl, f.i 47 1 rfl, f.j 33 rfl, f.j 48 rfl]; exact Inv_told h
abbrev Fg (u v : US) : Prop := Fm ((1, 1) :: (47, 18) :: scrI) scrA scrJ u v
theorem sg_2 (hn : n ≤ 80) (hp : p < 2) {lo k : Nat} : sgO n 2 c lo k p = sgO n 80 c lo k p := by
  unfold sgO
  by_cases q : p < n
  · by_cases w : lo ≤ c p ∧ c p < lo + k
    · rw [if_pos ⟨by omega, w⟩, if_pos ⟨by omega, w⟩]
    · rw [if_neg (fun x => w x.2), if_neg (fun x => w x.2)]
  · rw [if_neg (fun w => by omega), if_neg (fun w => by omega)]
theorem an_f (x : Int32) : anV n p false x = -1 - nI p := rfl
theorem s111 {a b : Int32} : ∃ v, fX12_square_111 FU a b 0 u = some (a * b, v) ∧ (∀ j, j < 3 → v.2.1 82 j = 0) ∧ Fm [] [82] [] u v := by
  refine lpE (fun f (z : Int32) w => fX12_square_111 f a b z w) 3 (fun i => nI i) (fun i w => (∀ j, j < i → w.2.1 82 j = 0) ∧ Fm [] [82] [] u w) (fun o => ∃ v, o = some (a * b, v) ∧ (∀ j, j < 3 → v.2.1 82 j = 0) ∧ Fm [] [82] [] u v) ?_ ?_ (by omega) 0 rfl ⟨fun j hj => absurd hj (Nat.not_lt_zero j), Fm.rf⟩
  · rintro f i w hi ⟨hw, hf⟩
    left
    rw [fX12_square_111, if_neg (show ¬ (3 : Int32) ≤ nI i from nI_ge (b := 3) hi (by omega)), gdi hi (by omega), nxs, nI_1, show vp_nar .boolean 0 = 0 by decide]
    refine ⟨_, ⟨fun j hj => ?_, hf.sA rfl⟩, rfl⟩
    show upd (w.2.1 82) (nI i).toNatClampNeg 0 j = 0
    rw [nI_clamp (by omega)]
    by_cases q : j = i
    · subst q; rw [pk_us]
    · rw [pk_un q]; exact hw j (by omega)
  · rintro f w ⟨hw, hf⟩
    rw [fX12_square_111, if_pos (show (3 : Int32) ≤ nI 3 by decide)]
    exact ⟨w, rfl, hw, hf⟩
theorem neg_le (p : Nat) (hp : p ≤ 80) : (-1 : Int32) - nI p ≤ 0 := by
  rw [fa_le, fb_subI (by rw [nI_toInt (by omega)]; have : (-1 : Int32).toInt = -1 := rfl; omega) (by rw [nI_toInt (by omega)]; have : (-1 : Int32).toInt = -1 := rfl; omega), nI_toInt (by omega)]
  have : (-1 : Int32).toInt = -1 := rfl
  have : (0 : Int32).toInt = 0 := rfl
  omega
theorem st_2 : St_2 Inv := by
  intro k u hk hI
  obtain ⟨n, c, hn, hc, hxc, hxm⟩ := tx_of hI
  have ht2 : Tok n 2 c := ⟨hn, by decide, hc⟩
  have ht8 : Tok n 80 c := ⟨hn, by decide, hc⟩
  obtain ⟨u1, e1, r1, f1⟩ := open_c (mo := 2) hxc
  obtain ⟨u2, e2, r2, f2⟩ := sign_c' ht2 r1 (lo := 49) (k := 6) (by decide) (by decide)
  obtain ⟨u3, e3, r3, f3⟩ := sign_c' ht2 r2 (lo := 49) (k := 6) (by decide) (by decide)
  have fcl : Fm [(2, 1), (2, 2), (2, 3)] [] [] u u3 := (f1.trans (f2.mono rfl rfl rfl)).trans (f3.mono rfl rfl rfl)
  -- a fault: the class's way
  have badC : ∀ q : Nat, q ≤ 80 → (∀ x, ∃ v, fX5_answer x u3 = some (-1 - nI q, v) ∧ Fc u3 v) → ∃ w, fX11_square u = some (-1 - nI q, w) ∧ gI w 1 1 = 0 ∧ Fm [(1, 1), (2, 1), (2, 2), (2, 3)] [] [] u w := by
    intro q hq hA
    obtain ⟨u4, e4, f4⟩ := hA ((1 + nI (sgV (sgO n 2 c 49 6 0) true)) * (1 + nI (sgV (sgO n 2 c 49 6 (sgP (sgO n 2 c 49 6 0) 0 true)) (sgK (sgO n 2 c 49 6 0) true))))
    unfold fX11_square
    rw [show (2 : Int32) = nI 2 from rfl, e1, oVs, show (49 : Int32) = nI 49 from rfl, show (6 : Int32) = nI 6 from rfl, e2, oBs, e3, oBs, e4, oBs, show fX7_clear u4 = some (sI u4 1 1 0) from rfl, oVs, if_pos (neg_le q hq)]
    exact ⟨_, rfl, rfl, ((fcl.mono rfl rfl rfl).trans (f4.mono rfl rfl rfl)).sI rfl⟩
  have badM : ∀ w : US, Fm [(1, 1), (2, 1), (2, 2), (2, 3)] [] [] u w → gI w 1 1 = 0 → ∀ q, (∀ b1, ∃ v, (fX12_begins 80 (sI w 47 0 0) = some (nI n, b1) → Rm n 80 c 0 b1 → gI b1 47 18 = 0 → (oB (fX12_digitIn 1 6 b1) fun r3 u3 => (if 0 ≤ r3 then oB (fX12_digitIn 1 6 u3) fun r4 u4 => fX12_square_35 r3 r4 u4 else fX12_square_35 r3 (-1) u3)) = some (q, v) ∧ Fdm b1 v)) → ∃ z, fX12_square w = some (q, z) ∧ Inv (k + 1) z := by
    intro w hf h0 q hB
    have hxm' : (sI w 47 0 0).1 47 18 = nI n ∧ RowN n ((sI w 47 0 0).2.1 57) c := ⟨(hf.i 47 18 rfl).trans hxm.1, by rw [show (sI w 47 0 0).2.1 57 = w.2.1 57 from rfl, hf.a 57 rfl]; exact hxm.2⟩
    obtain ⟨b1, e5, m5, z5, _, f5⟩ := begins_m (mo := 80) ht8 hxm'
    obtain ⟨v, hv⟩ := hB b1
    obtain ⟨e6, f6⟩ := hv e5 m5 z5
    refine ⟨v, ?_, ?_⟩
    · rw [fX12_square, nxs, show (80 : Int32) = nI 80 from rfl, e5, oBs]; exact e6
    · have ff : Fg u v := (((hf.mono rfl rfl rfl : Fg u w).sI rfl).trans (f5.mono rfl rfl rfl)).trans (f6.mono rfl rfl rfl)
      exact Inv_gone hI ff ((f6.i 1 1 rfl).trans ((f5.i 1 1 rfl).trans h0)) ((f6.i 47 18 rfl).trans z5)
  have six : (6 : Int32) = nI (1 + 6) - 1 := by decide
  have dgm : ∀ {w : US} {p : Nat}, Rm n 80 c p w → ∃ v, fX12_digitIn 1 6 w = some (hV ((sgO n 80 c 49 6 p).map (fun x => x + 1)), v) ∧ Rm n 80 c (adv (sgO n 80 c 49 6 p) p) v ∧ Fdm w v := fun {w p} hw => by
    have := dig_m ht8 hw (lo := 1) (k := 6) (by decide) (by decide)
    rw [← six] at this
    exact this
  cases o1 : sgO n 2 c 49 6 0 with
  | none =>
    have o1' : sgO n 80 c 49 6 0 = none := by rw [← sg_2 hn (by decide)]; exact o1
    have rr : Rc n 2 c 0 false u2 := by rw [o1] at r2; exact r2
    obtain ⟨w, ew, w0, fw⟩ := badC 0 (by omega) (fun x => by
      have r3' : Rc n 2 c 0 false u3 := by
        have := r3
        rw [o1] at this
        unfold sgP sgK at this
        simpa using this
      exact answer_c hn r3' x)
    obtain ⟨z, ez, iz⟩ := badM w fw w0 (-1 - nI 0) (fun b1 => by
      by_cases hb : fX12_begins 80 (sI w 47 0 0) = some (nI n, b1) ∧ Rm n 80 c 0 b1
      · obtain ⟨v, e6, m6, f6⟩ := dgm hb.2
        rw [o1'] at e6 m6
        refine ⟨v, fun _ _ _ => ⟨?_, f6⟩⟩
        rw [e6, oBs, if_neg (show ¬ 0 ≤ hV (Option.map (fun x => x + 1) none) by decide)]
        unfold fX12_square_35
        rw [if_pos (show (-1 : Int32) < 0 by decide), show gI v 47 19 = nI 0 from m6.2.1]
      · exact ⟨b1, fun a b _ => absurd ⟨a, b⟩ hb⟩)
    exact ⟨_, w, z, ew, ez, iz⟩
  | some a =>
    obtain ⟨a0, a1, a2, a3⟩ := sg_hp o1
    have o1' : sgO n 80 c 49 6 0 = some a := by rw [← sg_2 hn (by decide)]; exact o1
    have ep : sgP (sgO n 2 c 49 6 0) 0 true = 1 := by rw [o1]; rfl
    have ek : sgK (sgO n 2 c 49 6 0) true = true := by rw [o1]; rfl
    rw [ep, ek] at r3 e3
    cases o2 : sgO n 2 c 49 6 1 with
    | none =>
      have o2' : sgO n 80 c 49 6 1 = none := by rw [← sg_2 hn (by decide)]; exact o2
      obtain ⟨w, ew, w0, fw⟩ := badC 1 (by omega) (fun x => by
        have r3' : Rc n 2 c 1 false u3 := by
          have := r3
          rw [o2] at this
          exact this
        exact answer_c hn r3' x)
      obtain ⟨z, ez, iz⟩ := badM w fw w0 (-1 - nI 1) (fun b1 => by
        by_cases hb : fX12_begins 80 (sI w 47 0 0) = some (nI n, b1) ∧ Rm n 80 c 0 b1
        · obtain ⟨v, e6, m6, f6⟩ := dgm hb.2
          rw [o1'] at e6 m6
          obtain ⟨v2, e7, m7, f7⟩ := dgm (show Rm n 80 c 1 v from m6)
          rw [o2'] at e7 m7
          refine ⟨v2, fun _ _ _ => ⟨?_, f6.trans f7⟩⟩
          rw [e6, oBs, if_pos (show 0 ≤ hV (Option.map (fun x => x + 1) (some a)) from nI_pos' (n := a + 1) (by omega)), e7, oBs]
          unfold fX12_square_35
          rw [if_pos (show hV (Option.map (fun x => x + 1) none) < 0 by decide), show gI v2 47 19 = nI 1 from m7.2.1]
        · exact ⟨b1, fun a b _ => absurd ⟨a, b⟩ hb⟩)
      exact ⟨_, w, z, ew, ez, iz⟩
    | some b =>
      obtain ⟨b0, b1', b2, b3⟩ := sg_hp o2
      have o2' : sgO n 80 c 49 6 1 = some b := by rw [← sg_2 hn (by decide)]; exact o2
      have r3' : Rc n 2 c 2 true u3 := by
        have := r3
        rw [o2] at this
        exact this
      by_cases hn2 : 2 = n
      · -- the square is laid
        have ha6 : a < 6 := by omega
        have hb6 : b < 6 := by omega
        obtain ⟨u4, e4, f4⟩ := answer_c hn r3' (nI ((1 + a) * (1 + b)))
        have ean : anV n 2 true (nI ((1 + a) * (1 + b))) = nI ((1 + a) * (1 + b)) := by unfold anV; rw [decide_eq_true hn2]; rfl
        rw [ean] at e4
        have hpos : 0 < (1 + a) * (1 + b) := Nat.mul_pos (by omega) (by omega)
        have hle36 : (1 + a) * (1 + b) ≤ 36 := Nat.mul_le_mul (show 1 + a ≤ 6 by omega) (show 1 + b ≤ 6 by omega)
        have e2' : fX5_signFrom (nI 49) (nI 6) u1 = some (nI a, u2) := by rw [e2, o1]; rfl
        have e3' : fX5_signFrom (nI 49) (nI 6) u2 = some (nI b, u3) := by rw [e3, o2]; rfl
        have fu4 : Fm [(2, 1), (2, 2), (2, 3)] [] [] u u4 := fcl.trans (f4.mono rfl rfl rfl)
        obtain ⟨w, hw⟩ : ∃ w, w = sI (sI (sI (sI (sI (sI (sI (sI (sI (sI (sI u4 1 1 0) 3 0 (nI (1 + a))) 3 1 (nI (1 + b))) 3 2 0) 3 3 0) 3 4 0) 4 3 0) 4 4 0) 7 3 0) 7 2 0) 11 3 0 := ⟨_, rfl⟩
        have ew : fX11_square u = some (nI ((1 + a) * (1 + b)), w) := by
          unfold fX11_square
          rw [show (2 : Int32) = nI 2 from rfl, e1, oVs, show (49 : Int32) = nI 49 from rfl, show (6 : Int32) = nI 6 from rfl, e2', oBs, e3', oBs, show (1 : Int32) + nI a = nI (1 + a) from nI_add 1 a, show (1 : Int32) + nI b = nI (1 + b) from nI_add 1 b, pk_mul, e4, oBs, show fX7_clear u4 = some (sI u4 1 1 0) from rfl, oVs, if_neg (nI_nle hpos (by omega)), hw]
          rfl
        have fw : Fm [(1, 1), (2, 1), (2, 2), (2, 3), (3, 0), (3, 1), (3, 2), (3, 3), (3, 4), (4, 3), (4, 4), (7, 3), (7, 2), (11, 3)] [] [] u w := by
          rw [hw]
          exact (((((((((((fu4.mono rfl rfl rfl).sI rfl).sI rfl).sI rfl).sI rfl).sI rfl).sI rfl).sI rfl).sI rfl).sI rfl).sI rfl).sI rfl
        have hxm' : (sI w 47 0 0).1 47 18 = nI n ∧ RowN n ((sI w 47 0 0).2.1 57) c := ⟨(fw.i 47 18 rfl).trans hxm.1, by rw [show (sI w 47 0 0).2.1 57 = w.2.1 57 from rfl, fw.a 57 rfl]; exact hxm.2⟩
        obtain ⟨b1, e5, m5, z5, _, f5⟩ := begins_m (mo := 80) ht8 hxm'
        obtain ⟨v, e6, m6, f6⟩ := dgm m5
        rw [o1'] at e6 m6
        obtain ⟨v2, e7, m7, f7⟩ := dgm (show Rm n 80 c 1 v from m6)
        rw [o2'] at e7 m7
        have m7' : Rm n 80 c 2 v2 := m7
        have fm2 : Fm [(47, 0), (47, 18), (47, 19), (47, 20), (47, 21)] [] [] w v2 := (((Fm.rf.sI rfl : Fm [(47, 0), (47, 18), (47, 19), (47, 20), (47, 21)] [] [] w (sI w 47 0 0)).trans (f5.mono rfl rfl rfl)).trans (f6.mono rfl rfl rfl)).trans (f7.mono rfl rfl rfl)
        have z18 : v2.1 47 18 = 0 := (f7.i 47 18 rfl).trans ((f6.i 47 18 rfl).trans z5)
        obtain ⟨y, hy⟩ : ∃ y, y = sA (sA (sI (sI (sI (sI (sI (sI (sI v2 47 3 (nI (a + 1))) 47 4 (nI (b + 1))) 47 5 0) 47 6 0) 47 7 0) 47 43 0) 47 30 0) 55 24 0) 55 25 0 := ⟨_, rfl⟩
        obtain ⟨z, e8, k8, f8⟩ := s111 (u := y) (a := nI (a + 1)) (b := nI (b + 1))
        have fy : Fm [(47, 3), (47, 4), (47, 5), (47, 6), (47, 7), (47, 43), (47, 30)] [55] [] v2 y := by
          rw [hy]
          exact ((((((((Fm.rf.sI rfl).sI rfl).sI rfl).sI rfl).sI rfl).sI rfl).sI rfl).sA rfl).sA rfl
        have fz : Fm [(47, 3), (47, 4), (47, 5), (47, 6), (47, 7), (47, 43), (47, 30), (47, 0), (47, 18), (47, 19), (47, 20), (47, 21)] [55, 82] [] w z := ((fm2.mono rfl rfl rfl).trans (fy.mono rfl rfl rfl)).trans (f8.mono rfl rfl rfl)
        have yv : ∀ i k, z.1 i k = y.1 i k := fun i k => f8.i i k rfl
        have ez : fX12_square w = some (nI ((1 + a) * (1 + b)), z) := by
          rw [fX12_square, nxs, show (80 : Int32) = nI 80 from rfl, e5, oBs, e6, oBs, if_pos (show 0 ≤ hV (Option.map (fun x => x + 1) (some a)) from nI_pos' (n := a + 1) (by omega)), e7, oBs]
          unfold fX12_square_35
          rw [if_neg (show ¬ hV (Option.map (fun x => x + 1) (some b)) < 0 from nI_pos (n := b + 1) (by omega)), show gI v2 47 19 = nI 2 from m7'.2.1, show gI v2 47 20 = _ from m7'.1.2, if_pos (nI_le (show min n 80 ≤ 2 by omega) (by omega)), nxs, nxs, nxs, nxs, nxs, nxs, nxs, gd_t (show inb 24 26 = true from rfl), nxs, gd_t (show inb 25 26 = true from rfl), nxs, show hV (Option.map (fun x => x + 1) (some a)) = nI (a + 1) from rfl, show hV (Option.map (fun x => x + 1) (some b)) = nI (b + 1) from rfl, ← hy, e8, pk_mul, Nat.add_comm a 1, Nat.add_comm b 1]
        refine ⟨_, w, z, ew, ez, ?_⟩
        obtain ⟨R, C, nt, np, nr, h1, h2, h3, h4, h5, h6, h7, ⟨⟨cc, kb, g3, ec, hkb, ekb, g4⟩, hh1, hh2, hh3⟩, h9, h10⟩ := hI
        have w30 : w.1 3 0 = nI (a + 1) := by rw [hw, Nat.add_comm]; rfl
        have w31 : w.1 3 1 = nI (b + 1) := by rw [hw, Nat.add_comm b]; rfl
        have w0 : w.1 3 2 = 0 ∧ w.1 3 3 = 0 ∧ w.1 3 4 = 0 ∧ w.1 1 1 = 0 ∧ w.1 4 3 = 0 ∧ w.1 4 4 = 0 ∧ w.1 7 3 = 0 ∧ w.1 7 2 = 0 ∧ w.1 11 3 = 0 := by rw [hw]; exact ⟨rfl, rfl, rfl, rfl, rfl, rfl, rfl, rfl, rfl⟩
        obtain ⟨q1, q2, q3, q4, q5, q6, q7, q8, q9⟩ := w0
        have y0 : y.1 47 3 = nI (a + 1) ∧ y.1 47 4 = nI (b + 1) ∧ y.1 47 5 = 0 ∧ y.1 47 6 = 0 ∧ y.1 47 7 = 0 ∧ y.1 47 43 = 0 ∧ y.1 47 30 = 0 ∧ y.2.1 55 24 = 0 ∧ y.2.1 55 25 = 0 := by rw [hy]; exact ⟨rfl, rfl, rfl, rfl, rfl, rfl, rfl, rfl, rfl⟩
        obtain ⟨p1, p2, p3, p4, p5, p6, p7, p8, p9⟩ := y0
        refine ⟨a + 1, b + 1, 0, 0, 0, ⟨(by omega), (by omega), (by omega), (by omega), (by omega), (by omega), (by omega)⟩, ⟨(fz.i 3 0 rfl).trans w30, (yv _ _).trans p1, (fz.i 3 1 rfl).trans w31, (yv _ _).trans p2, (fz.i 3 2 rfl).trans q1, (yv _ _).trans p3, (fz.i 3 3 rfl).trans q2, (yv _ _).trans p4, (fz.i 3 4 rfl).trans q3, (yv _ _).trans p5⟩, ⟨0, (by omega), (fz.i 1 1 rfl).trans q4, (yv _ _).trans ((fy.i 47 18 rfl).trans z18), fun j hj => absurd hj (Nat.not_lt_zero j)⟩, ⟨fun j hj => absurd hj (Nat.not_lt_zero j), fun j hj => absurd hj (Nat.not_lt_zero j), fun j hj => absurd hj (Nat.not_lt_zero j), fun j hj => absurd hj (Nat.not_lt_zero j), fun j hj => absurd hj (Nat.not_lt_zero j), fun j hj => absurd hj (Nat.not_lt_zero j)⟩, ⟨⟨fun j hj => absurd hj (Nat.not_lt_zero j), fun j hj => absurd hj (Nat.not_lt_zero j), fun j hj => absurd hj (Nat.not_lt_zero j), 0, by decide, (fz.i 4 3 rfl).trans q5⟩, fun j hj => absurd hj (Nat.not_lt_zero j), fun j hj => absurd hj (Nat.not_lt_zero j), ?_, ?_⟩, ?_, ⟨0, (by omega), (fz.i 7 3 rfl).trans q7, (yv _ _).trans p7, fun j hj => absurd hj (Nat.not_lt_zero j)⟩, ⟨⟨cc, 0, (by omega), ?_, (by omega), (fz.i 7 2 rfl).trans q8, fun i hi => ⟨Or.inl (k8 i hi), ?_, ⟨fun h => by simp at h, fun h => ?_⟩, fun h => by simp at h⟩⟩, ⟨0, (by omega), (fz.i 4 4 rfl).trans q6⟩, ?_, ?_⟩, ?_, ⟨0, (by omega), (fz.i 11 3 rfl).trans q9, (yv _ _).trans p6, fun j hj => absurd hj (Nat.not_lt_zero j), fun j hj => absurd hj (Nat.not_lt_zero j), fun j hj => absurd hj (Nat.not_lt_zero j)⟩⟩
        · show z.1 4 3 = z.2.1 55 24
          rw [fz.i 4 3 rfl, q5, f8.a 55 rfl, p8]
        · show z.1 4 4 = z.2.1 55 25
          rw [fz.i 4 4 rfl, q6, f8.a 55 rfl, p9]
        · rw [fz.2.2.2, fw.2.2.2, fz.i 13 2 rfl, fw.i 13 2 rfl, fz.i 14 2 rfl, fw.i 14 2 rfl, fz.i 47 26 rfl, fw.i 47 26 rfl, fz.a 43 rfl, fw.a 43 rfl, fz.a 45 rfl, fw.a 45 rfl, fz.a 59 rfl, fw.a 59 rfl]; exact h6
        · rw [fz.i 47 8 rfl, fw.i 47 8 rfl]; exact ec
        · rw [fz.a 83 rfl, fw.a 83 rfl]; exact (g4 i hi).2.1
        · rw [k8 i hi] at h; exact absurd h.1 (by decide)
        · intro j hj
          obtain ⟨x, x1, x2⟩ := hh2 j hj
          exact ⟨x, (by omega), by rw [fz.a 31 rfl, fw.a 31 rfl]; exact x2⟩
        · intro j hj
          obtain ⟨x, x1, x2⟩ := hh3 j hj
          exact ⟨x, (by omega), by rw [fz.a 32 rfl, fw.a 32 rfl]; exact x2⟩
        · rw [fz.i 8 1 rfl, fw.i 8 1 rfl, fz.i 47 1 rfl, fw.i 47 1 rfl, fz.j 33 rfl, fw.j 33 rfl, fz.j 48 rfl, fw.j 48 rfl]; exact h9
      · obtain ⟨w, ew, w0, fw⟩ := badC 2 (by omega) (fun x => by
          have := answer_c hn r3' x
          unfold anV at this
          rw [decide_eq_false hn2, Bool.and_false, if_neg (by decide)] at this
          exact this)
        obtain ⟨z, ez, iz⟩ := badM w fw w0 (-1 - nI 2) (fun b1 => by
          by_cases hb : fX12_begins 80 (sI w 47 0 0) = some (nI n, b1) ∧ Rm n 80 c 0 b1
          · obtain ⟨v, e6, m6, f6⟩ := dgm hb.2
            rw [o1'] at e6 m6
            obtain ⟨v2, e7, m7, f7⟩ := dgm (show Rm n 80 c 1 v from m6)
            rw [o2'] at e7 m7
            refine ⟨v2, fun _ _ _ => ⟨?_, f6.trans f7⟩⟩
            have m7' : Rm n 80 c 2 v2 := m7
            rw [e6, oBs, if_pos (show 0 ≤ hV (Option.map (fun x => x + 1) (some a)) from nI_pos' (n := a + 1) (by omega)), e7, oBs]
            unfold fX12_square_35
            rw [if_neg (show ¬ hV (Option.map (fun x => x + 1) (some b)) < 0 from nI_pos (n := b + 1) (by omega)), show gI v2 47 19 = nI 2 from m7'.2.1, show gI v2 47 20 = _ from m7'.1.2, if_neg (nI_ge (show 2 < min n 80 by omega) (by omega))]
          · exact ⟨b1, fun a b _ => absurd ⟨a, b⟩ hb⟩)
        exact ⟨_, w, z, ew, ez, iz⟩
