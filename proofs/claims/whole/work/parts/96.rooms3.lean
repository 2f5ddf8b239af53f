/-! rooms: both sides -/
variable {D : DD} {m m' : MM} {e r : Nat} {u v : US} {n mo p : Nat} {c : Nat → Nat} {ok : Bool} {lpf : Nat → Nat × Bool} {semi : Nat → Bool}
theorem run_ok {cap : Nat} : ∀ i, (runL lpf semi cap (stN lpf i)).2.2 = true → 1 ≤ (runL lpf semi cap (stN lpf i)).1 ∧ (runL lpf semi cap (stN lpf i)).1 ≤ cap ∧ ∀ j, j < (runL lpf semi cap (stN lpf i)).1 → (lpf (stN lpf (i + j))).2 = true := by
  induction cap with
  | zero => intro i h; cases h
  | succ f ih =>
    intro i h
    cases hk : (lpf (stN lpf i)).2 with
    | false => rw [run_no hk] at h; cases h
    | true =>
      cases hs : semi (lpf (stN lpf i)).1 with
      | false =>
        rw [run_end hk hs]
        refine ⟨Nat.le_refl 1, Nat.succ_le_succ (Nat.zero_le f), fun j hj => ?_⟩
        have : j = 0 := Nat.lt_one_iff.mp hj
        subst this; exact hk
      | true =>
        rw [run_go hk hs] at h ⊢
        have hh := ih (i + 1) h
        refine ⟨Nat.succ_le_succ (Nat.zero_le _), Nat.succ_le_succ hh.2.1, fun j hj => ?_⟩
        cases j with
        | zero => exact hk
        | succ j =>
          have := hh.2.2 j (Nat.lt_of_succ_lt_succ hj)
          rw [show i + (j + 1) = i + 1 + j by omega]; exact this
theorem sI_same {i k : Nat} {x : Int32} (h : x = gI u i k) : sI u i k x = u := by
  subst h
  unfold sI gI
  refine Prod.ext (funext fun a => funext fun b => ?_) rfl
  show (if a = i then (if b = k then u.1 i k else u.1 a b) else u.1 a b) = u.1 a b
  by_cases q : a = i
  · rw [if_pos q]
    by_cases q2 : b = k
    · rw [if_pos q2, q, q2]
    · rw [if_neg q2]
  · rw [if_neg q]
theorem readsL_0 (ht : Tok 0 mo c) {what : Int32} (hx : u.1 47 18 = nI 0 ∧ RowN 0 (u.2.1 57) c) : ∃ v, fX12_readsLines what (nI mo) u = some (0, v) ∧ gI v 47 23 = 0 ∧ gI v 47 18 = 0 ∧ Fm [(47, 18), (47, 19), (47, 20), (47, 21), (47, 23)] [] [] u v := by
  obtain ⟨v, e1, m1, z1, z2, f1⟩ := begins_m ht hx
  have m1' : Rm 0 mo c 0 (sI v 47 23 0) := m1.fm (a := [(47, 23)]) (b := []) (d := []) (Fm.rf.sI rfl) rfl rfl
  refine ⟨sI v 47 23 0, ?_, rfl, z1, (f1.mono rfl rfl rfl).sI rfl⟩
  unfold fX12_readsLines
  rw [e1, oBs, nxs, if_pos (show nI 0 ≤ 0 by decide), show FU = 4095 + 1 from rfl, fX12_readsLines_25, if_pos rfl, show (1 : Int32) = bI true from rfl, fault_m ht m1', oBs]
  rfl
theorem readsL_m (ht : Tok n mo c) {what : Int32} (cap : Nat) (hcap : cap ≤ 8) (hn0 : 0 < n) (hx : u.1 47 18 = nI n ∧ RowN n (u.2.1 57) c) (Ix : Nat → US → Prop) (G : US → Prop) (hGd : ∀ {w v}, G w → Fdm w v → G v) (hId : ∀ {i w v}, Ix i w → Fdm w v → Ix i v)
    (hB : ∀ w, gI w 47 23 = nI cap → G w → fX12_readsLine what w = some (0, w))
    (hC : ∀ i w, i < cap → gI w 47 23 = nI i → Rm n mo c (stN lpf i) w → Ix i w → G w → ∃ v, fX12_readsLine what w = some (bI (lpf (stN lpf i)).2, v) ∧ Rm n mo c (lpf (stN lpf i)).1 v ∧ gI v 47 23 = nI (i + 1) ∧ ((lpf (stN lpf i)).2 = true → Ix (i + 1) v) ∧ G v)
    (hG : ∀ v, Fm [(47, 18), (47, 19), (47, 20), (47, 21), (47, 23)] [] [] u v → gI v 47 18 = 0 → G v) (hI : ∀ v, Ix 0 v) : ∃ w, fX12_readsLines what (nI mo) u = some (anV n (runL lpf (fun q => htB n mo c q 59) cap 0).2.1 (runL lpf (fun q => htB n mo c q 59) cap 0).2.2 0, w) ∧ FinM n mo c (runL lpf (fun q => htB n mo c q 59) cap 0) Ix G w := by
  obtain ⟨v, e1, m1, z1, z2, f1⟩ := begins_m ht hx
  have m1' : Rm n mo c 0 (sI v 47 23 0) := m1.fm (a := [(47, 23)]) (b := []) (d := []) (Fm.rf.sI rfl) rfl rfl
  unfold fX12_readsLines
  rw [e1, oBs, nxs, if_neg (nI_nle hn0 (by have := ht.1; omega))]
  exact lines_m ht cap hcap hn0 Ix G hGd hId hB hC m1' rfl (hI _) (hG _ ((f1.mono rfl rfl rfl).sI rfl) z1)
theorem neg_nle (p : Nat) (hp : p ≤ 80) : ¬ (0 : Int32) ≤ -1 - nI p := by
  rw [fa_le, fb_subI (by rw [nI_toInt (by omega)]; have : (-1 : Int32).toInt = -1 := rfl; omega) (by rw [nI_toInt (by omega)]; have : (-1 : Int32).toInt = -1 := rfl; omega), nI_toInt (by omega)]
  have : (-1 : Int32).toInt = -1 := rfl
  have : (0 : Int32).toInt = 0 := rfl
  omega
def roRun (n : Nat) (c : Nat → Nat) (R C b : Nat) : Nat × Nat × Bool := runL (roS n 15 c R C) (fun q => htB n 15 c q 59) (4 - b) 0
theorem st_5 : St_5 Inv := by
  intro k u hk hI
  obtain ⟨n, c, hn, hc, hxc, hxm⟩ := tx_of hI
  have ht : Tok n 15 c := ⟨hn, by decide, hc⟩
  have hI' := hI
  obtain ⟨R, C, nt, np, nr, hD⟩ := hI'
  obtain ⟨⟨hR1, hR6, hC1, hC6, hnt, hnp, hnr⟩, ⟨d1, d2, d3, d4, d5, d6, d7, d8, d9, d10⟩, htx, hrow, hmom, hrest⟩ := id hD
  by_cases h0 : n = 0
  · subst h0
    have ec : fX11_rooms u = some (0, u) := by
      unfold fX11_rooms fX7_isEmpty
      rw [show gI u 1 1 = 0 from hxc.1, if_pos rfl, oBs, if_neg (by decide)]
    obtain ⟨v, e1, z23, z18, f1⟩ := readsL_0 (u := sI u 47 0 0) (what := 2) ht hxm
    have em : fX12_rooms u = some (0, v) := by
      unfold fX12_rooms
      rw [nxs, show (15 : Int32) = nI 15 from rfl, e1, oBs, if_pos (show (0 : Int32) ≤ 0 by decide), show FU = 4095 + 1 from rfl, fX12_rooms_21, z23, if_pos (show (0 : Int32) ≤ 0 by decide), isNew_0 z23, oBs, sI_same (u := v) rfl, sI_same (u := v) (Int32.add_zero _)]
    refine ⟨0, u, v, ec, em, Inv_gone hI ((((Fm.rf.sI rfl : Fg u (sI u 47 0 0))).trans (f1.mono rfl rfl rfl))) ((f1.i 1 1 rfl).trans hxc.1) z18⟩
  · have hn0 : 0 < n := Nat.pos_of_ne_zero h0
    obtain ⟨u2, e2, r2, f2⟩ := open_c (mo := 15) hxc
    obtain ⟨w3, e3, hy, hno, hlo, f3⟩ := rooms_c (R := R) (C := C) (b := nr) ht r2 ((f2.i 3 0 rfl).trans d1) ((f2.i 3 1 rfl).trans d3) ((f2.i 3 4 rfl).trans d9) hR6 hC6 hnr
    have ecl : fX11_rooms u = fX11_arrived (anV n (roRun n c R C nr).2.1 (roRun n c R C nr).2.2 (nI (roRun n c R C nr).1)) w3 := by
      unfold fX11_rooms fX7_isEmpty
      rw [show gI u 1 1 = nI n from hxc.1, if_neg (show ¬ nI n = 0 from fun q => by have := congrArg Int32.toInt q; rw [nI_toInt (by omega)] at this; have h4 : (0 : Int32).toInt = 0 := rfl; omega), oBs, if_pos rfl, show (15 : Int32) = nI 15 from rfl, e2, oVs, e3, oBs]
      unfold roRun fX11_arrived
      rw [show fX7_clear w3 = some (sI w3 1 1 0) from rfl, oVs]
      by_cases q : anV n (runL (roS n 15 c R C) (fun q => htB n 15 c q 59) (4 - nr) 0).2.1 (runL (roS n 15 c R C) (fun q => htB n 15 c q 59) (4 - nr) 0).2.2 (nI (runL (roS n 15 c R C) (fun q => htB n 15 c q 59) (4 - nr) 0).1) ≤ 0
      · rw [if_pos q]; rfl
      · rw [if_neg q]; rfl
    have fuw : Fm ((2, 1) :: (2, 2) :: (2, 3) :: (3, 4) :: []) [20, 21] [] u w3 := (f2.mono rfl rfl rfl).trans (f3.mono rfl rfl rfl)
    have hlo' : ∀ j, j < nr → w3.2.1 20 j = u.2.1 20 j ∧ w3.2.1 21 j = u.2.1 21 j := fun j hj => by
      have := hlo j hj
      rw [f2.a 20 rfl, f2.a 21 rfl] at this
      exact this
    -- the model reads
    have rd : ∀ w4 : US, Fm ((1, 1) :: (7, 2) :: (7, 3) :: (2, 1) :: (2, 2) :: (2, 3) :: (3, 4) :: []) [20, 21] [] u w4 → ∃ w5, fX12_readsLines 2 15 (sI w4 47 0 0) = some (anV n (roRun n c R C nr).2.1 (roRun n c R C nr).2.2 0, w5) ∧ FinM n 15 c (roRun n c R C nr) (fun i w => RoM n 15 c R C (w.2.1 58) i) (fun w => Fm [(47, 0), (47, 18), (47, 19), (47, 20), (47, 21), (47, 23)] [58] [] w4 w ∧ gI w 47 18 = 0) w5 := by
      intro w4 f4
      have hx4 : (sI w4 47 0 0).1 47 18 = nI n ∧ RowN n ((sI w4 47 0 0).2.1 57) c := ⟨(f4.i 47 18 rfl).trans hxm.1, by rw [show (sI w4 47 0 0).2.1 57 = w4.2.1 57 from rfl, f4.a 57 rfl]; exact hxm.2⟩
      refine readsL_m (lpf := roS n 15 c R C) ht (what := 2) (4 - nr) (by omega) hn0 hx4 _ _ (fun hg hf => ⟨hg.1.trans (hf.mono rfl rfl rfl), (hf.i 47 18 rfl).trans hg.2⟩) (fun hi hf => by rw [hf.a 58 rfl]; exact hi) ?_ ?_ (fun v hf h18 => ⟨(Fm.rf.sI rfl : Fm [(47, 0), (47, 18), (47, 19), (47, 20), (47, 21), (47, 23)] [58] [] w4 (sI w4 47 0 0)).trans (hf.mono rfl rfl rfl), h18⟩) (fun v j hj => absurd hj (Nat.not_lt_zero j))
      · rintro w h23 ⟨hg, _⟩
        unfold fX12_readsLine
        rw [if_neg (by decide), if_neg (by decide)]
        unfold fX12_readsRoom
        rw [show gI w 47 7 = nI nr from (hg.i 47 7 rfl).trans ((f4.i 47 7 rfl).trans d10), h23, if_pos (show nI nr + nI (4 - nr) = 4 by rw [nI_add, show nr + (4 - nr) = 4 by omega]; rfl), oBs, gd_t (show isB 0 = true by decide)]
      · rintro i w hi h23 hr hx ⟨hg, h18⟩
        obtain ⟨v, e5, r5, t5, lo5, hi5, f5⟩ := room_m ht (R := R) (C := C) (b := nr) (i := i) hr ((hg.i 47 3 rfl).trans ((f4.i 47 3 rfl).trans d2)) ((hg.i 47 4 rfl).trans ((f4.i 47 4 rfl).trans d4)) ((hg.i 47 7 rfl).trans ((f4.i 47 7 rfl).trans d10)) h23 hR1 hR6 hC1 hC6 (by omega)
        refine ⟨v, e5, r5, t5, fun hk j hj => ?_, hg.trans (f5.mono rfl rfl rfl), (f5.i 47 18 rfl).trans h18⟩
        by_cases q : j = i
        · subst q; exact hi5 hk
        · rw [lo5 (2 * j) (by omega), lo5 (2 * j + 1) (by omega)]; exact hx j (by omega)
    obtain ⟨t1, t2, t3, t4, t5, t6⟩ := hrow
    cases hs : ((roRun n c R C nr).2.2 && decide ((roRun n c R C nr).2.1 = n)) with
    | true =>
      have hs' := hs
      rw [Bool.and_eq_true] at hs'
      obtain ⟨K1, K2, K3⟩ := run_ok (lpf := roS n 15 c R C) (semi := fun q => htB n 15 c q 59) (cap := 4 - nr) 0 hs'.1
      obtain ⟨y1, y2⟩ := hy hs
      have av : ∀ x, anV n (roRun n c R C nr).2.1 (roRun n c R C nr).2.2 x = x := fun x => by unfold anV; rw [hs]; rfl
      have hK1 : 1 ≤ (roRun n c R C nr).1 := K1
      have hK2 : (roRun n c R C nr).1 ≤ 4 - nr := K2
      have ec : fX11_rooms u = some (nI (roRun n c R C nr).1, sI (sI (sI w3 1 1 0) 7 3 0) 7 2 0) := by
        rw [ecl, av]
        unfold fX11_arrived fX4_forgetAll
        rw [show fX7_clear w3 = some (sI w3 1 1 0) from rfl, oVs, if_neg (nI_nle hK1 (by omega)), nxs, nxs, oVs]
      have f4 : Fm ((1, 1) :: (7, 2) :: (7, 3) :: (2, 1) :: (2, 2) :: (2, 3) :: (3, 4) :: []) [20, 21] [] u (sI (sI (sI w3 1 1 0) 7 3 0) 7 2 0) := (((fuw.mono rfl rfl rfl).sI rfl).sI rfl).sI rfl
      obtain ⟨w4, hw4⟩ : ∃ w4, w4 = sI (sI (sI w3 1 1 0) 7 3 0) 7 2 0 := ⟨_, rfl⟩
      rw [← hw4] at ec f4
      obtain ⟨w5, e5, m5, x5, g5, g18⟩ := rd w4 f4
      obtain ⟨x23, x58⟩ := x5 hs'.1
      obtain ⟨w6, e6, n7, l6, h6, f6⟩ := rooms21 (b := nr) (K := (roRun n c R C nr).1) (by omega) ((g5.i 47 7 rfl).trans ((f4.i 47 7 rfl).trans d10)) x23 hK1
      have em : fX12_rooms w4 = some (nI (roRun n c R C nr).1, sI (sI w6 47 30 0) 47 8 (gI w6 47 8 + 1)) := by
        unfold fX12_rooms
        rw [nxs, e5, oBs, av, if_pos (show (0 : Int32) ≤ 0 by decide), e6]
      refine ⟨_, w4, _, ec, em, ?_⟩
      have f46 : Fm [(47, 0), (47, 7), (47, 18), (47, 19), (47, 20), (47, 21), (47, 23)] [53, 54, 58] [] w4 w6 := (g5.mono rfl rfl rfl).trans (f6.mono rfl rfl rfl)
      have fz : Fm [(1, 1), (7, 2), (7, 3), (2, 1), (2, 2), (2, 3), (3, 4), (47, 0), (47, 7), (47, 8), (47, 18), (47, 19), (47, 20), (47, 21), (47, 23), (47, 30)] [20, 21, 53, 54, 58] [] u (sI (sI w6 47 30 0) 47 8 (gI w6 47 8 + 1)) := (((f4.mono rfl rfl rfl).trans (f46.mono rfl rfl rfl)).sI rfl).sI rfl
      have z8 : w6.1 47 8 = u.1 47 8 := (f46.i 47 8 rfl).trans (f4.i 47 8 rfl)
      have e20 : w6.2.1 20 = w3.2.1 20 ∧ w6.2.1 21 = w3.2.1 21 := by
        rw [f46.a 20 rfl, f46.a 21 rfl, hw4]; exact ⟨rfl, rfl⟩
      have e53 : ∀ j, j < nr → w6.2.1 53 j = u.2.1 53 j ∧ w6.2.1 54 j = u.2.1 54 j := fun j hj => by
        have := l6 j hj
        rw [g5.a 53 rfl, g5.a 54 rfl, f4.a 53 rfl, f4.a 54 rfl] at this
        exact this
      have w40 : w4.1 1 1 = 0 ∧ w4.1 7 3 = 0 ∧ w4.1 7 2 = 0 ∧ w4.1 3 4 = nI (nr + (roRun n c R C nr).1) := by rw [hw4]; exact ⟨rfl, rfl, rfl, y1⟩
      have z20 : ∀ j, j < nr + (roRun n c R C nr).1 → (w6.2.1 20 j = w6.2.1 53 j ∧ ∃ a : Nat, a < R * C ∧ w6.2.1 20 j = nI a) ∧ (w6.2.1 21 j = w6.2.1 54 j ∧ ∃ a : Nat, a < 10 ∧ w6.2.1 21 j = nI a) := by
        intro j hj
        rw [e20.1, e20.2]
        by_cases q : j < nr
        · obtain ⟨o1, o2⟩ := hlo' j q
          obtain ⟨o3, o4⟩ := e53 j q
          rw [o1, o2, o3, o4]
          exact ⟨t5 j q, t6 j q⟩
        · obtain ⟨i, rfl⟩ : ∃ i, j = nr + i := ⟨j - nr, (by omega)⟩
          have hi : i < (roRun n c R C nr).1 := by omega
          obtain ⟨o1, o2⟩ := y2 i hi
          obtain ⟨o3, o4⟩ := h6 i hi
          obtain ⟨o5, o6⟩ := x58 i hi
          have o7 := K3 i hi
          rw [Nat.zero_add] at o7
          obtain ⟨b1, b2⟩ := ro_lt o7
          rw [o1, o2, o3, o4, o5, o6]
          exact ⟨⟨rfl, _, b1, rfl⟩, rfl, _, b2, rfl⟩
      obtain ⟨⟨q1, q2, q3, q4⟩, q5⟩ := hmom
      refine Inv_new (nt' := nt) (np' := np) (nr' := nr + (roRun n c R C nr).1) hD hk (fz.mono rfl rfl rfl) ((f46.i 1 1 rfl).trans w40.1) ((f6.i 47 18 rfl).trans g18) ((f46.i 7 3 rfl).trans w40.2.1) rfl ((f46.i 7 2 rfl).trans w40.2.2.1) ?_ ⟨hR1, hR6, hC1, hC6, hnt, hnp, (by omega)⟩ ⟨(fz.i 3 2 rfl).trans d5, (fz.i 47 5 rfl).trans d6, (fz.i 3 3 rfl).trans d7, (fz.i 47 6 rfl).trans d8, (f46.i 3 4 rfl).trans w40.2.2.2, n7⟩ ⟨?_, ?_, ?_, ?_, fun j hj => (z20 j hj).1, fun j hj => (z20 j hj).2⟩ ?_
      · show gI w6 47 8 + 1 = u.1 47 8 + 1
        rw [show gI w6 47 8 = u.1 47 8 from z8]
      · rw [fz.a 16 rfl, fz.a 49 rfl]; exact t1
      · rw [fz.a 17 rfl, fz.a 50 rfl]; exact t2
      · rw [fz.a 18 rfl, fz.a 51 rfl]; exact t3
      · rw [fz.a 19 rfl, fz.a 52 rfl]; exact t4
      · unfold TwM
        rw [fz.a 22 rfl, fz.a 23 rfl, fz.a 24 rfl, fz.a 55 rfl, fz.i 4 3 rfl, fz.i 4 4 rfl]
        refine ⟨⟨q1, q2, fun p hp => ?_, q4⟩, q5⟩
        rcases q3 p hp with h | ⟨a, h1, h2⟩
        · exact Or.inl h
        · exact Or.inr ⟨a, (by omega), h2⟩
    | false =>
      have av : ∀ x, anV n (roRun n c R C nr).2.1 (roRun n c R C nr).2.2 x = -1 - nI (roRun n c R C nr).2.1 := fun x => by unfold anV; rw [hs]; rfl
      have f4 : Fm ((1, 1) :: (7, 2) :: (7, 3) :: (2, 1) :: (2, 2) :: (2, 3) :: (3, 4) :: []) [20, 21] [] u (sI w3 1 1 0) := (fuw.mono rfl rfl rfl).sI rfl
      obtain ⟨w5, e5, m5, x5, g5, g18⟩ := rd _ f4
      have hq : (roRun n c R C nr).2.1 ≤ 80 := by have := m5.2.2; omega
      have ec : fX11_rooms u = some (-1 - nI (roRun n c R C nr).2.1, sI w3 1 1 0) := by
        rw [ecl, av]
        unfold fX11_arrived
        rw [show fX7_clear w3 = some (sI w3 1 1 0) from rfl, oVs, if_pos (neg_le _ hq)]
      have em : fX12_rooms (sI w3 1 1 0) = some (-1 - nI (roRun n c R C nr).2.1, w5) := by
        unfold fX12_rooms
        rw [nxs, e5, oBs, av, if_neg (neg_nle _ hq)]
      refine ⟨_, _, w5, ec, em, ?_⟩
      have fz : Fm [(1, 1), (2, 1), (2, 2), (2, 3), (3, 4), (47, 0), (47, 18), (47, 19), (47, 20), (47, 21), (47, 23)] [20, 21, 58] [] u w5 := ((fuw.mono rfl rfl rfl).sI rfl).trans (g5.mono rfl rfl rfl)
      refine Inv_keep hD (fz.mono rfl rfl rfl) ⟨0, (by omega), (g5.i 1 1 rfl).trans rfl, g18, fun j hj => absurd hj (Nat.not_lt_zero j)⟩ ⟨(fz.i 3 2 rfl).trans d5, (fz.i 3 3 rfl).trans d7, (g5.i 3 4 rfl).trans (hno hs)⟩ ⟨?_, ?_, ?_, ?_, fun j hj => ?_, fun j hj => ?_⟩ ?_
      · rw [fz.a 16 rfl, fz.a 49 rfl]; exact t1
      · rw [fz.a 17 rfl, fz.a 50 rfl]; exact t2
      · rw [fz.a 18 rfl, fz.a 51 rfl]; exact t3
      · rw [fz.a 19 rfl, fz.a 52 rfl]; exact t4
      · rw [fz.a 53 rfl, g5.a 20 rfl, show (sI w3 1 1 0).2.1 20 = w3.2.1 20 from rfl, (hlo' j hj).1]; exact t5 j hj
      · rw [fz.a 54 rfl, g5.a 21 rfl, show (sI w3 1 1 0).2.1 21 = w3.2.1 21 from rfl, (hlo' j hj).2]; exact t6 j hj
      · unfold TwM
        rw [fz.a 22 rfl, fz.a 23 rfl, fz.a 24 rfl, fz.a 55 rfl, fz.i 4 3 rfl, fz.i 4 4 rfl]; exact hmom
