/-! day: the loops -/
variable {D : DD} {m m' : MM} {e r : Nat} {u v w : US} {n mo p : Nat} {c : Nat → Nat} {ok : Bool}
/-- acts kept by the model from place i on -/
def Sto (n : Nat) (c : Nat → Nat) : Nat → Nat → Nat → US → Prop
  | 0, _, _, _ => True
  | k + 1, q, i, y => q < min n 60 → (acS n 60 c q).2 = true → AcV n 60 c q i y ∧ Sto n c k (acS n 60 c q).1 (i + 1) y
theorem AcV.cg {q i : Nat} (h : AcV n mo c q i u) (h2 : v.2.1 65 i = u.2.1 65 i ∧ v.2.1 66 i = u.2.1 66 i ∧ v.2.1 67 i = u.2.1 67 i ∧ v.2.1 68 i = u.2.1 68 i ∧ v.2.1 69 i = u.2.1 69 i) : AcV n mo c q i v := by
  obtain ⟨s, a0, a1, a2, a3, a4⟩ := h
  obtain ⟨b1, b2, b3, b4, b5⟩ := h2
  exact ⟨s, a0, b1.trans a1, b2.trans a2, fun w => b3.trans (a3 w), fun w => ⟨b4.trans (a4 w).1, b5.trans (a4 w).2⟩⟩
theorem Sto.fm {a : List (Nat × Nat)} {b d : List Nat} (f : Fm a b d u v) (q0 : [65, 66, 67, 68, 69].all (fun x => !b.contains x) = true) : ∀ k q i, Sto n c k q i u → Sto n c k q i v
  | 0, _, _, _ => trivial
  | k + 1, q, i, h => fun h1 h2 => by
    obtain ⟨a1, a2⟩ := h h1 h2
    exact ⟨a1.cg (Oth.fm (k := i + 1) f q0 i (by omega)), Sto.fm f q0 k _ _ a2⟩
theorem dy_k : ∀ k q, (dyR n mo c k q).1 ≤ k
  | 0, _ => Nat.le_refl _
  | k + 1, q => by
    rw [dyR]
    by_cases w1 : q < min n mo
    · rw [if_pos w1]
      by_cases w2 : (acS n mo c q).2 = true
      · rw [if_pos w2]; exact Nat.succ_le_succ (dy_k k _)
      · rw [if_neg w2]; exact Nat.zero_le _
    · rw [if_neg w1]; exact Nat.zero_le _
/-- each act takes two signs -/
theorem dy_2 : ∀ k q, q ≤ min n mo → q + 2 * (dyR n mo c k q).1 ≤ min n mo
  | 0, _, h => h
  | k + 1, q, h => by
    rw [dyR]
    by_cases w1 : q < min n mo
    · rw [if_pos w1]
      by_cases w2 : (acS n mo c q).2 = true
      · rw [if_pos w2]
        have h1 := ac_2 w2
        have h2 := dy_2 k _ (ac_le (c := c) w1)
        show q + 2 * ((dyR n mo c k (acS n mo c q).1).1 + 1) ≤ _
        omega
      · rw [if_neg w2]; exact h
    · rw [if_neg w1]; exact h
theorem live_d (ht : Tok n 60 c) : ∀ (k i f q h : Nat) (m : MM) (w : US), i + k = 60 → k < f → h + 9 * k < 2 ^ 30 → q ≤ min n 60 → Rc n 60 c q true w → Cw D m 4 w → (dyR n 60 c k q).2.2 = true → (dyR n 60 c k q).2.1 = n → mT m = nI h → ∃ (dn : Nat) (rf : Bool) (m' : MM) (v : US) (h' : Nat), fX11_liveDay_26 f (nI i) 0 (nI i) w = fX11_liveDay_78 (nI dn) (bI rf) v ∧ Cw D m' 4 v ∧ FD w v ∧ mT m' = nI h' ∧ h' ≤ h + 9 * (dyR n 60 c k q).1 ∧ dn ≤ i + (dyR n 60 c k q).1 ∧ rf = decide (dn < i + (dyR n 60 c k q).1) ∧ ∀ (y : US) (g : Nat), Mw D m 55 y → gI y 47 38 = nI (i + (dyR n 60 c k q).1) → Sto n c k q i y → k < g → ∃ z, fX12_day_64 g (nI i) y = fX12_day_88 (nI dn) z ∧ Mw D m' 55 z ∧ Fm [] [55] [] y z := by
  intro k
  induction k with
  | zero =>
    intro i f q h m w hi hf hh hq hr hw h1 h2 hT
    obtain ⟨f, rfl⟩ : ∃ f', f = f' + 1 := ⟨f - 1, (by omega)⟩
    have : i = 60 := by omega
    subst this
    refine ⟨60, false, m, w, h, ?_, hw, Fm.rf, hT, (by omega), Nat.le_refl _, (decide_eq_false (Nat.lt_irrefl _)).symm, fun y g hy hk _ hg => ?_⟩
    · rw [fX11_liveDay_26, if_pos (show (60 : Int32) ≤ nI 60 by decide)]; rfl
    · obtain ⟨g, rfl⟩ : ∃ g', g = g' + 1 := ⟨g - 1, (by omega)⟩
      rw [fX12_day_64, hk, if_pos (show nI (60 + (dyR n 60 c 0 q).1) ≤ nI 60 from nI_le (Nat.le_refl 60) (by omega))]
      exact ⟨y, rfl, hy, Fm.rf⟩
  | succ k ih =>
    intro i f q h m w hi hf hh hq hr hw h1 h2 hT
    obtain ⟨f, rfl⟩ : ∃ f', f = f' + 1 := ⟨f - 1, (by omega)⟩
    rw [fX11_liveDay_26, if_neg (show ¬ (60 : Int32) ≤ nI i from nI_ge (b := 60) (by omega) (by omega)), if_pos rfl, peek_c ht hr, oBs]
    rw [dyR] at h1 h2 ⊢
    by_cases hqn : q < min n 60
    · have hcq := ht.2.2 q (by omega)
      rw [if_pos hqn] at h1 h2 ⊢
      rw [pk_y hqn, if_neg (n31 hcq)]
      cases hk : (acS n 60 c q).2 with
      | false => rw [hk, if_neg (by decide)] at h1; cases h1
      | true =>
        rw [hk, if_pos rfl] at h1 h2
        rw [if_pos rfl]
        obtain ⟨a, b, m1, v1, hx, e1, hab, c1, r1, f1, T1, l1, M1⟩ := act_d ht (h := h) (by omega) hqn hw hr hk hT
        rw [e1, oBs]
        unfold fX11_liveDay_59
        cases b with
        | true =>
          have ha : ¬ a < 0 := fun w => by have := hab.mp w; cases this
          obtain ⟨dn, rf, m2, v2, h2', e2, c2, f2, T2, l2, d2, rr2, M2⟩ := ih (i + 1) f (acS n 60 c q).1 hx m1 v1 (by omega) (by omega) (by omega) (ac_le hqn) r1 c1 h1 h2 T1
          rw [if_pos (n_lt.mp ha), if_pos rfl, nI_1, e2]
          have es : i + 1 + (dyR n 60 c k (acS n 60 c q).1).1 = i + ((dyR n 60 c k (acS n 60 c q).1).1 + 1) := by omega
          rw [es] at d2 rr2 M2
          refine ⟨dn, rf, m2, v2, h2', rfl, c2, f1.trans f2, T2, (by omega), d2, rr2, fun y g hy hk38 hS hg => ?_⟩
          obtain ⟨g, rfl⟩ : ∃ g', g = g' + 1 := ⟨g - 1, (by omega)⟩
          obtain ⟨s1, s2⟩ := hS hqn hk
          obtain ⟨z, ez, hz, fz⟩ := M1 i y (by omega) hy s1
          obtain ⟨z2, ez2, hz2, fz2⟩ := M2 z g hz ((fz.i 47 38 rfl).trans hk38) (Sto.fm fz rfl _ _ _ s2) (by omega)
          have hl : i < i + ((dyR n 60 c k (acS n 60 c q).1).1 + 1) := by omega
          have hb : i + ((dyR n 60 c k (acS n 60 c q).1).1 + 1) < 2 ^ 31 ∨ True := Or.inr trivial
          rw [fX12_day_64, hk38, if_neg (nI_ge hl ?_), ez, oBs, if_neg (show ¬ bI true = 0 by decide), nI_1, ez2]
          · exact ⟨z2, rfl, hz2, fz.trans fz2⟩
          · have : ∀ k q, (dyR n 60 c k q).1 ≤ k := dy_k
            have := this k (acS n 60 c q).1
            omega
        | false =>
          have ha : a < 0 := hab.mpr rfl
          have hK : ∀ k q, (dyR n 60 c k q).1 ≤ k := dy_k
          have hKk := hK k (acS n 60 c q).1
          obtain ⟨f, rfl⟩ : ∃ f', f = f' + 1 := ⟨f - 1, (by omega)⟩
          rw [if_neg (fun w => absurd ha (n_lt.mpr w)), if_neg (show ¬ (1 : Int32) = 0 by decide), fX11_liveDay_26, ad0]
          refine ⟨i, true, m1, v1, hx, ?_, c1, f1, T1, (by omega), (by omega), (decide_eq_true (by omega)).symm, fun y g hy hk38 hS hg => ?_⟩
          · rw [nI_1]
            by_cases q6 : 60 ≤ i + 1
            · rw [if_pos (show (60 : Int32) ≤ nI (i + 1) from nI_le (a := 60) q6 (by omega))]; rfl
            · rw [if_neg (show ¬ (60 : Int32) ≤ nI (i + 1) from nI_ge (b := 60) (by omega) (by omega)), if_neg (show ¬ (1 : Int32) = 0 by decide)]; rfl
          · obtain ⟨g, rfl⟩ : ∃ g', g = g' + 1 := ⟨g - 1, (by omega)⟩
            obtain ⟨s1, s2⟩ := hS hqn hk
            obtain ⟨z, ez, hz, fz⟩ := M1 i y (by omega) hy s1
            rw [fX12_day_64, hk38, if_neg (nI_ge (show i < i + ((dyR n 60 c k (acS n 60 c q).1).1 + 1) by omega) (by omega)), ez, oBs, if_pos (show bI false = 0 from rfl)]
            exact ⟨z, rfl, hz, fz⟩
    · rw [if_neg hqn] at h1 h2 ⊢
      rw [pk_n hqn, if_pos rfl]
      refine ⟨i, false, m, w, h, rfl, hw, Fm.rf, hT, (by omega), Nat.le_refl _, (decide_eq_false (Nat.lt_irrefl _)).symm, fun y g hy hk38 hS hg => ?_⟩
      obtain ⟨g, rfl⟩ : ∃ g', g = g' + 1 := ⟨g - 1, (by omega)⟩
      rw [fX12_day_64, hk38, if_pos (show nI (i + 0) ≤ nI i from nI_le (Nat.le_refl i) (by omega))]
      exact ⟨y, rfl, hy, Fm.rf⟩
/-- the model reads all acts -/
theorem reads_d (ht : Tok n 60 c) : ∀ (k i g q : Nat) (u : US), i + k = 60 → k < g → 2 * i ≤ q → Rm n 60 c q u → gI u 47 38 = nI i → ∃ v, fX12_day_19 g (nI n) 1 u = fX12_day_42 (nI n) (bI (dyR n 60 c k q).2.2) v ∧ Rm n 60 c (dyR n 60 c k q).2.1 v ∧ ((dyR n 60 c k q).2.2 = true → gI v 47 38 = nI (i + (dyR n 60 c k q).1) ∧ Sto n c k q i v) ∧ (∀ j, j < i → v.2.1 65 j = u.2.1 65 j ∧ v.2.1 66 j = u.2.1 66 j ∧ v.2.1 67 j = u.2.1 67 j ∧ v.2.1 68 j = u.2.1 68 j ∧ v.2.1 69 j = u.2.1 69 j) ∧ FA u v := by
  intro k
  induction k with
  | zero =>
    intro i g q u hi hg h2 hr hk
    have := hr.2.2
    omega
  | succ k ih =>
    intro i g q u hi hg h2 hr hk
    obtain ⟨g, rfl⟩ : ∃ g', g = g' + 1 := ⟨g - 1, (by omega)⟩
    have hle := hr.2.2
    have hn := ht.1
    rw [fX12_day_19, if_neg (show ¬ (1 : Int32) = 0 by decide), show gI u 47 20 = nI (min n 60) from hr.1.2, show gI u 47 19 = nI q from hr.2.1, dyR]
    by_cases hqn : q < min n 60
    · obtain ⟨v1, e1, r1, k1, a1, o1, f1⟩ := readsAct_m ht hqn (k := i) (by omega) hr hk
      rw [if_neg (nI_ge hqn (by omega)), e1, oBs, if_pos hqn]
      cases hb : (acS n 60 c q).2 with
      | true =>
        obtain ⟨v2, e2, r2, s2, o2, f2⟩ := ih (i + 1) g (acS n 60 c q).1 v1 (by omega) (by omega) (by have := ac_2 hb; omega) r1 k1
        rw [show bI true = 1 from rfl, e2, if_pos rfl]
        refine ⟨v2, rfl, r2, fun w => ⟨?_, fun _ _ => ⟨(a1 hb).cg (o2 i (by omega)), (s2 w).2⟩⟩, fun j hj => ?_, f1.trans f2⟩
        · rw [(s2 w).1]; congr 1; omega
        · obtain ⟨b1, b2, b3, b4, b5⟩ := o1 j (by omega)
          obtain ⟨d1, d2, d3, d4, d5⟩ := o2 j (by omega)
          exact ⟨d1.trans b1, d2.trans b2, d3.trans b3, d4.trans b4, d5.trans b5⟩
      | false =>
        obtain ⟨g, rfl⟩ : ∃ g', g = g' + 1 := ⟨g - 1, (by omega)⟩
        rw [if_neg (by decide), fX12_day_19, if_pos (show bI false = 0 from rfl)]
        exact ⟨v1, rfl, r1, fun w => (by cases w), fun j hj => o1 j (by omega), f1⟩
    · rw [if_pos (nI_le (by omega) (by omega)), if_neg hqn]
      exact ⟨u, rfl, hr, fun _ => ⟨hk, fun w => absurd w hqn⟩, fun _ _ => ⟨rfl, rfl, rfl, rfl, rfl⟩, Fm.rf⟩
theorem fin_day {n : Nat} (hW : Wd D m u) (hR : Rst n D u) (f : Fm ((1, 1) :: (47, 18) :: scrIa) scrAa scrJt u v) (x1 : v.1 1 1 = 0) (x2 : v.1 47 18 = 0) (hm : MoOK D m') (hc : MoC D m' 4 v) (hM : MoM D m' 55 v) (hp : IPast (dR D) (dC D) (dT D) (dP D) (dM D) (v.1 7 3) (v.1 47 30) (v.2.1 31) (v.2.1 63)) (hh : ∃ h : Nat, h ≤ 300 * (n + 1) ∧ v.1 4 4 = nI h) (hh2 : ∀ j, j < 15 → ∃ h : Nat, h ≤ 300 * (n + 1) ∧ v.2.1 31 (26 * j + 25) = nI h) (ht : ITold (v.1 8 1) (v.1 47 1) (v.2.2.1 33) (v.2.2.1 48)) : Inv (n + 1) v := by
  obtain ⟨g1, g2, ⟨⟨c, kb, g3, g4⟩, g5⟩, g6, g7⟩ := hR
  refine Inv_fr (D := D) (m := m') ⟨hW.1, hW.2.1.fm f rfl rfl, hW.2.2.1.fm f rfl rfl, hW.2.2.2.1.fm f rfl rfl, hm, hc, hM⟩ ⟨?_, hp, ⟨?_, hh, hh2, ?_⟩, ht, ?_⟩
  · exact ⟨0, Nat.zero_le _, x1, x2, fun j hj => absurd hj (Nat.not_lt_zero j)⟩
  · rw [f.i 7 2 rfl, f.i 47 8 rfl, f.a 32 rfl, f.a 82 rfl, f.a 83 rfl, f.a 84 rfl]; exact ⟨c, kb, (by omega), g4⟩
  · rw [f.a 32 rfl]
    intro j hj
    obtain ⟨h, h1, h2⟩ := g5.2.2 j hj
    exact ⟨h, (by omega), h2⟩
  · rw [f.i 11 3 rfl, f.i 47 43 rfl, f.a 36 rfl, f.a 37 rfl, f.a 38 rfl, f.a 74 rfl, f.a 75 rfl, f.a 76 rfl]; exact g7
def dyL (rf : Bool) (t : Int32) : List Int64 := [(bI rf).toInt64, t.toInt64]
theorem st_16 : St_16 Inv := by
  intro kk u hkk hI
  obtain ⟨n, c, hn, hc, hxc, hxm⟩ := tx_of hI
  have ht : Tok n 60 c := ⟨hn, by decide, hc⟩
  obtain ⟨u1, e1, f1⟩ := readDay_c ht hxc
  -- the model reads
  have rd : ∀ w4 : US, w4.1 47 18 = nI n → RowN n (w4.2.1 57) c → ∃ v, fX12_day w4 = fX12_day_42 (nI n) (bI (dyR n 60 c 60 0).2.2) v ∧ Rm n 60 c (dyR n 60 c 60 0).2.1 v ∧ ((dyR n 60 c 60 0).2.2 = true → gI v 47 38 = nI (0 + (dyR n 60 c 60 0).1) ∧ Sto n c 60 0 0 v) ∧ gI v 47 18 = 0 ∧ Fm [(47, 0), (47, 18), (47, 19), (47, 20), (47, 21), (47, 38)] [65, 66, 67, 68, 69] [] w4 v := by
    intro w4 h18 h57
    obtain ⟨w1, x1, r1, a1, b1, g1⟩ := begins_m (u := sI w4 47 0 0) (mo := 60) ht ⟨h18, h57⟩
    obtain ⟨w2, hw2⟩ : ∃ w2, w2 = sI w1 47 38 0 := ⟨_, rfl⟩
    have r2 : Rm n 60 c 0 w2 := by rw [hw2]; exact r1.fm (a := [(47, 38)]) (b := []) (d := []) (Fm.rf.sI rfl) rfl rfl
    obtain ⟨v, e2, r3, s3, _, g3⟩ := reads_d ht 60 0 FU 0 w2 rfl (by decide) (by omega) r2 (by rw [hw2]; rfl)
    refine ⟨v, ?_, r3, s3, ?_, ?_⟩
    · unfold fX12_day
      rw [nxs, show (60 : Int32) = nI 60 from rfl, x1, oBs, nxs, ← hw2, e2]
    · rw [show gI v 47 18 = gI w2 47 18 from g3.i 47 18 rfl, hw2]; exact a1
    · have g2 : Fm [(47, 0), (47, 18), (47, 19), (47, 20), (47, 21), (47, 38)] [65, 66, 67, 68, 69] [] w4 w2 := by
        rw [hw2]; exact ((Fm.rf.sI rfl).trans (g1.mono rfl rfl rfl)).sI rfl
      exact g2.trans (g3.mono rfl rfl rfl)
  cases hs : ((dyR n 60 c 60 0).2.2 && decide ((dyR n 60 c 60 0).2.1 = n)) with
  | false =>
    have av : ∀ x, anV n (dyR n 60 c 60 0).2.1 (dyR n 60 c 60 0).2.2 x = -1 - nI (dyR n 60 c 60 0).2.1 := fun x => by unfold anV; rw [hs]; rfl
    obtain ⟨w1, x1, r1, _, g18, g1⟩ := rd (sI u1 1 1 0) ((f1.i 47 18 rfl).trans hxm.1) (by rw [show (sI u1 1 1 0).2.1 57 = u1.2.1 57 from rfl, f1.a 57 rfl]; exact hxm.2)
    have hle : (dyR n 60 c 60 0).2.1 ≤ 80 := by have := r1.2.2; omega
    have ec : fX11_day u = some (-1 - nI (dyR n 60 c 60 0).2.1, sI u1 1 1 0) := by
      unfold fX11_day fX11_day_14
      rw [e1, oBs, av, if_neg (neg_n0 _ hle)]; rfl
    have em : fX12_day (sI u1 1 1 0) = some (-1 - nI (dyR n 60 c 60 0).2.1, w1) := by
      rw [x1]
      unfold fX12_day_42
      rw [show (60 : Int32) = nI 60 from rfl, fault_m ht r1, oBs, av, if_neg (neg_nle _ hle)]
    refine ⟨_, _, w1, ec, em, Inv_gone hI (((f1.mono rfl rfl rfl).sI rfl).trans (g1.mono rfl rfl rfl)) ((g1.i 1 1 rfl).trans rfl) g18⟩
  | true =>
    have av : ∀ x, anV n (dyR n 60 c 60 0).2.1 (dyR n 60 c 60 0).2.2 x = x := fun x => by unfold anV; rw [hs]; rfl
    rw [Bool.and_eq_true] at hs
    have hs1 := hs.1
    have hs2 := of_decide_eq_true hs.2
    obtain ⟨D, m, hW, hR⟩ := Inv_to hI
    have hd := hW.1.1
    have hR' := hR
    obtain ⟨g1, ⟨k, hk, pa, pb, pp⟩, ⟨g3, ⟨h0, hh0, eh⟩, hh2, hh3⟩, g6, g7⟩ := hR'
    have hmom := hW.mom
    have hW1 : Wd D m u1 := hW.fr (f1.mono rfl rfl rfl)
    have hT : mT m = nI h0 := hW.cw.gT.symm.trans eh
    -- the class lives the day
    obtain ⟨u2, e2, mo2, f2⟩ := copy5 u1
    have x2 : u2.1 1 1 = nI n ∧ RowN n (u2.2.1 15) c := ⟨(f2.i 1 1 rfl).trans ((f1.i 1 1 rfl).trans hxc.1), by rw [f2.a 15 rfl, f1.a 15 rfl]; exact hxc.2⟩
    obtain ⟨u3, e3, r3, f3⟩ := open_c (mo := 60) x2
    have f13 : Fm [(2, 1), (2, 2), (2, 3), (5, 3), (5, 4)] [25, 26, 27] [] u u3 := ((f1.mono rfl rfl rfl).trans (f2.mono rfl rfl rfl)).trans (f3.mono rfl rfl rfl)
    have hW3 : Wd D m u3 := hW.fr (f13.mono rfl rfl rfl)
    obtain ⟨dn, rf, m', u4, h', e4, c4, f4, T4, l4, d4, rr4, M4⟩ := live_d ht 60 0 FU 0 h0 m u3 rfl (by decide) (by omega) (Nat.zero_le _) r3 hW3.cw hs1 hs2 hT
    rw [Nat.zero_add] at d4 rr4 M4
    have hdn : dn ≤ 60 := by
      have : ∀ k q, (dyR n 60 c k q).1 ≤ k := dy_k
      have := this 60 0
      omega
    have hK30 := dy_2 (n := n) (mo := 60) (c := c) 60 0 (Nat.zero_le _)
    have hK60 : (dyR n 60 c 60 0).1 < 2 ^ 31 := by omega
    have mo4 : ∀ i, i < 26 → moC u4 5 i = moC u 4 i := fun i hi => by
      have e5 : moC u4 5 i = moC u2 5 i := by
        unfold moC
        rw [f4.a (fpt 5 0) rfl, f4.a (fpt 5 1) rfl, f4.a (fpt 5 2) rfl, f4.i 5 3 rfl, f4.i 5 4 rfl, f3.a (fpt 5 0) rfl, f3.a (fpt 5 1) rfl, f3.a (fpt 5 2) rfl, f3.i 5 3 rfl, f3.i 5 4 rfl]
      rw [e5, mo2 i hi]
      unfold moC
      rw [f1.a (fpt 4 0) rfl, f1.a (fpt 4 1) rfl, f1.a (fpt 4 2) rfl, f1.i 4 3 rfl, f1.i 4 4 rfl]
    have f14 : Fm [(2, 1), (2, 2), (2, 3), (5, 3), (5, 4), (4, 3), (4, 4)] [25, 26, 27, 22, 23, 24] [] u u4 := (f13.mono rfl rfl rfl).trans (f4.mono rfl rfl rfl)
    -- telling, on both sides
    have e93 : ∀ x : US, gI x 4 4 = mT m' → ∃ y, fX11_liveDay_93 (nI dn) (bI rf) x = some (nI dn, y) ∧ TolC (dyL rf (mT m')) y ∧ Tc x y := fun x hx => by
      unfold fX11_liveDay_93 fX11_liveDay_106
      rw [hx]
      cases rf with
      | true =>
        obtain ⟨y, e, t, f⟩ := tl2_c 1 (mT m').toInt64 x
        rw [if_neg (show ¬ bI true = 0 by decide), e, oVs]; exact ⟨y, rfl, t, f⟩
      | false =>
        obtain ⟨y, e, t, f⟩ := tl2_c 0 (mT m').toInt64 x
        rw [if_pos (show bI false = 0 from rfl), e, oVs]; exact ⟨y, rfl, t, f⟩
    have e88 : ∀ z : US, gI z 47 38 = nI (dyR n 60 c 60 0).1 → gA z 55 25 = mT m' → ∃ y, fX12_day_88 (nI dn) z = (if nI dn ≤ 0 then some (0, y) else oB (fX12_puts (nI dn) y) fun r4 u4 => some (r4, u4)) ∧ TolM (dyL rf (mT m')) y ∧ Tm z y := fun z hz h25 => by
      obtain ⟨y1, x1, t1, q1⟩ := en_m (clr_m z) (by decide) (bI rf).toInt64
      obtain ⟨y2, x2, t2, q2⟩ := en_m t1 (by simp) (mT m').toInt64
      have q12 : Tm z y2 := ((Fm.rf.sI rfl).trans q1).trans q2
      have h251 : gA y1 55 25 = mT m' := by
        rw [gA_fm q1 rfl]; exact h25
      refine ⟨y2, ?_, t2, q12⟩
      unfold fX12_day_88 fX12_day_108
      rw [nxs, show gI (sI z 47 1 0) 47 38 = nI (dyR n 60 c 60 0).1 from hz, show fX12_flag 0 (sI z 47 1 0) = some (bI false, sI z 47 1 0) from flag_m false _, show fX12_flag 1 (sI z 47 1 0) = some (bI true, sI z 47 1 0) from flag_m true _]
      by_cases q : dn < (dyR n 60 c 60 0).1
      · rw [decide_eq_true q] at rr4
        subst rr4
        rw [if_neg (nI_ge q hK60), oBs, x1, oVs, gd_t (show inb 25 26 = true from rfl), h251, x2, oVs]
      · rw [decide_eq_false q] at rr4
        subst rr4
        rw [if_pos (nI_le (by omega) (by omega)), oBs, x1, oVs, gd_t (show inb 25 26 = true from rfl), h251, x2, oVs]
    have ed : fX11_day u = oB (fX11_liveDay_78 (nI dn) (bI rf) u4) fun r2 u2 => fX11_day_14 r2 u2 := by
      unfold fX11_day fX11_liveDay
      rw [e1, oBs, av, if_pos rfl, e2, oVs, show (60 : Int32) = nI 60 from rfl, e3, oVs, show fX11_liveDay_26 FU 0 0 0 u3 = _ from e4]
    by_cases h00 : dn = 0
    · -- nothing done
      obtain ⟨u5, e5, t5, f5⟩ := e93 u4 c4.gT
      have ec : fX11_day u = some (nI dn, sI u5 1 1 0) := by
        rw [ed]
        unfold fX11_liveDay_78
        rw [if_pos (show nI dn ≤ 0 by rw [h00]; decide), e5, oBs]; rfl
      have f16 : Fm [(1, 1), (2, 1), (2, 2), (2, 3), (5, 3), (5, 4), (4, 3), (4, 4), (8, 1)] [25, 26, 27, 22, 23, 24] [33] u (sI u5 1 1 0) := ((f14.mono rfl rfl rfl).trans (f5.mono rfl rfl rfl)).sI rfl
      obtain ⟨u6, hu6⟩ : ∃ u6, u6 = sI u5 1 1 0 := ⟨_, rfl⟩
      rw [← hu6] at ec f16
      obtain ⟨w1, x1, r1, s1, g18, y1⟩ := rd u6 ((f16.i 47 18 rfl).trans hxm.1) (by rw [f16.a 57 rfl]; exact hxm.2)
      obtain ⟨k38, sto⟩ := s1 hs1
      rw [Nat.zero_add] at k38
      have M0 : Mw D m 55 u6 := ⟨Or.inl rfl, hW.1, hW.2.2.1.fm f16 rfl rfl, hW.2.2.2.1.fm f16 rfl rfl, hW.2.2.2.2.1, hW.2.2.2.2.2.2.fm f16 rfl⟩
      obtain ⟨w2, x2, s2, y2⟩ := putsBy_m (u := w1) hk ((y1.i 47 30 rfl).trans ((f16.i 47 30 rfl).trans pb))
      obtain ⟨w3, x3, M3, y3⟩ := M4 w2 FU ((M0.fm55 y1 rfl rfl).fm55 y2 rfl rfl) ((y2.i 47 38 rfl).trans k38) (Sto.fm y2 rfl _ _ _ sto) (by decide)
      obtain ⟨w4, x4, t4, y4⟩ := e88 w3 ((y3.i 47 38 rfl).trans ((y2.i 47 38 rfl).trans k38)) M3.gT
      have em : fX12_day u6 = some (nI dn, w4) := by
        rw [x1]
        unfold fX12_day_42
        rw [show (60 : Int32) = nI 60 from rfl, fault_m ht r1, oBs, av, if_pos (show (0 : Int32) ≤ 0 by decide), x2, oVs, show fX12_day_64 FU 0 w2 = _ from x3, x4, if_pos (show nI dn ≤ 0 by rw [h00]; decide), h00]; rfl
      have fm : Fm [(47, 0), (47, 18), (47, 19), (47, 20), (47, 21), (47, 38), (47, 1)] [65, 66, 67, 68, 69, 63, 55] [48] u6 w4 := (((y1.mono rfl rfl rfl).trans (y2.mono rfl rfl rfl)).trans (y3.mono rfl rfl rfl)).trans (y4.mono rfl rfl rfl)
      have hc6 : MoC D m' 4 u6 := by rw [hu6]; exact (c4.2.2.2.2.2.fm f5 rfl rfl).fm (show Fm [(1, 1)] [] [] u5 (sI u5 1 1 0) from Fm.rf.sI rfl) rfl rfl
      have t6 : TolC (dyL rf (mT m')) u6 := by rw [hu6]; exact t5.fm (show Fm [(1, 1)] [] [] u5 (sI u5 1 1 0) from Fm.rf.sI rfl) rfl rfl
      refine ⟨nI dn, u6, w4, ec, em, fin_day (m' := m') hW hR ((f16.mono rfl rfl rfl).trans (fm.mono rfl rfl rfl)) ?_ ?_ c4.2.2.2.2.1 (hc6.fm fm rfl rfl) (M3.2.2.2.2.2.fm y4 rfl) ⟨k, hk, ?_, ?_, fun j hj => ?_⟩ ⟨h', (by omega), ?_⟩ (fun j hj => ?_) (told_of (t6.fm fm rfl rfl) t4 (show 2 ≤ 36 by decide))⟩
      · rw [fm.i 1 1 rfl, hu6]; rfl
      · exact (y4.i 47 18 rfl).trans ((y3.i 47 18 rfl).trans ((y2.i 47 18 rfl).trans g18))
      · rw [fm.i 7 3 rfl, f16.i 7 3 rfl]; exact pa
      · rw [fm.i 47 30 rfl, f16.i 47 30 rfl]; exact pb
      · have e31 : w4.2.1 31 = u.2.1 31 := (fm.a 31 rfl).trans (f16.a 31 rfl)
        have e63 : ∀ i, i < 26 → slotF (w4.2.1 63) j i = slotF (u.2.1 63) j i := fun i hi => by
          show w4.2.1 63 (26 * j + i) = u.2.1 63 (26 * j + i)
          rw [y4.a 63 rfl, y3.a 63 rfl, s2 j i hi, if_neg (by omega), y1.a 63 rfl, f16.a 63 rfl]
        rw [e31]
        exact ⟨(pp j hj).1, MoE_cg ⟨hd.2.2.2.2.1, hd.2.2.2.2.2.1⟩ (fun _ _ => rfl) e63 (pp j hj).2⟩
      · rw [fm.i 4 4 rfl, show u6.1 4 4 = mT m' from hc6.2.2.2.2]; exact T4
      · obtain ⟨h, h1, h2⟩ := hh2 j hj
        exact ⟨h, (by omega), by rw [fm.a 31 rfl, f16.a 31 rfl]; exact h2⟩
    · -- something done
      obtain ⟨u5, e5, k5, p5, f5⟩ := push_c (u := u4) (e := 5) (Or.inr rfl) hk ((f14.i 7 3 rfl).trans pa)
      obtain ⟨u6, e6, t6, f6⟩ := e93 u5 ((f5.i 4 4 rfl).trans c4.gT)
      have ec : fX11_day u = some (nI dn, sI u6 1 1 0) := by
        rw [ed]
        unfold fX11_liveDay_78
        rw [if_neg (nI_nle (show 0 < dn by omega) (by omega)), e5, oVs, e6, oBs]; rfl
      have f17 : Fm [(1, 1), (2, 1), (2, 2), (2, 3), (5, 3), (5, 4), (4, 3), (4, 4), (8, 1), (7, 3)] [25, 26, 27, 22, 23, 24, 31] [33] u (sI u6 1 1 0) := (((f14.mono rfl rfl rfl).trans (f5.mono rfl rfl rfl)).trans (f6.mono rfl rfl rfl)).sI rfl
      obtain ⟨u7, hu7⟩ : ∃ u7, u7 = sI u6 1 1 0 := ⟨_, rfl⟩
      rw [← hu7] at ec f17
      have f67 : Fm [(1, 1)] [] [] u6 u7 := by rw [hu7]; exact Fm.rf.sI rfl
      obtain ⟨w1, x1, r1, s1, g18, y1⟩ := rd u7 ((f17.i 47 18 rfl).trans hxm.1) (by rw [f17.a 57 rfl]; exact hxm.2)
      obtain ⟨k38, sto⟩ := s1 hs1
      rw [Nat.zero_add] at k38
      have M0 : Mw D m 55 u7 := ⟨Or.inl rfl, hW.1, hW.2.2.1.fm f17 rfl rfl, hW.2.2.2.1.fm f17 rfl rfl, hW.2.2.2.2.1, hW.2.2.2.2.2.2.fm f17 rfl⟩
      obtain ⟨w2, x2, s2, y2⟩ := putsBy_m (u := w1) hk ((y1.i 47 30 rfl).trans ((f17.i 47 30 rfl).trans pb))
      obtain ⟨w3, x3, M3, y3⟩ := M4 w2 FU ((M0.fm55 y1 rfl rfl).fm55 y2 rfl rfl) ((y2.i 47 38 rfl).trans k38) (Sto.fm y2 rfl _ _ _ sto) (by decide)
      obtain ⟨w4, x4, t4, y4⟩ := e88 w3 ((y3.i 47 38 rfl).trans ((y2.i 47 38 rfl).trans k38)) M3.gT
      obtain ⟨w5, x5, kk5, s5, y5⟩ := puts_m (u := w4) hk ((y4.i 47 30 rfl).trans ((y3.i 47 30 rfl).trans ((y2.i 47 30 rfl).trans ((y1.i 47 30 rfl).trans ((f17.i 47 30 rfl).trans pb))))) (nI dn)
      have em : fX12_day u7 = some (nI dn, w5) := by
        rw [x1]
        unfold fX12_day_42
        rw [show (60 : Int32) = nI 60 from rfl, fault_m ht r1, oBs, av, if_pos (show (0 : Int32) ≤ 0 by decide), x2, oVs, show fX12_day_64 FU 0 w2 = _ from x3, x4, if_neg (nI_nle (show 0 < dn by omega) (by omega)), x5, oBs]
      have fm : Fm [(47, 0), (47, 18), (47, 19), (47, 20), (47, 21), (47, 38), (47, 1), (47, 30)] [65, 66, 67, 68, 69, 63, 55] [48] u7 w5 := ((((y1.mono rfl rfl rfl).trans (y2.mono rfl rfl rfl)).trans (y3.mono rfl rfl rfl)).trans (y4.mono rfl rfl rfl)).trans (y5.mono rfl rfl rfl)
      have hc7 : MoC D m' 4 u7 := ((c4.2.2.2.2.2.fm f5 rfl rfl).fm f6 rfl rfl).fm f67 rfl rfl
      have t7 : TolC (dyL rf (mT m')) u7 := t6.fm f67 rfl rfl
      have P1 : IsPu k (u.2.1 31) (moC u 4) (w5.2.1 31) := by
        have := p5.cg mo4
        rw [f14.a 31 rfl] at this
        rw [fm.a 31 rfl, f67.a 31 rfl, f6.a 31 rfl]
        exact this
      have P2 : IsPu k (u.2.1 63) (u.2.1 55) (w5.2.1 63) := by
        refine pu_m (g := w4.2.1 63) (fun j i hi => ?_) s5 hk
        rw [y4.a 63 rfl, y3.a 63 rfl, s2 j i hi, y1.a 55 rfl, y1.a 63 rfl, f17.a 55 rfl, f17.a 63 rfl]
      refine ⟨nI dn, u7, w5, ec, em, fin_day (m' := m') hW hR ((f17.mono rfl rfl rfl).trans (fm.mono rfl rfl rfl)) ?_ ?_ c4.2.2.2.2.1 (hc7.fm fm rfl rfl) ((M3.2.2.2.2.2.fm y4 rfl).fm y5 rfl) (past_push ⟨hd.2.2.2.2.1, hd.2.2.2.2.2.1⟩ hk pp hmom.1 hmom.2 P1 P2 ?_ kk5) ⟨h', (by omega), ?_⟩ (hr_push hk P1 hh2 ⟨h0, hh0, eh⟩) (told_of (t7.fm fm rfl rfl) (t4.fm y5 rfl rfl) (show 2 ≤ 36 by decide))⟩
      · rw [fm.i 1 1 rfl, hu7]; rfl
      · exact (y5.i 47 18 rfl).trans ((y4.i 47 18 rfl).trans ((y3.i 47 18 rfl).trans ((y2.i 47 18 rfl).trans g18)))
      · rw [fm.i 7 3 rfl, f67.i 7 3 rfl, f6.i 7 3 rfl]; exact k5
      · rw [fm.i 4 4 rfl, show u7.1 4 4 = mT m' from hc7.2.2.2.2]; exact T4
