/-! day: the loops -/
variable {D : DD} {m m' : MM} {e r : Nat} {u v w : US} {n mo p : Nat} {c : Nat → Nat} {ok : Bool}
/-- acts kept by the model from place i on -/
def Sto (n : Nat) (c : Nat → Nat) : Nat → Nat → Nat → US → Prop
  | 0, _, _, _ => True
  | k + 1, q, i, y => q < min n 60 → (acS n 60 c q).2 = true → AcV n 60 c q i y ∧ Sto n c k (acS n 60 c q).1 (i + 1) y
theorem AcV.cg {q i : Nat} (h : AcV n mo c q i u) (h2 : v.2.1 65 i = u.2.1 65 i ∧ v.2.1 66 i = u.2.1 66 i ∧ v.2.1 67 i = u.2.1 67 i ∧ v.2.1 68 i = u.2.1 68 i ∧ v.2.1 69 i = u.2.1 69 i) : AcV n mo c q i v := by
  obtain ⟨s, a0, a1, a2, a3, a4⟩ := h
  obtain ⟨b1, b2, b3, b4, b5⟩ := h2
  exact ⟨s, a0, b1.trans a1, b2.trans a2, fun w => b3.trans (a3 w), fun w => ⟨b4.trans (a4 w).1, b5.trans (a4 w).2⟩⟩
theorem Sto.fm {a : List (Nat × Nat)} {b d : List Nat} (f : Fm a b d u v) (q0 : [65, 66, 67, 68, 69].all (fun x => !b.contains x) = true) : ∀ k q i, Sto n c k q i u → Sto n c k q i v
  | 0, _, _, _ => trivial
  | k + 1, q, i, h => fun h1 h2 => by
    obtain ⟨a1, a2⟩ := h h1 h2
    exact ⟨a1.cg (Oth.fm (k := i + 1) f q0 i (by omega)), Sto.fm f q0 k _ _ a2⟩
theorem live_d (ht : Tok n 60 c) : ∀ (k i f q h : Nat) (m : MM) (w : US), i + k = 60 → k < f → h + 9 * k < 2 ^ 30 → q ≤ min n 60 → Rc n 60 c q true w → Cw D m 4 w → (dyR n 60 c k q).2.2 = true → (dyR n 60 c k q).2.1 = n → mT m = nI h → ∃ (dn : Nat) (rf : Bool) (m' : MM) (v : US) (h' : Nat), fX11_liveDay_26 f (nI i) 0 (nI i) w = fX11_liveDay_78 (nI dn) (bI rf) v ∧ Cw D m' 4 v ∧ FD w v ∧ mT m' = nI h' ∧ h' ≤ h + 9 * k ∧ dn ≤ i + (dyR n 60 c k q).1 ∧ rf = decide (dn < i + (dyR n 60 c k q).1) ∧ ∀ (y : US) (g : Nat), Mw D m 55 y → gI y 47 38 = nI (i + (dyR n 60 c k q).1) → Sto n c k q i y → k < g → ∃ z, fX12_day_64 g (nI i) y = fX12_day_88 (nI dn) z ∧ Mw D m' 55 z ∧ Fm [] [55] [] y z := by
  intro k
  induction k with
  | zero =>
    intro i f q h m w hi hf hh hq hr hw h1 h2 hT
    obtain ⟨f, rfl⟩ : ∃ f', f = f' + 1 := ⟨f - 1, (by omega)⟩
    have : i = 60 := by omega
    subst this
    refine ⟨60, false, m, w, h, ?_, hw, Fm.rf, hT, (by omega), Nat.le_refl _, (decide_eq_false (Nat.lt_irrefl _)).symm, fun y g hy hk _ hg => ?_⟩
    · rw [fX11_liveDay_26, if_pos (show (60 : Int32) ≤ nI 60 by decide)]; rfl
    · obtain ⟨g, rfl⟩ : ∃ g', g = g' + 1 := ⟨g - 1, (by omega)⟩
      rw [fX12_day_64, hk, if_pos (show nI (60 + (dyR n 60 c 0 q).1) ≤ nI 60 from nI_le (Nat.le_refl 60) (by omega))]
      exact ⟨y, rfl, hy, Fm.rf⟩
  | succ k ih =>
    intro i f q h m w hi hf hh hq hr hw h1 h2 hT
    obtain ⟨f, rfl⟩ : ∃ f', f = f' + 1 := ⟨f - 1, (by omega)⟩
    rw [fX11_liveDay_26, if_neg (show ¬ (60 : Int32) ≤ nI i from nI_ge (b := 60) (by omega) (by omega)), if_pos rfl, peek_c ht hr, oBs]
    rw [dyR] at h1 h2 ⊢
    by_cases hqn : q < min n 60
    · have hcq := ht.2.2 q (by omega)
      rw [if_pos hqn] at h1 h2 ⊢
      rw [pk_y hqn, if_neg (n31 hcq)]
      cases hk : (acS n 60 c q).2 with
      | false => rw [hk, if_neg (by decide)] at h1; cases h1
      | true =>
        rw [hk, if_pos rfl] at h1 h2
        rw [if_pos rfl]
        obtain ⟨a, b, m1, v1, hx, e1, hab, c1, r1, f1, T1, l1, M1⟩ := act_d ht (h := h) (by omega) hqn hw hr hk hT
        rw [e1, oBs]
        unfold fX11_liveDay_59
        cases b with
        | true =>
          have ha : ¬ a < 0 := fun w => by have := hab.mp w; cases this
          obtain ⟨dn, rf, m2, v2, h2', e2, c2, f2, T2, l2, d2, rr2, M2⟩ := ih (i + 1) f (acS n 60 c q).1 hx m1 v1 (by omega) (by omega) (by omega) (ac_le hqn) r1 c1 h1 h2 T1
          rw [if_pos (n_lt.mp ha), if_pos rfl, nI_1, e2]
          have es : i + 1 + (dyR n 60 c k (acS n 60 c q).1).1 = i + ((dyR n 60 c k (acS n 60 c q).1).1 + 1) := by omega
          rw [es] at d2 rr2 M2
          refine ⟨dn, rf, m2, v2, h2', rfl, c2, f1.trans f2, T2, (by omega), d2, rr2, fun y g hy hk38 hS hg => ?_⟩
          obtain ⟨g, rfl⟩ : ∃ g', g = g' + 1 := ⟨g - 1, (by omega)⟩
          obtain ⟨s1, s2⟩ := hS hqn hk
          obtain ⟨z, ez, hz, fz⟩ := M1 i y (by omega) hy s1
          obtain ⟨z2, ez2, hz2, fz2⟩ := M2 z g hz ((fz.i 47 38 rfl).trans hk38) (Sto.fm fz rfl _ _ _ s2) (by omega)
          have hl : i < i + ((dyR n 60 c k (acS n 60 c q).1).1 + 1) := by omega
          have hb : i + ((dyR n 60 c k (acS n 60 c q).1).1 + 1) < 2 ^ 31 ∨ True := Or.inr trivial
          rw [fX12_day_64, hk38, if_neg (nI_ge hl ?_), ez, oBs, if_neg (show ¬ bI true = 0 by decide), nI_1, ez2]
          · exact ⟨z2, rfl, hz2, fz.trans fz2⟩
          · have : ∀ k q, (dyR n 60 c k q).1 ≤ k := by
              intro k
              induction k with
              | zero => intro q; exact Nat.le_refl _
              | succ k ih =>
                intro q
                rw [dyR]
                by_cases w1 : q < min n 60
                · rw [if_pos w1]
                  by_cases w2 : (acS n 60 c q).2 = true
                  · rw [if_pos w2]; exact Nat.succ_le_succ (ih _)
                  · rw [if_neg w2]; exact Nat.zero_le _
                · rw [if_neg w1]; exact Nat.zero_le _
            have := this k (acS n 60 c q).1
            omega
        | false =>
          have ha : a < 0 := hab.mpr rfl
          have hK : ∀ k q, (dyR n 60 c k q).1 ≤ k := by
            intro k
            induction k with
            | zero => intro q; exact Nat.le_refl _
            | succ k ih =>
              intro q
              rw [dyR]
              by_cases w1 : q < min n 60
              · rw [if_pos w1]
                by_cases w2 : (acS n 60 c q).2 = true
                · rw [if_pos w2]; exact Nat.succ_le_succ (ih _)
                · rw [if_neg w2]; exact Nat.zero_le _
              · rw [if_neg w1]; exact Nat.zero_le _
          have hKk := hK k (acS n 60 c q).1
          obtain ⟨f, rfl⟩ : ∃ f', f = f' + 1 := ⟨f - 1, (by omega)⟩
          rw [if_neg (fun w => absurd ha (n_lt.mpr w)), if_neg (show ¬ (1 : Int32) = 0 by decide), fX11_liveDay_26, ad0]
          refine ⟨i, true, m1, v1, hx, ?_, c1, f1, T1, (by omega), (by omega), (decide_eq_true (by omega)).symm, fun y g hy hk38 hS hg => ?_⟩
          · rw [nI_1]
            by_cases q6 : 60 ≤ i + 1
            · rw [if_pos (show (60 : Int32) ≤ nI (i + 1) from nI_le (a := 60) q6 (by omega))]; rfl
            · rw [if_neg (show ¬ (60 : Int32) ≤ nI (i + 1) from nI_ge (b := 60) (by omega) (by omega)), if_neg (show ¬ (1 : Int32) = 0 by decide)]; rfl
          · obtain ⟨g, rfl⟩ : ∃ g', g = g' + 1 := ⟨g - 1, (by omega)⟩
            obtain ⟨s1, s2⟩ := hS hqn hk
            obtain ⟨z, ez, hz, fz⟩ := M1 i y (by omega) hy s1
            rw [fX12_day_64, hk38, if_neg (nI_ge (show i < i + ((dyR n 60 c k (acS n 60 c q).1).1 + 1) by omega) (by omega)), ez, oBs, if_pos (show bI false = 0 from rfl)]
            exact ⟨z, rfl, hz, fz⟩
    · rw [if_neg hqn] at h1 h2 ⊢
      rw [pk_n hqn, if_pos rfl]
      refine ⟨i, false, m, w, h, rfl, hw, Fm.rf, hT, (by omega), Nat.le_refl _, (decide_eq_false (Nat.lt_irrefl _)).symm, fun y g hy hk38 hS hg => ?_⟩
      obtain ⟨g, rfl⟩ : ∃ g', g = g' + 1 := ⟨g - 1, (by omega)⟩
      rw [fX12_day_64, hk38, if_pos (show nI (i + 0) ≤ nI i from nI_le (Nat.le_refl i) (by omega))]
      exact ⟨y, rfl, hy, Fm.rf⟩
/-- the model reads all acts -/
theorem reads_d (ht : Tok n 60 c) : ∀ (k i g q : Nat) (u : US), i + k = 60 → k < g → 2 * i ≤ q → Rm n 60 c q u → gI u 47 38 = nI i → ∃ v, fX12_day_19 g (nI n) 1 u = fX12_day_42 (nI n) (bI (dyR n 60 c k q).2.2) v ∧ Rm n 60 c (dyR n 60 c k q).2.1 v ∧ ((dyR n 60 c k q).2.2 = true → gI v 47 38 = nI (i + (dyR n 60 c k q).1) ∧ Sto n c k q i v) ∧ (∀ j, j < i → v.2.1 65 j = u.2.1 65 j ∧ v.2.1 66 j = u.2.1 66 j ∧ v.2.1 67 j = u.2.1 67 j ∧ v.2.1 68 j = u.2.1 68 j ∧ v.2.1 69 j = u.2.1 69 j) ∧ FA u v := by
  intro k
  induction k with
  | zero =>
    intro i g q u hi hg h2 hr hk
    have := hr.2.2
    omega
  | succ k ih =>
    intro i g q u hi hg h2 hr hk
    obtain ⟨g, rfl⟩ : ∃ g', g = g' + 1 := ⟨g - 1, (by omega)⟩
    have hle := hr.2.2
    have hn := ht.1
    rw [fX12_day_19, if_neg (show ¬ (1 : Int32) = 0 by decide), show gI u 47 20 = nI (min n 60) from hr.1.2, show gI u 47 19 = nI q from hr.2.1, dyR]
    by_cases hqn : q < min n 60
    · obtain ⟨v1, e1, r1, k1, a1, o1, f1⟩ := readsAct_m ht hqn (k := i) (by omega) hr hk
      rw [if_neg (nI_ge hqn (by omega)), e1, oBs, if_pos hqn]
      cases hb : (acS n 60 c q).2 with
      | true =>
        obtain ⟨v2, e2, r2, s2, o2, f2⟩ := ih (i + 1) g (acS n 60 c q).1 v1 (by omega) (by omega) (by have := ac_2 hb; omega) r1 k1
        rw [show bI true = 1 from rfl, e2, if_pos rfl]
        refine ⟨v2, rfl, r2, fun w => ⟨?_, fun _ _ => ⟨(a1 hb).cg (o2 i (by omega)), (s2 w).2⟩⟩, fun j hj => ?_, f1.trans f2⟩
        · rw [(s2 w).1]; congr 1; omega
        · obtain ⟨b1, b2, b3, b4, b5⟩ := o1 j (by omega)
          obtain ⟨d1, d2, d3, d4, d5⟩ := o2 j (by omega)
          exact ⟨d1.trans b1, d2.trans b2, d3.trans b3, d4.trans b4, d5.trans b5⟩
      | false =>
        obtain ⟨g, rfl⟩ : ∃ g', g = g' + 1 := ⟨g - 1, (by omega)⟩
        rw [if_neg (by decide), fX12_day_19, if_pos (show bI false = 0 from rfl)]
        exact ⟨v1, rfl, r1, fun w => (by cases w), fun j hj => o1 j (by omega), f1⟩
    · rw [if_pos (nI_le (by omega) (by omega)), if_neg hqn]
      exact ⟨u, rfl, hr, fun _ => ⟨hk, fun w => absurd w hqn⟩, fun _ _ => ⟨rfl, rfl, rfl, rfl, rfl⟩, Fm.rf⟩
