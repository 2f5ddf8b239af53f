/-! an hour goes by -/
variable {D : DD} {m m' : MM} {e r : Nat} {u v : US}
def goF (D : DD) (f h : Nat) : Nat := (bes D f h).getD f
def goH (D : DD) (f h : Nat) : Nat := if bes D f h = none ∧ ¬ h = 4 then h ^^^ 2 else h
def goM (D : DD) (m : MM) : MM := (fun t => goF D (mF m t) (mH m t), fun t => goH D (mF m t) (mH m t), mO m, mB m, mT m + 1)
/-- the first k things have gone -/
def goK (D : DD) (m : MM) (k : Nat) : MM := (fun t => if t < k then goF D (mF m t) (mH m t) else mF m t, fun t => if t < k then goH D (mF m t) (mH m t) else mH m t, mO m, mB m, mT m)
theorem goF_lt (hd : DatO D) {f h : Nat} (hf : f < dR D * dC D) : goF D f h < dR D * dC D := by
  unfold goF
  cases hb : bes D f h with
  | none => exact hf
  | some g => exact bes_lt hd hf hb
theorem x2_lt : ∀ h : Nat, h < 5 → ¬ h = 4 → h ^^^ 2 < 5 ∧ (h + 2) % 4 = h ^^^ 2 := by decide
theorem goH_lt {f h : Nat} (hh : h < 5) : goH D f h < 5 := by
  unfold goH
  split
  · rename_i q; exact (x2_lt h hh q.2).1
  · exact hh
theorem goK_0 : mEq D m (goK D m 0) := ⟨fun t ht => rfl, fun t ht => rfl, fun p hp => rfl, rfl, rfl⟩
theorem goK_T : mEq D (mST (goK D m (dT D)) (mT m + 1)) (goM D m) := ⟨fun t ht => if_pos ht, fun t ht => if_pos ht, fun p hp => rfl, rfl, rfl⟩
theorem kF_k (k : Nat) : mF (goK D m k) k = mF m k := if_neg (Nat.lt_irrefl k)
theorem kH_k (k : Nat) : mH (goK D m k) k = mH m k := if_neg (Nat.lt_irrefl k)
theorem goK_s {k x y : Nat} (hx : x = goF D (mF m k) (mH m k)) (hy : y = goH D (mF m k) (mH m k)) : mEq D (mSF (mSH (goK D m k) k y) k x) (goK D m (k + 1)) := by
  refine ⟨fun t ht => ?_, fun t ht => ?_, fun p hp => rfl, rfl, rfl⟩
  · show uN' (mF (goK D m k)) k x t = (if t < k + 1 then goF D (mF m t) (mH m t) else mF m t)
    unfold uN'
    by_cases q : t = k
    · subst q; rw [if_pos rfl, if_pos (by omega)]; exact hx
    · rw [if_neg q]
      show (if t < k then _ else _) = _
      by_cases q2 : t < k
      · rw [if_pos q2, if_pos (by omega)]
      · rw [if_neg q2, if_neg (by omega)]
  · show uN' (mH (goK D m k)) k y t = (if t < k + 1 then goH D (mF m t) (mH m t) else mH m t)
    unfold uN'
    by_cases q : t = k
    · subst q; rw [if_pos rfl, if_pos (by omega)]; exact hy
    · rw [if_neg q]
      show (if t < k then _ else _) = _
      by_cases q2 : t < k
      · rw [if_pos q2, if_pos (by omega)]
      · rw [if_neg q2, if_neg (by omega)]
theorem mEq.refl : mEq D m m := ⟨fun _ _ => rfl, fun _ _ => rfl, fun _ _ => rfl, rfl, rfl⟩
theorem mEq.symm (h : mEq D m m') : mEq D m' m := ⟨fun t ht => (h.1 t ht).symm, fun t ht => (h.2.1 t ht).symm, fun t ht => (h.2.2.1 t ht).symm, h.2.2.2.1.symm, h.2.2.2.2.symm⟩
theorem mEq.trans {a b c : MM} (h : mEq D a b) (h2 : mEq D b c) : mEq D a c := ⟨fun t ht => (h.1 t ht).trans (h2.1 t ht), fun t ht => (h.2.1 t ht).trans (h2.2.1 t ht), fun t ht => (h.2.2.1 t ht).trans (h2.2.2.1 t ht), h.2.2.2.1.trans h2.2.2.2.1, h.2.2.2.2.trans h2.2.2.2.2⟩
theorem sF_same {t : Nat} : mEq D (mSF m t (mF m t)) m := ⟨fun i hi => by show uN' (mF m) t (mF m t) i = _; unfold uN'; split; rename_i q; rw [q]; rfl, fun _ _ => rfl, fun _ _ => rfl, rfl, rfl⟩
theorem sH_same {t : Nat} : mEq D (mSH m t (mH m t)) m := ⟨fun _ _ => rfl, fun i hi => by show uN' (mH m) t (mH m t) i = _; unfold uN'; split; rename_i q; rw [q]; rfl, fun _ _ => rfl, rfl, rfl⟩
theorem sF_cg {t x : Nat} (h : mEq D m m') : mEq D (mSF m t x) (mSF m' t x) := ⟨fun i hi => by show uN' (mF m) t x i = uN' (mF m') t x i; unfold uN'; split; rfl; exact h.1 i hi, h.2⟩
theorem sH_cg {t x : Nat} (h : mEq D m m') : mEq D (mSH m t x) (mSH m' t x) := ⟨h.1, fun i hi => by show uN' (mH m) t x i = uN' (mH m') t x i; unfold uN'; split; rfl; exact h.2.1 i hi, h.2.2⟩
abbrev Fw (e : Nat) (u v : US) : Prop := Fm [(e, 4)] [fpt e 0, fpt e 1] [] u v
theorem walk_c (h : Cw D m e u) : ∃ v, fX8_walk e u = some v ∧ Cw D (goM D m) e v ∧ Fw e u v := by
  have b := h.b
  unfold fX8_walk
  rw [gd_t h.im]
  have c0 : ([(e, 4)] : List (Nat × Nat)).contains (e, 4) = true := by rcases h.1 with rfl | rfl <;> rfl
  have c1 : [fpt e 0, fpt e 1].contains (fpt e 0) = true := by rcases h.1 with rfl | rfl <;> rfl
  have c2 : [fpt e 0, fpt e 1].contains (fpt e 1) = true := by rcases h.1 with rfl | rfl <;> rfl
  refine lpE (fun f (x : Int32) w => fX8_walk_2 e f x w) (dT D) (fun i => nI i) (fun k w => Cw D (goK D m k) e w ∧ Fw e u w) (fun o => ∃ v, o = some v ∧ Cw D (goM D m) e v ∧ Fw e u v) ?_ ?_ (by omega) 0 rfl ⟨h.cg goK_0, Fm.rf⟩
  · rintro f k w hk ⟨hw, hf⟩
    have hF := h.2.2.2.2.1.1 k hk
    have hH := h.2.2.2.2.1.2.1 k hk
    left
    rw [fX8_walk_2, hw.xT, if_neg (nI_ge hk (by omega)), hw.l1, gdi (show k < 8 by omega) (by omega), hw.l0, gdi (show k < 8 by omega) (by omega), hw.gF hk, hw.gH hk, kF_k, kH_k, bes_c hw hF hH, oBs]
    cases hb : bes D (mF m k) (mH m k) with
    | none =>
      have gf : goF D (mF m k) (mH m k) = mF m k := by unfold goF; rw [hb]; rfl
      rw [if_pos (show hV none = -1 from rfl)]
      by_cases q4 : mH m k = 4
      · have gh : goH D (mF m k) (mH m k) = mH m k := by unfold goH; rw [if_neg (fun q => q.2 q4)]
        rw [q4, if_pos (show nI 4 = 4 from rfl), nI_1]
        refine ⟨w, ⟨hw.cg ?_, hf⟩, rfl⟩
        have a1 : mEq D (mSF (mSH (goK D m k) k (mH m k)) k (mF m k)) (goK D m (k + 1)) := goK_s gf.symm gh.symm
        have a2 : mEq D (mSH (goK D m k) k (mH m k)) (goK D m k) := by rw [← kH_k (D := D) (m := m) k]; exact sH_same
        have a3 : mEq D (mSF (goK D m k) k (mF m k)) (goK D m k) := by rw [← kF_k (D := D) (m := m) k]; exact sF_same
        exact a3.symm.trans ((sF_cg a2.symm).trans a1)
      · have gh : goH D (mF m k) (mH m k) = mH m k ^^^ 2 := by unfold goH; rw [if_pos ⟨hb, q4⟩]
        rw [if_neg (show ¬ nI (mH m k) = 4 from fun q => q4 ((nI_eq (b := 4) (by omega) (by omega)).mp q)), gdi (show k < 8 by omega) (by omega), nxs, show (2 : Int32) = nI 2 from rfl, fb_xorI, nI_1]
        refine ⟨_, ⟨(hw.sH hk (x2_lt _ hH q4).1).cg ?_, hf.sA c2⟩, rfl⟩
        have a1 := goK_s (D := D) (m := m) (k := k) gf.symm gh.symm
        refine mEq.trans ?_ a1
        have a3 : mEq D (mSF (mSH (goK D m k) k (mH m k ^^^ 2)) k (mF (mSH (goK D m k) k (mH m k ^^^ 2)) k)) (mSH (goK D m k) k (mH m k ^^^ 2)) := sF_same
        rw [show mF (mSH (goK D m k) k (mH m k ^^^ 2)) k = mF m k from kF_k k] at a3
        exact a3.symm
    | some g =>
      have hg := bes_lt h.2.1 hF hb
      have hRC := h.2.1.RC
      have gf : goF D (mF m k) (mH m k) = g := by unfold goF; rw [hb]; rfl
      have gh : goH D (mF m k) (mH m k) = mH m k := by unfold goH; rw [hb, if_neg (fun q => by cases q.1)]
      rw [if_neg (show ¬ hV (some g) = -1 from n31 (by omega)), gdi (show k < 8 by omega) (by omega), nxs, nI_1]
      refine ⟨_, ⟨(hw.sF hk hg).cg ?_, hf.sA c1⟩, rfl⟩
      have a1 := goK_s (D := D) (m := m) (k := k) gf.symm gh.symm
      refine mEq.trans (sF_cg ?_) a1
      rw [← kH_k (D := D) (m := m) k]; exact sH_same.symm
  · rintro f w ⟨hw, hf⟩
    rw [fX8_walk_2, hw.xT, if_pos (nI_le (Nat.le_refl _) (by omega)), nxs, hw.gT]
    exact ⟨_, rfl, hw.sT.cg goK_T, hf.sI c0⟩
theorem rem4 {h : Nat} (hh : h < 5) : (nI h + 2) - (nI h + 2) / 4 * 4 = nI ((h + 2) % 4) := by
  rw [show nI h + 2 = nI (h + 2) from nI_add h 2]
  exact pk_rem (d := 4) (by omega) (by omega) (by omega)
theorem hour_m (h : Mw D m r u) : ∃ v, fX12_hourGoes r u = some v ∧ Mw D (goM D m) r v ∧ Fm [] [r] [] u v := by
  have b := h.b
  unfold fX12_hourGoes
  rw [gd_t h.im]
  have c1 : [r].contains r = true := by simp
  refine lpE (fun f (x : Int32) w => fX12_hourGoes_2 r f x w) (dT D) (fun i => nI i) (fun k w => Mw D (goK D m k) r w ∧ Fm [] [r] [] u w) (fun o => ∃ v, o = some v ∧ Mw D (goM D m) r v ∧ Fm [] [r] [] u v) ?_ ?_ (by omega) 0 rfl ⟨h.cg goK_0, Fm.rf⟩
  · rintro f k w hk ⟨hw, hf⟩
    have hF := h.2.2.2.2.1.1 k hk
    have hH := h.2.2.2.2.1.2.1 k hk
    have hRC := h.2.1.RC
    left
    rw [fX12_hourGoes_2, hw.xT, if_neg (nI_ge hk (by omega)), ad8, hw.l, gdi (show 8 + k < 26 by omega) (by omega), gdi (show k < 26 by omega) (by omega), hw.gF hk, hw.gH hk, kF_k, kH_k, bes_m hw hF hH, oBs]
    have key : ∀ (x y : Nat), x = goF D (mF m k) (mH m k) → y = goH D (mF m k) (mH m k) → Mw D (goK D m (k + 1)) r (sA (sA w r (nI (8 + k)) (nI y)) r (nI k) (nI x)) ∧ Fm [] [r] [] u (sA (sA w r (nI (8 + k)) (nI y)) r (nI k) (nI x)) := fun x y hx hy => ⟨((hw.sH hk (by rw [hy]; exact goH_lt hH)).sF hk (by rw [hx]; exact goF_lt h.2.1 hF)).cg (goK_s hx hy), (hf.sA c1).sA c1⟩
    cases hb : besM D (mF m k) (mH m k) with
    | none =>
      have q4 : ¬ mH m k = 4 := fun q => by unfold besM at hb; rw [if_pos q] at hb; cases hb
      have hb2 : bes D (mF m k) (mH m k) = none := by unfold besM at hb; rw [if_neg q4] at hb; exact hb
      have gf : goF D (mF m k) (mH m k) = mF m k := by unfold goF; rw [hb2]; rfl
      have gh : goH D (mF m k) (mH m k) = (mH m k + 2) % 4 := by unfold goH; rw [if_pos ⟨hb2, q4⟩, (x2_lt _ hH q4).2]
      have hy : (mH m k + 2) % 4 < 5 := by omega
      rw [if_neg (show ¬ 0 ≤ hV none by decide), if_neg (by decide), rem4 hH, fX12_hourGoes_46, hw.l, gdi (show 8 + k < 26 by omega) (by omega), nxs, if_neg (show ¬ 0 ≤ hV none by decide), gdi (show k < 26 by omega) (by omega), gdi (show k < 26 by omega) (by omega), nxs, (hw.sH hk hy).gF hk, show mF (mSH (goK D m k) k ((mH m k + 2) % 4)) k = mF m k from kF_k k, nI_1]
      exact ⟨_, key _ _ gf.symm gh.symm, rfl⟩
    | some g =>
      have gx : g = goF D (mF m k) (mH m k) ∧ mH m k = goH D (mF m k) (mH m k) := by
        unfold besM at hb
        by_cases q4 : mH m k = 4
        · rw [if_pos q4] at hb
          cases hb
          rw [q4]
          exact ⟨rfl, rfl⟩
        · rw [if_neg q4] at hb
          exact ⟨by unfold goF; rw [hb]; rfl, by unfold goH; rw [hb, if_neg (fun q => by cases q.1)]⟩
      have hg : g < dR D * dC D := by rw [gx.1]; exact goF_lt h.2.1 hF
      have hp : 0 ≤ hV (some g) := nI_pos' (n := g) (by omega)
      rw [if_pos hp, fX12_hourGoes_46, hw.l, gdi (show 8 + k < 26 by omega) (by omega), nxs, if_pos hp, gdi (show k < 26 by omega) (by omega), nxs, nI_1]
      exact ⟨_, key g (mH m k) gx.1 gx.2, rfl⟩
  · rintro f w ⟨hw, hf⟩
    rw [fX12_hourGoes_2, hw.xT, if_pos (nI_le (Nat.le_refl _) (by omega)), hw.l, gd_t (show inb 25 26 = true from rfl), gd_t (show inb 25 26 = true from rfl), nxs, hw.gT]
    exact ⟨_, rfl, hw.sT.cg goK_T, hf.sA c1⟩
def goI (D : DD) (m : MM) : Nat → MM
  | 0 => m
  | n + 1 => goM D (goI D m n)
/-! copies -/
theorem cpy8 (f g : Nat → Int32) {j : Nat} (h : j < 8) : va_cpy f g (0 : Int32).toNatClampNeg (0 : Int32).toNatClampNeg (8 : Int32).toNatClampNeg j = f j := by
  rw [show (0 : Int32).toNatClampNeg = 0 from rfl, show (8 : Int32).toNatClampNeg = 8 from rfl, pk_cpy_in (by omega) (by omega), Nat.sub_zero, Nat.zero_add]
theorem copy6 (h : Cw D m 4 u) : ∃ v, fX1_copy 6 4 u = some v ∧ Cw D m 6 v ∧ Fm [(6, 3), (6, 4)] [28, 29, 30] [] u v := by
  have b := h.b
  obtain ⟨-, h2, h3, h4, h5, h6⟩ := h
  have f : Fm [(6, 3), (6, 4)] [28, 29, 30] [] u (sI (sI (sF (sF (sF u 28 (va_cpy (u.2.1 22) (u.2.1 28) (0 : Int32).toNatClampNeg (0 : Int32).toNatClampNeg (8 : Int32).toNatClampNeg)) 29 (va_cpy (u.2.1 23) (u.2.1 29) (0 : Int32).toNatClampNeg (0 : Int32).toNatClampNeg (8 : Int32).toNatClampNeg)) 30 (va_cpy (u.2.1 24) (u.2.1 30) (0 : Int32).toNatClampNeg (0 : Int32).toNatClampNeg (8 : Int32).toNatClampNeg)) 6 3 (u.1 4 3)) 6 4 (u.1 4 4)) := ((((Fm.rf.sF rfl).sF rfl).sF rfl).sI rfl).sI rfl
  refine ⟨_, rfl, ⟨Or.inr rfl, h2, h3.fm f rfl rfl, h4.fm f rfl rfl, h5, ?_, ?_, ?_, h6.2.2.2.1, h6.2.2.2.2⟩, f⟩
  · intro j hj
    show va_cpy (u.2.1 22) (u.2.1 28) _ _ _ j = _
    rw [cpy8 _ _ (by omega)]; exact h6.1 j hj
  · intro j hj
    show va_cpy (u.2.1 23) (u.2.1 29) _ _ _ j = _
    rw [cpy8 _ _ (by omega)]; exact h6.2.1 j hj
  · intro j hj
    show va_cpy (u.2.1 24) (u.2.1 30) _ _ _ j = _
    rw [cpy8 _ _ (by omega)]; exact h6.2.2.1 j hj
theorem copies56 (h : Mw D m 55 u) : ∃ v, fX12_copies u = some v ∧ Mw D m 56 v ∧ Fm [] [56] [] u v := by
  have b := h.b
  unfold fX12_copies
  refine lpE (fun f (x : Int32) w => fX12_copies_2 f x w) 26 (fun i => nI i) (fun k w => (∀ j, j < k → w.2.1 56 j = u.2.1 55 j) ∧ Fm [] [56] [] u w) (fun o => ∃ v, o = some v ∧ Mw D m 56 v ∧ Fm [] [56] [] u v) ?_ ?_ (by omega) 0 rfl ⟨fun j hj => absurd hj (Nat.not_lt_zero j), Fm.rf⟩
  · rintro f k w hk ⟨hw, hf⟩
    left
    rw [fX12_copies_2, if_neg (show ¬ (26 : Int32) ≤ nI k from nI_ge (b := 26) hk (by omega)), gdi hk (by omega), gdi hk (by omega), nxs, nI_1]
    refine ⟨_, ⟨fun j hj => ?_, hf.sA rfl⟩, rfl⟩
    show upd (w.2.1 56) (nI k).toNatClampNeg (w.2.1 55 (nI k).toNatClampNeg) j = _
    rw [nI_clamp (by omega), hf.a 55 rfl]
    by_cases q : j = k
    · subst q; rw [pk_us]
    · rw [pk_un q]; exact hw j (by omega)
  · rintro f w ⟨hw, hf⟩
    rw [fX12_copies_2, if_pos (show (26 : Int32) ≤ nI 26 by decide)]
    obtain ⟨-, h2, h3, h4, h5, q1, q2, q3, q4, q5⟩ := h
    refine ⟨w, rfl, ⟨Or.inr rfl, h2, h3.fm hf rfl rfl, h4.fm hf rfl rfl, h5, ?_, ?_, ?_, ?_, ?_⟩, hf⟩
    · intro t ht; rw [hw t (by omega)]; exact q1 t ht
    · intro t ht; rw [hw _ (by omega)]; exact q2 t ht
    · intro t ht; rw [hw _ (by omega)]; exact q3 t ht
    · rw [hw _ (by omega)]; exact q4
    · rw [hw _ (by omega)]; exact q5
