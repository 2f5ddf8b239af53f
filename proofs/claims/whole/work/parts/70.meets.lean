/-! meets -/
variable {D : DD} {m m' : MM} {e r : Nat} {u v : US}
def onN (D : DD) (m : MM) (r f : Nat) : Nat := bN (fun t => seB D m r t && decide (mF m t = f)) (dT D)
def meB (D : DD) (m : MM) (r f : Nat) : Bool := decide (2 ≤ pcN (onN D m r f))
theorem onN_256 (h : DatO D) (r f : Nat) : onN D m r f < 256 := bN_256 h.1.2.2.2.2.1
theorem pc_mono {a b : Nat} (h : ∀ i, a.testBit i = true → b.testBit i = true) : pcN a ≤ pcN b := fb_ct_sub (fun k _ q => h k q)
theorem on_le (D : DD) (m : MM) (r f : Nat) : pcN (onN D m r f) ≤ pcN (seN D m r) := pc_mono (fun i q => by
  rw [onN, bN_tb, Bool.and_eq_true, Bool.and_eq_true] at q
  rw [seN, bN_tb, q.1, q.2.1]; rfl)
def toN (D : DD) (m : MM) (f : Nat) : Nat := bN (fun t => decide (mF m t = f)) (dT D)
theorem on_c (h : Cw D m e u) {f : Nat} (hf : f < 36) : fX8_thingsOn e (nI f) u = some (nI (toN D m f), u) := by
  have b := h.b
  have hRC := h.2.1.RC
  unfold fX8_thingsOn
  rw [gd_t h.im]
  refine lpS (fun g k => fX8_thingsOn_5 e (nI f) g (nI (bN (fun t => decide (mF m t = f)) k)) (nI k) u) (dT D) _ (fun n k hk => ?_) (fun n => ?_) FU 0 (FUg (by omega)) (Nat.zero_le _)
  · show fX8_thingsOn_5 e (nI f) (n + 1) (nI (bN (fun t => decide (mF m t = f)) k)) (nI k) u = fX8_thingsOn_5 e (nI f) n (nI (bN (fun t => decide (mF m t = f)) (k + 1))) (nI (k + 1)) u
    have hF := h.2.2.2.2.1.1 k hk
    rw [fX8_thingsOn_5, h.xT, if_neg (nI_ge hk (by omega)), h.l0, gdi (show k < 8 by omega) (by omega), h.gF hk, nI_1]
    exact bit_p (p := fun t => decide (mF m t = f)) (by omega) (by rw [nI_eq (by omega) (by omega)]; exact decide_eq_true_iff.symm) (fun a => fX8_thingsOn_5 e (nI f) n a (nI (k + 1)) u)
  · show fX8_thingsOn_5 e (nI f) (n + 1) (nI (bN (fun t => decide (mF m t = f)) (dT D))) (nI (dT D)) u = _
    rw [fX8_thingsOn_5, h.xT, if_pos (nI_le (Nat.le_refl _) (by omega))]; rfl
theorem se_to (D : DD) (m : MM) (r f : Nat) : seN D m r &&& toN D m f = onN D m r f := by
  apply tb_ext; intro i
  rw [Nat.testBit_and, seN, toN, onN, bN_tb, bN_tb, bN_tb]
  cases decide (i < dT D) <;> simp
theorem tmeet_c (h : Cw D m 6 u) (r : Nat) : (fsN (meB D m r) (dR D * dC D) = none ∧ fX11_tellMeeting (nI (seN D m r)) u = some (0, u)) ∨ (∃ f v, fsN (meB D m r) (dR D * dC D) = some f ∧ fX11_tellMeeting (nI (seN D m r)) u = some (1, v) ∧ TolC [(nI f).toInt64, (nI (onN D m r f)).toInt64] v ∧ Tc u v) := by
  have b := h.b
  have hRC := h.2.1.RC
  have h8 := seN_256 (m := m) h.2.1 r
  have hp8 := pcN_le (seN D m r)
  unfold fX11_tellMeeting
  rw [bc_n h8, oBs]
  by_cases q : 2 ≤ pcN (seN D m r)
  · rw [if_pos (show (2 : Int32) ≤ nI (pcN (seN D m r)) from nI_le (a := 2) q (by omega))]
    refine lpE (fun f (x : Int32) w => fX11_tellMeeting_12 (nI (seN D m r)) f x w) (dR D * dC D) (fun i => nI i) (fun i w => fsN (meB D m r) i = none ∧ w = u) (fun o => (fsN (meB D m r) (dR D * dC D) = none ∧ o = some (0, u)) ∨ (∃ f v, fsN (meB D m r) (dR D * dC D) = some f ∧ o = some (1, v) ∧ TolC [(nI f).toInt64, (nI (onN D m r f)).toInt64] v ∧ Tc u v)) ?_ ?_ (by omega) 0 rfl ⟨rfl, rfl⟩
    · rintro f i w hi ⟨hq, rfl⟩
      have hp := pcN_le (onN D m r i)
      rw [fX11_tellMeeting_12, flds_c h, oBs, if_neg (nI_ge hi (by omega)), on_c h (by omega), oBs, fa_and, se_to, bc_n (onN_256 h.2.1 r i), oBs]
      cases hm : meB D m r i with
      | false =>
        left
        unfold meB at hm
        rw [decide_eq_false_iff_not] at hm
        rw [if_pos (show nI (pcN (onN D m r i)) < (2 : Int32) from nI_lt (b := 2) (by omega) (by omega)), nI_1]
        exact ⟨w, ⟨fs_n hq (by unfold meB; exact decide_eq_false hm), rfl⟩, rfl⟩
      | true =>
        right; right
        obtain ⟨v2, e2, t2, f2⟩ := tl2_c (nI i).toInt64 (nI (onN D m r i)).toInt64 w
        have hm2 := hm
        unfold meB at hm2
        rw [decide_eq_true_iff] at hm2
        rw [if_neg (show ¬ nI (pcN (onN D m r i)) < (2 : Int32) from nI_nlt (b := 2) hm2 (by omega)), e2, oVs]
        exact ⟨i, v2, fs_yN hq hm hi, rfl, t2, f2⟩
    · rintro f w ⟨hq, rfl⟩
      left
      rw [fX11_tellMeeting_12, flds_c h, oBs, if_pos (nI_le (Nat.le_refl _) (by omega))]
      exact ⟨hq, rfl⟩
  · left
    rw [if_neg (show ¬ (2 : Int32) ≤ nI (pcN (seN D m r)) from nI_ge (b := 2) (by omega) (by omega))]
    refine ⟨fs_none (fun k _ => ?_), rfl⟩
    unfold meB
    have := on_le D m r k
    exact decide_eq_false (by omega)
def mtB (D : DD) (m : MM) (r k : Nat) : Bool := (fsN (meB D (goI D m k) r) (dR D * dC D)).isSome
theorem meets_c (h : Cw D m 4 u) {r : Nat} (hr : r < dM D) : (∃ v, fsN (mtB D m r) 100 = none ∧ fX11_meets (nI r) u = some (-2, v) ∧ Fr u v) ∨ (∃ v k f, fsN (mtB D m r) 100 = some k ∧ fsN (meB D (goI D m k) r) (dR D * dC D) = some f ∧ fX11_meets (nI r) u = some (nI k, v) ∧ TolC [(nI f).toInt64, (nI (onN D (goI D m k) r f)).toInt64] v ∧ Ft u v) := by
  have b := h.b
  obtain ⟨u1, e1, h1, f1⟩ := copy6 h
  unfold fX11_meets
  rw [isR_cy h hr, oBs, if_neg (by decide), e1, oVs]
  refine lpE (fun f (x : Int32) w => fX11_meets_26 (nI r) f x w) 100 (fun i => nI i) (fun i w => fsN (mtB D m r) i = none ∧ Cw D (goI D m i) 6 w ∧ Fr u w) (fun o => (∃ v, fsN (mtB D m r) 100 = none ∧ o = some (-2, v) ∧ Fr u v) ∨ (∃ v k f, fsN (mtB D m r) 100 = some k ∧ fsN (meB D (goI D m k) r) (dR D * dC D) = some f ∧ o = some (nI k, v) ∧ TolC [(nI f).toInt64, (nI (onN D (goI D m k) r f)).toInt64] v ∧ Ft u v)) ?_ ?_ (by omega) 0 rfl ⟨rfl, h1, f1.mono rfl rfl rfl⟩
  · rintro f i w hi ⟨hq, hw, hf⟩
    obtain ⟨v, e1, f1⟩ := seen_c hw hr
    have hv := hw.sx f1
    rw [fX11_meets_26, if_neg (show ¬ (99 : Int32) < nI i from nI_nlt (a := 99) (by omega) (by omega)), e1, oBs]
    rcases tmeet_c hv r with ⟨q1, e2⟩ | ⟨g, v2, q1, e2, t2, f2⟩
    · obtain ⟨v3, e3, h3, f3⟩ := walk_c hv
      left
      rw [e2, oBs, if_pos rfl, e3, oVs, nI_1]
      exact ⟨v3, ⟨fs_n hq (by unfold mtB; rw [q1]; rfl), h3, (hf.trans f1.fr).trans (f3.mono rfl rfl rfl)⟩, rfl⟩
    · right; right
      rw [e2, oBs, if_neg (by decide)]
      exact ⟨v2, i, g, fs_yN hq (by unfold mtB; rw [q1]; rfl) hi, q1, rfl, t2, (hf.trans f1.fr).ft.trans f2.tcft⟩
  · rintro f w ⟨hq, hw, hf⟩
    left
    rw [fX11_meets_26, if_pos (show (99 : Int32) < nI 100 by decide)]
    exact ⟨w, hq, rfl, hf⟩
theorem m60_m (h : Mw D m 56 u) {r f : Nat} (hr : r < dM D) (hf : f < 36) (x : Int32) (K : Int32 → US → Option (Int32 × US)) (k40 : Int32 → Int32 → Int32 → US → Option (Int32 × US)) (y : Int32) : (meB D m r f = false → fX12_meets_60 x K k40 FU y (nI (seN D m r)) (nI f) 0 0 u = k40 y (nI (seN D m r)) (nI (f + 1)) u) ∧ (meB D m r f = true → ∃ v, fX12_meets_60 x K k40 FU y (nI (seN D m r)) (nI f) 0 0 u = some (y, v) ∧ TolM [(nI f).toInt64, (nI (onN D m r f)).toInt64] v ∧ Fq u v) := by
  have b := h.b
  have hRC := h.2.1.RC
  have h8 := seN_256 (m := m) h.2.1 r
  have hp := pcN_le (onN D m r f)
  refine lpF (fun g (z : Int32 × Int32) w => fX12_meets_60 x K k40 g y (nI (seN D m r)) (nI f) z.1 z.2 w) (dT D) (fun i => (nI (bN (fun t => seB D m r t && decide (mF m t = f)) i), nI i)) (fun w => w = u) (fun o => (meB D m r f = false → o = k40 y (nI (seN D m r)) (nI (f + 1)) u) ∧ (meB D m r f = true → ∃ v, o = some (y, v) ∧ TolM [(nI f).toInt64, (nI (onN D m r f)).toInt64] v ∧ Fq u v)) ?_ ?_ (by omega) (0, 0) rfl rfl
  · intro g k w hk hw
    subst hw
    refine ⟨w, rfl, ?_⟩
    dsimp only
    have hF := h.2.2.2.2.1.1 k hk
    rw [fX12_meets_60, h.xT, if_neg (nI_ge hk (by omega)), has_m (by omega) (by omega), oBs, show (seN D m r).testBit k = seB D m r k by rw [seN, bN_tb, decide_eq_true hk, Bool.true_and], nI_1, or_0]
    cases hs : seB D m r k with
    | false => rw [if_pos (show bI false = 0 from rfl), bN_n (p := fun t => seB D m r t && decide (mF m t = f)) (by rw [hs]; rfl)]
    | true =>
      rw [if_neg (show ¬ bI true = 0 by decide), gdi (show k < 26 by omega) (by omega), h.gF hk]
      exact bit_p (p := fun t => seB D m r t && decide (mF m t = f)) (by omega) (by rw [nI_eq (by omega) (by omega), hs, Bool.true_and]; exact decide_eq_true_iff.symm) (fun a => fX12_meets_60 x K k40 g y (nI (seN D m r)) (nI f) a (nI (k + 1)) w)
  · intro g w hw
    subst hw
    dsimp only
    rw [fX12_meets_60, h.xT, if_pos (nI_le (Nat.le_refl _) (by omega)), show bN (fun t => seB D m r t && decide (mF m t = f)) (dT D) = onN D m r f from rfl, bc_n (onN_256 h.2.1 r f), oBs, nI_1]
    constructor
    · intro hm
      unfold meB at hm
      rw [decide_eq_false_iff_not] at hm
      rw [if_pos (show nI (pcN (onN D m r f)) ≤ (1 : Int32) from nI_le (b := 1) (by omega) (by omega))]
    · intro hm
      unfold meB at hm
      rw [decide_eq_true_iff] at hm
      obtain ⟨v1, e1, t1, f1⟩ := en_m (clr_m w) (by decide) (nI f).toInt64
      obtain ⟨v2, e2, t2, f2⟩ := en_m t1 (by simp) (nI (onN D m r f)).toInt64
      rw [if_neg (show ¬ nI (pcN (onN D m r f)) ≤ (1 : Int32) from nI_ge (a := 1) (by omega) (by omega)), nxs, e1, oVs, e2, oVs]
      exact ⟨v2, rfl, t2, (((Fm.rf (u := w)).sI rfl).trans f1.mq).trans f2.mq⟩
theorem m40_m (h : Mw D m 56 u) {r : Nat} (hr : r < dM D) (x : Int32) (K : Int32 → US → Option (Int32 × US)) (y : Int32) : (fsN (meB D m r) (dR D * dC D) = none ∧ ∃ v, fX12_meets_40 x K FU y (nI (seN D m r)) 0 u = K (y + 1) v ∧ Mw D (goM D m) 56 v ∧ Fm [] [56] [] u v) ∨ (∃ f v, fsN (meB D m r) (dR D * dC D) = some f ∧ fX12_meets_40 x K FU y (nI (seN D m r)) 0 u = some (y, v) ∧ TolM [(nI f).toInt64, (nI (onN D m r f)).toInt64] v ∧ Fq u v) := by
  have b := h.b
  have hRC := h.2.1.RC
  refine lpE (fun f (z : Int32) w => fX12_meets_40 x K f y (nI (seN D m r)) z w) (dR D * dC D) (fun i => nI i) (fun i w => fsN (meB D m r) i = none ∧ w = u) (fun o => (fsN (meB D m r) (dR D * dC D) = none ∧ ∃ v, o = K (y + 1) v ∧ Mw D (goM D m) 56 v ∧ Fm [] [56] [] u v) ∨ (∃ f v, fsN (meB D m r) (dR D * dC D) = some f ∧ o = some (y, v) ∧ TolM [(nI f).toInt64, (nI (onN D m r f)).toInt64] v ∧ Fq u v)) ?_ ?_ (by omega) 0 rfl ⟨rfl, rfl⟩
  · rintro f i w hi ⟨hq, rfl⟩
    have key := m60_m h hr (f := i) (by omega) x K (fX12_meets_40 x K f) y
    rw [fX12_meets_40, h.xR, h.xC, pk_mul, if_neg (nI_ge hi (by omega))]
    cases hm : meB D m r i with
    | false => left; exact ⟨w, ⟨fs_n hq hm, rfl⟩, key.1 hm⟩
    | true =>
      right; right
      obtain ⟨v, e1, t1, f1⟩ := key.2 hm
      exact ⟨i, v, fs_yN hq hm hi, e1, t1, f1⟩
  · rintro f w ⟨hq, rfl⟩
    obtain ⟨v, e1, h1, f1⟩ := hour_m h
    left
    rw [fX12_meets_40, h.xR, h.xC, pk_mul, if_pos (nI_le (Nat.le_refl _) (by omega)), e1, oVs]
    exact ⟨hq, v, rfl, h1, f1⟩
theorem meets_m (h : Mw D m 55 (sI u 47 0 0)) {r : Nat} (hr : r < dM D) : (∃ v, fsN (mtB D m r) 100 = none ∧ fX12_meets (nI r) u = some (-2, v) ∧ Fr u v) ∨ (∃ v k f, fsN (mtB D m r) 100 = some k ∧ fsN (meB D (goI D m k) r) (dR D * dC D) = some f ∧ fX12_meets (nI r) u = some (nI k, v) ∧ TolM [(nI f).toInt64, (nI (onN D (goI D m k) r f)).toInt64] v ∧ Fq u v) := by
  have b := h.b
  obtain ⟨u1, e1, h1, f1⟩ := copies56 h
  have k0 : Fr u (sI u 47 0 0) := Fm.rf.sI rfl
  rw [fX12_meets, nxs, isR_my h hr, oBs, if_neg (by decide), e1, oVs]
  refine lpE (fun f (x : Int32) w => fX12_meets_21 (nI r) f x w) 100 (fun i => nI i) (fun i w => fsN (mtB D m r) i = none ∧ Mw D (goI D m i) 56 w ∧ Fr u w) (fun o => (∃ v, fsN (mtB D m r) 100 = none ∧ o = some (-2, v) ∧ Fr u v) ∨ (∃ v k f, fsN (mtB D m r) 100 = some k ∧ fsN (meB D (goI D m k) r) (dR D * dC D) = some f ∧ o = some (nI k, v) ∧ TolM [(nI f).toInt64, (nI (onN D (goI D m k) r f)).toInt64] v ∧ Fq u v)) ?_ ?_ (by omega) 0 rfl ⟨rfl, h1, k0.trans (f1.mono rfl rfl rfl)⟩
  · rintro f i w hi ⟨hq, hw, hf⟩
    obtain ⟨v, e1, f1⟩ := seen_m hw hr
    have hv := hw.sx f1
    rw [fX12_meets_21, if_neg (show ¬ (99 : Int32) < nI i from nI_nlt (a := 99) (by omega) (by omega)), e1, oBs]
    rcases m40_m hv hr (nI r) (fX12_meets_21 (nI r) f) (nI i) with ⟨q1, v2, e2, h2, f2⟩ | ⟨g, v2, q1, e2, t2, f2⟩
    · left
      rw [e2, nI_1]
      exact ⟨v2, ⟨fs_n hq (by unfold mtB; rw [q1]; rfl), h2, (hf.trans f1.fr).trans (f2.mono rfl rfl rfl)⟩, rfl⟩
    · right; right
      rw [e2]
      exact ⟨v2, i, g, fs_yN hq (by unfold mtB; rw [q1]; rfl) hi, q1, rfl, t2, (hf.trans f1.fr).rq.trans f2⟩
  · rintro f w ⟨hq, hw, hf⟩
    left
    rw [fX12_meets_21, if_pos (show (99 : Int32) < nI 100 by decide)]
    exact ⟨w, hq, rfl, hf⟩
theorem st_20 : St_20 Inv := by
  intro n a1 u hn hI
  obtain ⟨D, m, hW, hR⟩ := Inv_to hI
  have hc := hW.cw
  have hM0 : Mw D m 55 (sI u 47 0 0) := (hW.fr (Fm.rf.sI rfl)).mw
  by_cases h0 : isIx (dM D) a1
  · obtain ⟨r, hr, rfl⟩ := h0
    rcases meets_c hc hr with ⟨w1, q1, e1, f1⟩ | ⟨w1, k, f, q1, p1, e1, t1, f1⟩
    · have hM := (hW.ft (f1.ft.trans (Fm.rf.sI rfl : Ft w1 (sI w1 47 0 0)))).mw
      rcases meets_m hM hr with ⟨w2, q2, e2, f2⟩ | ⟨w2, k2, g2, q2, p2, e2, t2, f2⟩
      · exact ⟨_, w1, w2, e1, e2, Inv_Fr hI (f1.trans f2)⟩
      · rw [q1] at q2; cases q2
    · have hM := (hW.ft (f1.trans (Fm.rf.sI rfl : Ft w1 (sI w1 47 0 0)))).mw
      rcases meets_m hM hr with ⟨w2, q2, e2, f2⟩ | ⟨w2, k2, g2, q2, p2, e2, t2, f2⟩
      · rw [q1] at q2; cases q2
      · rw [q1] at q2; cases q2
        rw [p1] at p2; cases p2
        exact ⟨_, w1, w2, e1, e2, q_told hI f1 t1 f2 t2 (by simp)⟩
  · refine ⟨-1, u, sI u 47 0 0, ?_, ?_, q_no hI⟩
    · unfold fX11_meets
      rw [isR_cn hc h0, oBs, if_pos rfl]
    · rw [fX12_meets, nxs, isR_mn hM0 h0, oBs, if_pos rfl]
