/-! steals, the class -/
variable {D : DD} {m m' : MM} {e r : Nat} {u v : US} {dk : Nat → Bool} {g : Nat}
def rgN (D : DD) (dk : Nat → Bool) (g k : Nat) : Nat := bN (rgB D dk g k) (dR D * dC D)
def frN (D : DD) (dk : Nat → Bool) (g k : Nat) : Nat := bN (frB D dk g k) (dR D * dC D)
theorem rgN_lt (hd : DatO D) (k : Nat) : rgN D dk g k < 2 ^ 36 := Nat.lt_of_lt_of_le (bN_lt _ _) (Nat.pow_le_pow_right (by decide) hd.RC)
theorem frN_lt (hd : DatO D) (k : Nat) : frN D dk g k < 2 ^ 36 := Nat.lt_of_lt_of_le (bN_lt _ _) (Nat.pow_le_pow_right (by decide) hd.RC)
theorem fr_st (hd : DatO D) (k : Nat) : nmL (frN D dk g k) (rgN D dk g k) = frN D dk g (k + 1) := by
  have hl := frN_lt (dk := dk) (g := g) hd k
  apply tb_ext; intro i
  rw [nmL_tb (by omega), frN, rgN, frN, bN_tb, bN_tb, bN_tb, fr_s]
  cases decide (i < dR D * dC D) <;> simp
theorem rg_st (hd : DatO D) (k : Nat) : bsN' D (rgN D dk g k) (dR D * dC D) &&& frN D dk g (k + 1) = rgN D dk g (k + 1) := by
  have hRC := hd.RC
  apply tb_ext; intro i
  rw [Nat.testBit_and, bsN', bN_tb, frN, bN_tb, show (rgN D dk g (k + 1)).testBit i = (decide (i < dR D * dC D) && rgB D dk g (k + 1) i) from by rw [rgN, bN_tb], rg_s]
  by_cases hi : i < dR D * dC D
  · rw [decide_eq_true hi, decide_eq_true (show i < 36 by omega), anyB_cong (p := fun f => (rgN D dk g k).testBit f && nbB D f i) (q := fun x => rgB D dk g k x && nbB D x i) (fun f hf => by rw [rgN, bN_tb, decide_eq_true hf, Bool.true_and])]
    simp
  · simp [hi]
theorem rg_0 (hg : g < dR D * dC D) : 2 ^ g &&& bN dk (dR D * dC D) = rgN D dk g 0 := by
  apply tb_ext; intro j
  rw [Nat.testBit_and, Nat.testBit_two_pow, bN_tb, rgN, bN_tb]
  show _ = (decide (j < dR D * dC D) && (decide (j = g) && dk j))
  by_cases e : j = g
  · subst e; simp
  · rw [decide_eq_false (fun w => e w.symm), decide_eq_false e]; simp
theorem rgN_z (hd : DatO D) {k : Nat} : lg_cmp (lN (rgN D dk g k)) 0 = 0 ↔ ∀ f, f < dR D * dC D → rgB D dk g k f = false := by
  have hl := rgN_lt (dk := dk) (g := g) hd k
  rw [lgc_eq, lN_z (by omega)]
  constructor
  · intro h f hf
    have := congrArg (fun x => x.testBit f) h
    simp only [rgN, bN_tb, hf, decide_true, Bool.true_and, Nat.zero_testBit] at this
    exact this
  · intro h
    apply tb_ext; intro j
    rw [rgN, bN_tb, Nat.zero_testBit]
    by_cases hj : j < dR D * dC D
    · rw [h j hj, Bool.and_false]
    · simp [hj]
theorem fs_no {p : Nat → Bool} {N : Nat} (h : fsN p N = none) : ∀ k, k < N → p k = false := fun k hk => ts_nt (fun q => by
  obtain ⟨i, hi, hp, hm⟩ := fb_first (p := fun i => p i = true) (n := N) ⟨k, hk, q⟩
  have e0 : fsN p i = none := fs_none (fun x hx => ts_nt (hm x hx))
  rw [fs_yN e0 hp hi] at h; cases h)
theorem fs_min {p : Nat → Bool} {N t : Nat} (h : fsN p N = some t) : t < N ∧ p t = true ∧ ∀ i, i < t → p i = false := by
  obtain ⟨h1, h2⟩ := fs_lt h
  refine ⟨h1, h2, fun i hi => ts_nt (fun q => ?_)⟩
  obtain ⟨j, hj, hp, hm⟩ := fb_first (p := fun i => p i = true) (n := i + 1) ⟨i, (by omega), q⟩
  have e0 : fsN p j = none := fs_none (fun x hx => ts_nt (hm x hx))
  rw [fs_yN e0 hp (show j < N by omega)] at h
  cases h; omega
def dsO (D : DD) (dk : Nat → Bool) (g o : Nat) : Option Nat := fsN (fun k => rgB D dk g k o) 36
theorem steps_c (h : Cw D m 4 u) {o : Nat} (ho : o < dR D * dC D) (hg : g < dR D * dC D) : (dsO D dk g o = none ∧ ∃ v, fX9_stepsBetween (lN (bN dk (dR D * dC D))) (nI o) (nI g) u = some (-1, v) ∧ Fm [] [] [35] u v) ∨ (∃ k v, dsO D dk g o = some k ∧ fX9_stepsBetween (lN (bN dk (dR D * dC D))) (nI o) (nI g) u = some (nI k, v) ∧ (∀ j, j ≤ k → v.2.2.1 35 j = lN (rgN D dk g j)) ∧ Fm [] [] [35] u v) := by
  have hRC := h.2.1.RC
  unfold fX9_stepsBetween
  rw [show (1 : Int64) = lN 1 from rfl, wb_shl 1 (by omega), Nat.one_mul, fb_andL, rg_0 hg]
  refine lpE (fun f (x : Int64 × Int64 × Int32) w => fX9_stepsBetween_15 (lN (bN dk (dR D * dC D))) (nI o) (nI g) f x.1 x.2.1 x.2.2 w) 36 (fun k => (lN (frN D dk g k), lN (rgN D dk g k), nI k)) (fun k w => fsN (fun k => rgB D dk g k o) k = none ∧ (∀ j, j < k → w.2.2.1 35 j = lN (rgN D dk g j)) ∧ Fm [] [] [35] u w) (fun q => (dsO D dk g o = none ∧ ∃ v, q = some (-1, v) ∧ Fm [] [] [35] u v) ∨ (∃ k v, dsO D dk g o = some k ∧ q = some (nI k, v) ∧ (∀ j, j ≤ k → v.2.2.1 35 j = lN (rgN D dk g j)) ∧ Fm [] [] [35] u v)) ?_ ?_ (by omega) (lN (bN dk (dR D * dC D)), lN (rgN D dk g 0), 0) rfl ⟨rfl, fun j hj => absurd hj (Nat.not_lt_zero j), Fm.rf⟩
  · rintro f k w hk ⟨hq, hr, hf⟩
    have hl := rgN_lt (dk := dk) (g := g) h.2.1 k
    dsimp only
    rw [fX9_stepsBetween_15, if_neg (show ¬ (36 : Int32) ≤ nI k from nI_ge (b := 36) hk (by omega))]
    by_cases z : lg_cmp (lN (rgN D dk g k)) 0 = 0
    · right; left
      have dead := rg_dead ((rgN_z h.2.1).mp z)
      rw [if_pos z]
      refine ⟨fs_none (fun j hj => ?_), w, rfl, hf⟩
      by_cases q : j < k
      · exact fs_no hq j q
      · obtain ⟨d, rfl⟩ : ∃ d, j = k + d := ⟨j - k, (by omega)⟩
        exact dead d o ho
    · have f2 : Fm [] [] [35] u (sJ w 35 (nI k) (lN (rgN D dk g k))) := hf.sJ rfl
      have r2 : ∀ j, j ≤ k → (sJ w 35 (nI k) (lN (rgN D dk g k))).2.2.1 35 j = lN (rgN D dk g j) := fun j hj => by
        show vp_updL (w.2.2.1 35) (nI k).toNatClampNeg (lN (rgN D dk g k)) j = _
        rw [nI_clamp (by omega)]
        by_cases q : j = k
        · subst q; rw [pk_uLs]
        · rw [pk_uLn q]; exact hr j (by omega)
      have hc := h.fm4 f2 rfl rfl
      have htb : (rgN D dk g k).testBit o = rgB D dk g k o := by rw [rgN, bN_tb, decide_eq_true ho, Bool.true_and]
      rw [if_neg z, gdi hk (by omega), nxs]
      cases hb : rgB D dk g k o with
      | true =>
        right; right
        rw [if_neg (fun q => by rw [← htb, (tstL (by omega) (by omega)).mp q] at hb; cases hb)]
        exact ⟨k, _, fs_yN (p := fun k => rgB D dk g k o) hq hb hk, rfl, r2, f2⟩
      | false =>
        left
        rw [if_pos ((tstL (by omega) (by omega)).mpr (htb.trans hb)), bes_set hc (by omega), oBs, andL_n, fr_st h.2.1, fb_andL, rg_st h.2.1, nI_1]
        exact ⟨_, ⟨fs_n (p := fun k => rgB D dk g k o) hq hb, fun j hj => r2 j (by omega), f2⟩, rfl⟩
  · rintro f w ⟨hq, hr, hf⟩
    left
    dsimp only
    rw [fX9_stepsBetween_15, if_pos (show (36 : Int32) ≤ nI 36 by decide)]
    exact ⟨hq, w, rfl, hf⟩
/-- the way, field by field -/
def ptN (D : DD) (dk : Nat → Bool) (g o k : Nat) : Nat → Nat
  | 0 => o
  | j + 1 => (fsN (fun x => nbB D (ptN D dk g o k j) x && rgB D dk g (k - (j + 1)) x) (dR D * dC D)).getD 0
theorem nxt_ok (hd : DatO D) {f k : Nat} (hf : f < dR D * dC D) (h : rgB D dk g (k + 1) f = true) : ∃ x, fsN (fun x => nbB D f x && rgB D dk g k x) (dR D * dC D) = some x ∧ x < dR D * dC D ∧ nbB D f x = true ∧ rgB D dk g k x = true ∧ ∀ i, i < x → (nbB D f i && rgB D dk g k i) = false := by
  obtain ⟨x, hx, h1, h2⟩ := rg_dn h
  cases hq : fsN (fun x => nbB D f x && rgB D dk g k x) (dR D * dC D) with
  | none =>
    have := fs_no hq x hx
    rw [nb_sym hd hx h2, h1] at this; cases this
  | some y =>
    obtain ⟨a1, a2, a3⟩ := fs_min hq
    rw [Bool.and_eq_true] at a2
    exact ⟨y, rfl, a1, a2.1, a2.2, a3⟩
theorem pt_ok (hd : DatO D) {o k : Nat} (ho : o < dR D * dC D) (h : rgB D dk g k o = true) : ∀ j, j ≤ k → ptN D dk g o k j < dR D * dC D ∧ rgB D dk g (k - j) (ptN D dk g o k j) = true
  | 0, _ => ⟨ho, h⟩
  | j + 1, hj => by
    obtain ⟨i1, i2⟩ := pt_ok hd ho h j (by omega)
    rw [show k - j = (k - (j + 1)) + 1 by omega] at i2
    obtain ⟨x, e, x1, _, x3, _⟩ := nxt_ok hd i1 i2
    have : ptN D dk g o k (j + 1) = x := by rw [ptN, e]; rfl
    rw [this]; exact ⟨x1, x3⟩
theorem pt_s (hd : DatO D) {o k j : Nat} (ho : o < dR D * dC D) (h : rgB D dk g k o = true) (hj : j < k) : fsN (fun x => nbB D (ptN D dk g o k j) x && rgB D dk g (k - (j + 1)) x) (dR D * dC D) = some (ptN D dk g o k (j + 1)) ∧ nbB D (ptN D dk g o k j) (ptN D dk g o k (j + 1)) = true ∧ ∀ i, i < ptN D dk g o k (j + 1) → (nbB D (ptN D dk g o k j) i && rgB D dk g (k - (j + 1)) i) = false := by
  obtain ⟨i1, i2⟩ := pt_ok hd ho h j (by omega)
  rw [show k - j = (k - (j + 1)) + 1 by omega] at i2
  obtain ⟨x, e, x1, x2, x3, x4⟩ := nxt_ok hd i1 i2
  have : ptN D dk g o k (j + 1) = x := by rw [ptN, e]; rfl
  rw [this]; exact ⟨e, x2, x4⟩
theorem tl1F (a : Nat → Nat) (u : US) : ∃ v, fX2_tellOne (lN (a 0)) u = some v ∧ ToF 1 a v ∧ Tc u v := by
  obtain ⟨e0, t0⟩ := clr_c u
  have h0 : ToF 0 a (sI u 8 1 0) := ⟨rfl, fun j hj => absurd hj (Nat.not_lt_zero j)⟩
  obtain ⟨v, e1, t1, f1⟩ := adF' h0 (by decide)
  unfold fX2_tellOne
  rw [e0, oVs, e1, oVs]
  exact ⟨v, rfl, t1, (Fm.rf.sI rfl : Tc u (sI u 8 1 0)).trans f1⟩
theorem way_c (h : Cw D m 4 u) {x : Int64} {o k : Nat} (ho : o < dR D * dC D) (hk : k < dR D * dC D) (hr : rgB D dk g k o = true) (h35 : ∀ j, j ≤ k → u.2.2.1 35 j = lN (rgN D dk g j)) : ∃ v, (oV (fX2_tellOne (nI o).toInt64 u) fun u2 => fX9_tellShortest_35 x (nI o) (nI g) FU (nI k) (nI o) (nI k - 1) u2) = some (nI k, v) ∧ ToF (k + 1) (ptN D dk g o k) v ∧ Tc u v := by
  have hRC := h.2.1.RC
  obtain ⟨u1, e1, t1, f1⟩ := tl1F (ptN D dk g o k) u
  rw [nI_l (by omega), show lN o = lN (ptN D dk g o k 0) from rfl, e1, oVs]
  refine lpE (fun f (z : Int32 × Int32) w => fX9_tellShortest_35 x (nI o) (nI g) f (nI k) z.1 z.2 w) k (fun j => (nI (ptN D dk g o k j), nI (k - j) - 1)) (fun j w => ToF (j + 1) (ptN D dk g o k) w ∧ Tc u w) (fun q => ∃ v, q = some (nI k, v) ∧ ToF (k + 1) (ptN D dk g o k) v ∧ Tc u v) ?_ ?_ (by omega) (nI o, nI k - 1) rfl ⟨t1, f1⟩
  · rintro f j w hj ⟨ht, hf⟩
    have hc := h.fm4 hf rfl rfl
    obtain ⟨p1, p2⟩ := pt_ok h.2.1 ho hr j (by omega)
    obtain ⟨q1, q2⟩ := pt_ok h.2.1 ho hr (j + 1) hj
    obtain ⟨s1, s2, s3⟩ := pt_s h.2.1 ho hr hj
    have ev : nI (k - j) - 1 = nI (k - (j + 1)) := by rw [subl _ (by omega)]; rfl
    have hl := rgN_lt (dk := dk) (g := g) h.2.1 (k - (j + 1))
    have e35 : gJ w 35 (nI (k - (j + 1))) = lN (rgN D dk g (k - (j + 1))) := by
      show w.2.2.1 35 (nI (k - (j + 1))).toNatClampNeg = _
      rw [nI_clamp (by omega), hf.j 35 rfl]; exact h35 _ (by omega)
    have tb : ∀ i, (b1N D (ptN D dk g o k j) &&& rgN D dk g (k - (j + 1))).testBit i = (decide (i < dR D * dC D) && (nbB D (ptN D dk g o k j) i && rgB D dk g (k - (j + 1)) i)) := fun i => by
      rw [Nat.testBit_and, b1N, bN_tb, rgN, bN_tb]
      by_cases hi : i < dR D * dC D
      · rw [decide_eq_true hi, decide_eq_true (show i < 36 by omega)]; simp
      · simp [hi]
    have hlow := low_c (a := b1N D (ptN D dk g o k j) &&& rgN D dk g (k - (j + 1))) (t := ptN D dk g o k (j + 1)) (Nat.lt_of_le_of_lt Nat.and_le_right hl) (by rw [tb, decide_eq_true q1, s2, q2]; rfl) (fun i hi => by rw [tb, s3 i hi, Bool.and_false]) w
    obtain ⟨w2, e2, t2, f2⟩ := adF' ht (show j + 1 < 36 by omega)
    left
    dsimp only
    rw [ev, fX9_tellShortest_35, if_neg (nI_pos (by omega)), one_c hc p1, oBs, gdi (show k - (j + 1) < 36 by omega) (by omega), e35, fb_andL, hlow, oBs, nI_l (by omega), e2, oVs, show nI (k - (j + 1)) + (-1) = nI (k - (j + 1)) - 1 from Int32.add_neg_eq_sub]
    exact ⟨w2, ⟨t2, hf.trans f2⟩, rfl⟩
  · rintro f w ⟨ht, hf⟩
    dsimp only
    rw [fX9_tellShortest_35, Nat.sub_self, if_pos (show nI 0 - 1 < 0 by decide)]
    exact ⟨w, rfl, ht, hf⟩
theorem steals_c (h : Cw D m 4 u) {k s o g : Nat} (hk : k < 8) (hs : s < 10) (ho : o < dR D * dC D) (hg : g < dR D * dC D) : (dsO D (dkB D m (mT m) k s) g o = none ∧ ∃ v, fX11_steals (nI o) (nI g) (nI k) (nI s) u = some (-2, v) ∧ Fr u v) ∨ (∃ d v, dsO D (dkB D m (mT m) k s) g o = some d ∧ fX11_steals (nI o) (nI g) (nI k) (nI s) u = some (nI d, v) ∧ ToF (d + 1) (ptN D (dkB D m (mT m) k s) g o d) v ∧ Ft u v) := by
  have b := h.b
  have hRC := h.2.1.RC
  have hso : isSo (nI k) (nI s) := ⟨⟨nI_pos' (by omega), (show nI k ≤ (7 : Int32) from nI_le (b := 7) (by omega) (by omega))⟩, nI_pos' (by omega), (show nI s ≤ (9 : Int32) from nI_le (b := 9) (by omega) (by omega))⟩
  obtain ⟨v, e1, f1⟩ := unseen_c h (mT m) hk hs
  have hv := h.sx f1
  unfold fX11_steals fX9_tellShortest
  rw [isF_cy h ho, oBs, if_neg (by decide), isF_cy h hg, oBs, if_neg (by decide), sort_y hso, oBs, if_neg (by decide), h.gT, e1, oBs]
  rcases steps_c hv ho hg (dk := dkB D m (mT m) k s) with ⟨q1, w, e2, f2⟩ | ⟨d, w, q1, e2, r2, f2⟩
  · left
    refine ⟨q1, w, ?_, f1.fr.trans (f2.mono rfl rfl rfl)⟩
    rw [show lN (dkN D m (mT m) k s) = lN (bN (dkB D m (mT m) k s) (dR D * dC D)) from rfl, e2, oBs, if_pos rfl, oBs]
  · right
    obtain ⟨a1, a2⟩ := fs_lt q1
    have hd := rg_lt ho a2
    have hw : Cw D m 4 w := hv.fm4 f2 rfl rfl
    obtain ⟨w2, e3, t3, f3⟩ := way_c hw (x := lN (dkN D m (mT m) k s)) ho hd a2 r2
    refine ⟨d, w2, q1, ?_, t3, (f1.fr.trans (f2.mono rfl rfl rfl)).ft.trans f3.tcft⟩
    rw [show lN (dkN D m (mT m) k s) = lN (bN (dkB D m (mT m) k s) (dR D * dC D)) from rfl, e2, oBs, if_neg (n31 (by omega))]
    rw [show lN (dkN D m (mT m) k s) = lN (bN (dkB D m (mT m) k s) (dR D * dC D)) from rfl] at e3
    rw [e3, oBs]
