/-! what no room sees: dark -/
variable {D : DD} {m m' : MM} {e r : Nat} {u v : US}
def rlB (D : DD) (m : MM) (t : Int32) (k s r i : Nat) : Bool := anyB (fun p => huB m (some r) p && letB D m t p k s) i
def rlN (D : DD) (m : MM) (t : Int32) (k s i : Nat) : Nat := bN (fun r => rlB D m t k s r i) (dM D)
theorem rl_c (h : Cw D m e u) (t : Int32) {k s : Nat} (hk : k < 8) (hs : s < 10) : ∃ v, fX9_roomsLetting e t (nI k) (nI s) u = some (nI (rlN D m t k s (dP D)), v) ∧ Sx u v := by
  have b := h.b
  unfold fX9_roomsLetting
  rw [gd_t h.im]
  refine lpF (fun f (x : Int32 × Int32) w => fX9_roomsLetting_6 e t (nI k) (nI s) f x.1 x.2 w) (dP D) (fun i => (nI (rlN D m t k s i), nI i)) (fun w => Sx u w) (fun o => ∃ v, o = some (nI (rlN D m t k s (dP D)), v) ∧ Sx u v) ?_ ?_ (by omega) (0, 0) ?_ Fm.rf
  · intro f i w hi hf
    have hw := h.sx hf
    have h8 : rlN D m t k s i < 256 := Nat.lt_of_lt_of_le (bN_lt _ _) (pow8 (show dM D ≤ 8 by omega))
    dsimp only
    rw [fX9_roomsLetting_6, hw.xP, if_neg (nI_ge hi (by omega)), hw.l2, gdi (show i < 8 by omega) (by omega), hw.gO hi, nI_1]
    have same : (∀ r, r < dM D → (huB m (some r) i && letB D m t i k s) = false ∨ rlB D m t k s r i = true) → rlN D m t k s (i + 1) = rlN D m t k s i := fun hq => bN_cong (fun r hr => by
      show (rlB D m t k s r i || (huB m (some r) i && letB D m t i k s)) = _
      rcases hq r hr with q | q
      · rw [q, Bool.or_false]
      · rw [q, Bool.true_or])
    cases ho : mO m i with
    | none =>
      rw [if_pos (show hV none = -1 from rfl)]
      exact ⟨w, hf, by rw [same (fun r hr => Or.inl (by unfold huB; rw [ho]; simp))]⟩
    | some q =>
      have hq : q < dM D := hw.2.2.2.2.1.2.2.1 i hi q ho
      rw [if_neg (show ¬ hV (some q) = -1 from n31 (by omega)), show hV (some q) = nI q from rfl, has_c (by omega) (by omega), oBs]
      have htb : (rlN D m t k s i).testBit q = rlB D m t k s q i := by rw [rlN, bN_tb, decide_eq_true hq, Bool.true_and]
      rw [htb]
      cases hr0 : rlB D m t k s q i with
      | true =>
        rw [if_neg (show ¬ bI true = 0 by decide)]
        refine ⟨w, hf, ?_⟩
        rw [same (fun r hr => ?_)]
        by_cases e : r = q
        · subst e; exact Or.inr hr0
        · left; unfold huB; rw [ho, decide_eq_false (fun w => e (Option.some.inj w).symm)]; rfl
      | false =>
        obtain ⟨v, e1, f1⟩ := lets_c hw hi hk hs t
        rw [if_pos (show bI false = 0 from rfl), e1, oBs]
        refine ⟨v, hf.trans f1, ?_⟩
        cases hl : letB D m t i k s with
        | false =>
          rw [if_pos (show bI false = 0 from rfl), same (fun r hr => Or.inl (by rw [hl, Bool.and_false]))]
        | true =>
          rw [if_neg (show ¬ bI true = 0 by decide), or_b (by omega)]
          have : rlN D m t k s i ||| 2 ^ q = rlN D m t k s (i + 1) := by
            apply tb_ext; intro j
            rw [tb_or2, rlN, rlN, bN_tb, bN_tb]
            show _ = (decide (j < dM D) && (rlB D m t k s j i || (huB m (some j) i && letB D m t i k s)))
            by_cases e : j = q
            · subst e
              rw [hl, decide_eq_true hq, decide_eq_true (rfl : j = j), show huB m (some j) i = true by unfold huB; rw [ho]; exact decide_eq_true rfl]; simp
            · rw [decide_eq_false e, show huB m (some j) i = false by unfold huB; rw [ho]; exact decide_eq_false (fun w => e (Option.some.inj w).symm)]; simp
          rw [this]
  · intro f w hf
    have hw := h.sx hf
    dsimp only
    rw [fX9_roomsLetting_6, hw.xP, if_pos (nI_le (Nat.le_refl _) (by omega))]
    exact ⟨w, rfl, hf⟩
  · have : rlN D m t k s 0 = 0 := by
      apply tb_ext; intro j
      rw [rlN, bN_tb, Nat.zero_testBit]
      show (decide (j < dM D) && false) = false
      rw [Bool.and_false]
    rw [this]; rfl
theorem reached_c (h : Cw D m e u) {w f : Nat} (hw : w < 256) (hf : f < 36) : fX9_isReached (nI w) (nI f) u = some (bI (anyB (fun r => w.testBit r && reB D r f) (dM D)), u) := by
  have b := h.b
  unfold fX9_isReached
  refine lpE (fun g (z : Int32) q => fX9_isReached_2 (nI w) (nI f) g z q) (dM D) (fun i => nI i) (fun i q => anyB (fun r => w.testBit r && reB D r f) i = false ∧ q = u) (fun o => o = some (bI (anyB (fun r => w.testBit r && reB D r f) (dM D)), u)) ?_ ?_ (by omega) 0 rfl ⟨rfl, rfl⟩
  · rintro g i q hi ⟨hq, rfl⟩
    rw [fX9_isReached_2, h.xM, if_neg (nI_ge hi (by omega)), has_c (by omega) (by omega), oBs, nI_1]
    cases h1 : w.testBit i with
    | false =>
      left
      rw [if_pos (show bI false = 0 from rfl)]
      exact ⟨q, ⟨anyB_s hq (by rw [h1]; rfl), rfl⟩, rfl⟩
    | true =>
      rw [if_neg (show ¬ bI true = 0 by decide), reach_c h hi hf, oBs]
      cases h2 : reB D i f with
      | false =>
        left
        rw [if_pos (show bI false = 0 from rfl)]
        exact ⟨q, ⟨anyB_s hq (by rw [h1, h2]; rfl), rfl⟩, rfl⟩
      | true =>
        right
        rw [if_neg (show ¬ bI true = 0 by decide), anyB_up (p := fun r => w.testBit r && reB D r f) (k := i) (by rw [h1, h2]; rfl) hi]; rfl
  · rintro g q ⟨hq, rfl⟩
    rw [fX9_isReached_2, h.xM, if_pos (nI_le (Nat.le_refl _) (by omega)), hq]; rfl
/-- a field is dark for a sort at an hour -/
def dkB (D : DD) (m : MM) (t : Int32) (k s f : Nat) : Bool := !anyB (fun r => rlB D m t k s r (dP D) && reB D r f) (dM D)
def dkN (D : DD) (m : MM) (t : Int32) (k s : Nat) : Nat := bN (dkB D m t k s) (dR D * dC D)
theorem orL_b (a : Nat) {k : Nat} (hk : k < 63) : lN a ||| ((1 : Int64) <<< ((nI k).toInt64 &&& 63)) = lN (a ||| 2 ^ k) := by
  rw [show (1 : Int64) = lN 1 from rfl, wb_shl 1 (by omega), Nat.one_mul, fb_orL]
theorem unseen_c (h : Cw D m e u) (t : Int32) {k s : Nat} (hk : k < 8) (hs : s < 10) : ∃ v, fX9_unseen e t (nI k) (nI s) u = some (lN (dkN D m t k s), v) ∧ Sx u v := by
  have b := h.b
  have hRC := h.2.1.RC
  obtain ⟨v, e1, f1⟩ := rl_c h t hk hs
  have hv := h.sx f1
  have h8 : rlN D m t k s (dP D) < 256 := Nat.lt_of_lt_of_le (bN_lt _ _) (pow8 (show dM D ≤ 8 by omega))
  unfold fX9_unseen
  rw [gd_t h.im, e1, oBs]
  refine lpF (fun f (x : Int64 × Int32 × Int32) w => fX9_unseen_17 e t (nI k) (nI s) f x.1 x.2.1 x.2.2 w) (dR D * dC D) (fun i => (lN (bN (dkB D m t k s) i), nI (rlN D m t k s (dP D)), nI i)) (fun w => w = v) (fun o => ∃ v, o = some (lN (dkN D m t k s), v) ∧ Sx u v) ?_ ?_ (by omega) (0, nI (rlN D m t k s (dP D)), 0) rfl rfl
  · intro f i w hi hw
    subst hw
    refine ⟨w, rfl, ?_⟩
    dsimp only
    rw [fX9_unseen_17, flds_c hv, oBs, if_neg (nI_ge hi (by omega)), reached_c hv h8 (by omega), oBs, nI_1]
    have e2 : anyB (fun r => (rlN D m t k s (dP D)).testBit r && reB D r i) (dM D) = anyB (fun r => rlB D m t k s r (dP D) && reB D r i) (dM D) := anyB_cong (fun r hr => by rw [rlN, bN_tb, decide_eq_true hr, Bool.true_and])
    rw [e2]
    cases hA : anyB (fun r => rlB D m t k s r (dP D) && reB D r i) (dM D) with
    | false => rw [if_pos (show bI false = 0 from rfl), orL_b _ (by omega), bN_y (p := dkB D m t k s) (by unfold dkB; rw [hA]; rfl)]
    | true => rw [if_neg (show ¬ bI true = 0 by decide), bN_n (p := dkB D m t k s) (by unfold dkB; rw [hA]; rfl)]
  · intro f w hw
    subst hw
    dsimp only
    rw [fX9_unseen_17, flds_c hv, oBs, if_pos (nI_le (Nat.le_refl _) (by omega))]
    exact ⟨w, rfl, f1⟩
/-- the model's isSeen -/
theorem sn_dk (D : DD) (m : MM) (t : Int32) (k s f : Nat) (ht : mT m = t) : anyB (snB D m f k s) (dM D) = !dkB D m t k s f := by
  unfold dkB
  rw [Bool.not_not]
  refine anyB_cong (fun r hr => ?_)
  unfold snB rlB
  rw [anyB_cong (p := lsB D m (huN D m (some r)) k s) (q := fun p => huB m (some r) p && letB D m t p k s) (fun p hp => by unfold lsB; rw [hu_tb hp, ht]), Bool.and_comm]
theorem dk_T (D : DD) (m : MM) (x t : Int32) (k s f : Nat) : dkB D (mST m x) t k s f = dkB D m t k s f := rfl
/-- the model's row of dark fields -/
def DkM (n : Nat) (p : Nat → Bool) (u : US) : Prop := ∀ j, j < n → u.2.1 70 j = bI (p j)
theorem nar_b (b : Bool) : vp_nar .boolean (bI b) = bI b := by cases b <;> decide
theorem l43_m {e : Nat} {a1 a2 : Int32} {K : Int32 → Int32 → US → Option (Int32 × US)} {i : Nat} (hi : i < 36) (y : Int32) (b : Bool) : fX12_laysDark_43 e a1 a2 K y (nI i) (nI i) (bI b) u = K (y + bI b) (nI (i + 1)) (sA u 70 (nI i) (bI b)) := by
  rw [fX12_laysDark_43, gdi hi (by omega), nxs, gdi hi (by omega), nar_b, show gA (sA u 70 (nI i) (bI b)) 70 (nI i) = bI b from pk_us, flag_m, oBs, nI_1]
theorem lays_m (h : Mw D m r u) {k s : Nat} (hk : k < 8) (hs : s < 10) : ∃ v, fX12_laysDark r (nI k) (nI s) u = some (nI (fb_ct (dkB D m (mT m) k s) (dR D * dC D)), v) ∧ DkM (dR D * dC D) (dkB D m (mT m) k s) v ∧ Fm [] [44, 46, 61, 62, 70] [] u v := by
  have b := h.b
  have hRC := h.2.1.RC
  have hfm : ∀ w, Fm [] [44, 46, 61, 62, 70] [] u w → Mw D m r w := fun w f => by
    rcases h.1 with rfl | rfl
    · exact h.fm55 f rfl rfl
    · exact h.fm56 f rfl rfl
  unfold fX12_laysDark
  rw [gd_t h.im]
  refine lpE (fun f (x : Int32 × Int32) w => fX12_laysDark_6 r (nI k) (nI s) f x.1 x.2 w) (dR D * dC D) (fun i => (nI (fb_ct (dkB D m (mT m) k s) i), nI i)) (fun i w => DkM i (dkB D m (mT m) k s) w ∧ Fm [] [44, 46, 61, 62, 70] [] u w) (fun o => ∃ v, o = some (nI (fb_ct (dkB D m (mT m) k s) (dR D * dC D)), v) ∧ DkM (dR D * dC D) (dkB D m (mT m) k s) v ∧ Fm [] [44, 46, 61, 62, 70] [] u v) ?_ ?_ (by omega) (0, 0) rfl ⟨fun j hj => absurd hj (Nat.not_lt_zero j), Fm.rf⟩
  · rintro f i w hi ⟨hd, hf⟩
    have hw := hfm w hf
    obtain ⟨v, e1, f1⟩ := isSeen_m hw (f := i) (by omega) hk hs
    left
    dsimp only
    rw [fX12_laysDark_6, hw.xR, hw.xC, pk_mul, if_neg (nI_ge hi (by omega)), e1, oBs, sn_dk D m (mT m) k s i rfl]
    have nd : DkM (i + 1) (dkB D m (mT m) k s) (sA v 70 (nI i) (bI (dkB D m (mT m) k s i))) := fun j hj => by
      show upd (v.2.1 70) (nI i).toNatClampNeg (bI (dkB D m (mT m) k s i)) j = _
      rw [nI_clamp (by omega), f1.a 70 rfl]
      by_cases q : j = i
      · subst q; rw [pk_us]
      · rw [pk_un q]; exact hd j (by omega)
    refine ⟨sA v 70 (nI i) (bI (dkB D m (mT m) k s i)), ⟨nd, (hf.trans (f1.mono rfl rfl rfl)).sA rfl⟩, ?_⟩
    rw [fb_ct_succ]
    cases hb : dkB D m (mT m) k s i with
    | true =>
      rw [if_pos (show bI (!true) = 0 from rfl), show (1 : Int32) = bI true from rfl, l43_m (by omega), show bI true = nI 1 from rfl, nI_add]; rfl
    | false =>
      rw [if_neg (show ¬ bI (!false) = 0 by decide), show (0 : Int32) = bI false from rfl, l43_m (by omega), show bI false = nI 0 from rfl, nI_add]; rfl
  · rintro f w ⟨hd, hf⟩
    have hw := hfm w hf
    dsimp only
    rw [fX12_laysDark_6, hw.xR, hw.xC, pk_mul, if_pos (nI_le (Nat.le_refl _) (by omega))]
    exact ⟨w, rfl, hd, hf⟩
theorem lc_b (p : Nat → Bool) {n : Nat} (hn : n ≤ 64) : lcN (bN p n) = fb_ct p n := by
  obtain ⟨j, hj⟩ : ∃ j, 64 = n + j := ⟨64 - n, (by omega)⟩
  unfold lcN
  rw [hj, fb_ct_split]
  have e1 : fb_ct (fun i => (bN p n).testBit i) n = fb_ct p n := fb_ct_cong (fun k hk => by rw [bN_tb, decide_eq_true hk, Bool.true_and])
  have e2 : fb_ct (fun k => (bN p n).testBit (n + k)) j = 0 := fb_ct_zero.mpr (fun k _ => by rw [bN_tb, decide_eq_false (by omega)]; rfl)
  rw [e1, e2, Nat.add_zero]
theorem uN_l {n : Nat} (h : n < 2 ^ 64) : uN (lN n) = n := wb_tn h
theorem dkN_lt (hd : DatO D) (t : Int32) (k s : Nat) : dkN D m t k s < 2 ^ 36 := Nat.lt_of_lt_of_le (bN_lt _ _) (Nat.pow_le_pow_right (by decide) hd.RC)
theorem isSo_n {a b : Int32} (h : isSo a b) : ∃ k s : Nat, k < 8 ∧ s < 10 ∧ a = nI k ∧ b = nI s := by
  obtain ⟨k, hk, e1⟩ := nI_rng (n := 7) (M := 7) rfl h.1
  obtain ⟨s, hs, e2⟩ := nI_rng (n := 9) (M := 9) rfl h.2
  exact ⟨k, s, (by omega), (by omega), e1, e2⟩
theorem sort_y {a b : Int32} (h : isSo a b) (u : US) : fX11_isSort a b u = some (1, u) := by
  rcases sort_c a b u with ⟨_, e⟩ | ⟨q, _⟩
  · exact e
  · exact absurd h q
theorem sort_n {a b : Int32} (h : ¬ isSo a b) (u : US) : fX11_isSort a b u = some (0, u) := by
  rcases sort_c a b u with ⟨q, _⟩ | ⟨_, e⟩
  · exact absurd q h
  · exact e
theorem st_29 : St_29 Inv := by
  intro n a1 a2 u hn hI
  obtain ⟨D, m, hW, hR⟩ := Inv_to hI
  have hc := hW.cw
  have b := hc.b
  have hRC := hc.2.1.RC
  by_cases hso : isSo a1 a2
  · obtain ⟨k, s, hk, hs, rfl, rfl⟩ := isSo_n hso
    obtain ⟨v, e1, f1⟩ := unseen_c hc (mT m) hk hs
    have hl := dkN_lt (m := m) hc.2.1 (mT m) k s
    obtain ⟨v2, e2, t2, f2⟩ := tl1_c (nI (fb_ct (dkB D m (mT m) k s) (dR D * dC D))).toInt64 v
    have k1 : Ft u v2 := f1.sft.trans f2.tcft
    have k2 : Fq v2 (sI v2 47 0 0) := Fm.rf.sI rfl
    have hM := (hW.ft (k1.trans k2.qt)).mw
    obtain ⟨w, e3, d3, f3⟩ := lays_m hM hk hs
    have hw : Mw D m 55 w := hM.fm55 f3 rfl rfl
    have B : ∃ w2, fX12_dark_35 (nI k) (nI s) FU (nI (fb_ct (dkB D m (mT m) k s) (dR D * dC D))) 0 0 w = some (lN (dkN D m (mT m) k s), w2) ∧ TolM [(nI (fb_ct (dkB D m (mT m) k s) (dR D * dC D))).toInt64] w2 ∧ Fq w w2 := by
      refine lpF (fun f (x : Int64 × Int32) q => fX12_dark_35 (nI k) (nI s) f (nI (fb_ct (dkB D m (mT m) k s) (dR D * dC D))) x.1 x.2 q) (dR D * dC D) (fun i => (lN (bN (dkB D m (mT m) k s) i), nI i)) (fun q => q = w) (fun o => ∃ w2, o = some (lN (dkN D m (mT m) k s), w2) ∧ TolM [(nI (fb_ct (dkB D m (mT m) k s) (dR D * dC D))).toInt64] w2 ∧ Fq w w2) ?_ ?_ (by omega) (0, 0) rfl rfl
      · intro f i q hi hq
        subst hq
        refine ⟨q, rfl, ?_⟩
        dsimp only
        rw [fX12_dark_35, hw.xR, hw.xC, pk_mul, if_neg (nI_ge hi (by omega)), gdi (show i < 36 by omega) (by omega), show gA q 70 (nI i) = bI (dkB D m (mT m) k s i) by (show q.2.1 70 (nI i).toNatClampNeg = _; rw [nI_clamp (by omega)]; exact d3 i hi), nI_1]
        cases hb : dkB D m (mT m) k s i with
        | false =>
          rw [if_pos (show bI false = 0 from rfl), bN_n (p := dkB D m (mT m) k s) hb, show (0 : Int64) = lN 0 from rfl, fb_orL, Nat.or_zero]
        | true => rw [if_neg (show ¬ bI true = 0 by decide), orL_b _ (by omega), bN_y (p := dkB D m (mT m) k s) hb]
      · intro f q hq
        subst hq
        dsimp only
        obtain ⟨w2, e4, t4, f4⟩ := en_m (clr_m q) (by decide) (nI (fb_ct (dkB D m (mT m) k s) (dR D * dC D))).toInt64
        rw [fX12_dark_35, hw.xR, hw.xC, pk_mul, if_pos (nI_le (Nat.le_refl _) (by omega)), nxs, e4, oVs]
        exact ⟨w2, rfl, t4, ((Fm.rf (u := q)).sI rfl).trans f4.mq⟩
    obtain ⟨w2, e4, t4, f4⟩ := B
    refine ⟨lN (dkN D m (mT m) k s), v2, w2, ?_, ?_, q_told hI k1 t2 ((k2.trans (f3.mono rfl rfl rfl)).trans f4) t4 (by simp)⟩
    · unfold fX11_dark
      rw [sort_y hso, oBs, if_neg (by decide), hc.gT, e1, oBs, pop64, oBs, uN_l (by omega), show lcN (dkN D m (mT m) k s) = fb_ct (dkB D m (mT m) k s) (dR D * dC D) from lc_b _ (by omega), e2, oVs]
    · rw [fX12_dark, nxs, (being_m _ _ _).1 hso, oBs, if_neg (by decide), e3, oBs, e4]
  · refine ⟨-1, u, sI u 47 0 0, ?_, ?_, q_no hI⟩
    · unfold fX11_dark
      rw [sort_n hso, oBs, if_pos rfl]
    · rw [fX12_dark, nxs, (being_m _ _ _).2 hso, oBs, if_pos rfl]
