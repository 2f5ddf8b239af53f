/-! glaze, best, adds -/
variable {D : DD} {m : MM} {e r : Nat} {u v : US}
def thR (D : DD) (m : MM) (r p : Nat) : Nat := thN D m p (neN D m r)
theorem unN_tb (g : Nat → Nat) (c : Nat) (i : Nat) : ∀ k, (unN g c k).testBit i = anyB (fun p => c.testBit p && (g p).testBit i) k
  | 0 => by rw [unN, Nat.zero_testBit]; rfl
  | k + 1 => by
    rw [unN, Nat.testBit_or, unN_tb g c i k, anyB]
    cases c.testBit k <;> simp
theorem anyB_and {q : Nat → Bool} (b : Bool) : ∀ n, anyB (fun p => b && q p) n = (b && anyB q n)
  | 0 => by cases b <;> rfl
  | n + 1 => by rw [anyB, anyB_and b n, anyB]; cases b <;> simp
theorem un_sb (D : DD) (m : MM) (r c : Nat) : unN (thR D m r) c (dP D) = sbN D m r c := by
  apply tb_ext; intro i
  rw [unN_tb, sbN, bN_tb]
  by_cases hi : i < dT D
  · rw [decide_eq_true hi, Bool.true_and, sbB, ← anyB_and]
    refine anyB_cong (fun p hp => ?_)
    show (c.testBit p && (thN D m p (neN D m r)).testBit i) = _
    rw [thN, bN_tb, decide_eq_true hi, Bool.true_and, neN, bN_tb, decide_eq_true hi, Bool.true_and]
    unfold lsB leT
    cases c.testBit p <;> cases neB D m r i <;> rfl
  · rw [decide_eq_false hi, Bool.false_and]
    rw [show anyB (fun p => c.testBit p && (thR D m r p).testBit i) (dP D) = false from ts_nt (fun q => by
      obtain ⟨k, _, hk⟩ := anyB_iff.mp q
      simp only [thR, thN, bN_tb, hi, decide_false, Bool.false_and, Bool.and_false] at hk
      cases hk)]
theorem parts_c (hW : Wd D m u) {r : Nat} (hr : r < dM D) : ∃ v, fX11_partByPanes (nI r) u = some v ∧ PaC (thR D m r) (dP D) v ∧ Fp u v := by
  have b := hW.cw.b
  unfold fX11_partByPanes
  rw [near_c hW.cw hr, oBs, show fX3_clear u = some (sI u 9 1 0) from rfl, oVs]
  refine lpE (fun f (x : Int32 × Int32) w => fX11_partByPanes_22 (nI r) f x.1 x.2 w) (dP D) (fun i => (nI (neN D m r), nI i)) (fun k w => Fp u w ∧ PaC (thR D m r) k w) (fun o => ∃ v, o = some v ∧ PaC (thR D m r) (dP D) v ∧ Fp u v) ?_ ?_ (by omega) (nI (neN D m r), 0) rfl ⟨Fm.rf.sI rfl, rfl, fun j hj => absurd hj (Nat.not_lt_zero j)⟩
  · rintro f k w hk ⟨hf, hp⟩
    have hw := (hW.fr hf.pr).cw
    obtain ⟨v, e1, f1⟩ := through_c hw hk (a := neN D m r) (neN_256 hW.1 r)
    obtain ⟨v2, e2, p2, f2⟩ := part_add (hp.fm f1 rfl rfl) (show k < 8 by omega)
    left
    dsimp only
    rw [fX11_partByPanes_22, hw.xP, if_neg (nI_ge hk (by omega)), e1, oBs, show nI (thN D m k (neN D m r)) = nI (thR D m r k) from rfl, e2, oVs, nI_1]
    exact ⟨v2, ⟨(hf.trans f1.sp).trans f2, p2⟩, rfl⟩
  · rintro f w ⟨hf, hp⟩
    have hw := (hW.fr hf.pr).cw
    dsimp only
    rw [fX11_partByPanes_22, hw.xP, if_pos (nI_le (Nat.le_refl _) (by omega))]
    exact ⟨w, rfl, hp, hf⟩
def bgN (D : DD) (m : MM) (r y z k : Nat) : Option Nat := bsN (okN (sbN D m r) y z) k
theorem un_sbf (D : DD) (m : MM) (r : Nat) : (fun c => unN (thR D m r) c (dP D)) = sbN D m r := funext (un_sb D m r)
theorem g84_m (h : Mw D m 55 u) {r y z i : Nat} (hr : r < dM D) (hi : i < 256) (x : Int32) (K : Int32 → Int32 → US → Option (Int32 × US)) : ∃ v, Sx u v ∧ fX12_glaze_84 (nI r) (nI y) (nI z) K x (nI i) u = K (if okN (sbN D m r) y z i then nI i else x) (nI (i + 1)) v := by
  obtain ⟨v, e1, f1⟩ := seenBy_m h hr hi
  refine ⟨v, f1, ?_⟩
  rw [fX12_glaze_84, e1, oBs, nI_1]
  by_cases q : okN (sbN D m r) y z i = true
  · rw [if_pos q]
    unfold okN at q
    rw [Bool.and_eq_true, decide_eq_true_iff, decide_eq_true_iff] at q
    rw [if_pos q.1, if_pos q.2]
  · rw [if_neg q]
    unfold okN at q
    rw [Bool.and_eq_true, decide_eq_true_iff, decide_eq_true_iff] at q
    by_cases q1 : nI y &&& (nI (sbN D m r i) ^^^ (-1)) = 0
    · rw [if_pos q1, if_neg (fun w => q ⟨q1, w⟩)]
    · rw [if_neg q1]
theorem g55_m (h : Mw D m 55 u) {r y z : Nat} (hr : r < dM D) : ∃ v, fX12_glaze_55 (nI r) (nI y) (nI z) FU (-1) 0 u = some (fewE (bgN D m r y z (2 ^ dP D)), v) ∧ Fq u v ∧ (∀ c, bgN D m r y z (2 ^ dP D) = some c → TolM [(nI c).toInt64] v) ∧ (bgN D m r y z (2 ^ dP D) = none → Sx u v) := by
  have b := h.b
  have h8 := two8 (show dP D ≤ 8 by omega)
  refine lpF (fun f (x : Int32 × Int32) w => fX12_glaze_55 (nI r) (nI y) (nI z) f x.1 x.2 w) (2 ^ dP D) (fun i => (hV (bgN D m r y z i), nI i)) (fun w => Sx u w) (fun o => ∃ v, o = some (fewE (bgN D m r y z (2 ^ dP D)), v) ∧ Fq u v ∧ (∀ c, bgN D m r y z (2 ^ dP D) = some c → TolM [(nI c).toInt64] v) ∧ (bgN D m r y z (2 ^ dP D) = none → Sx u v)) ?_ ?_ (by omega) (-1, 0) rfl Fm.rf
  · intro f k w hk hf
    have hw := h.sx hf
    dsimp only
    rw [fX12_glaze_55, hw.xP, sh1 _ (by omega), if_neg (nI_ge hk (by omega))]
    cases hb : bgN D m r y z k with
    | none =>
      obtain ⟨v, f1, e1⟩ := g84_m hw hr (show k < 256 by omega) (y := y) (z := z) (hV none) (fX12_glaze_55 (nI r) (nI y) (nI z) f)
      rw [if_pos (show hV none < 0 by decide), e1]
      refine ⟨v, hf.trans f1, ?_⟩
      cases q : okN (sbN D m r) y z k with
      | true => rw [show bgN D m r y z (k + 1) = some k from bs_ny hb q]; rfl
      | false => rw [show bgN D m r y z (k + 1) = none from bs_nn hb q]; rfl
    | some c =>
      have hc := bs_lt hb
      have hp1 := pcN_le k
      have hp2 := pcN_le c
      rw [if_neg (show ¬ hV (some c) < 0 from nI_pos (by omega)), bc_n (by omega), oBs, show hV (some c) = nI c from rfl, bc_n (by omega), oBs]
      by_cases q3 : pcN k < pcN c
      · obtain ⟨v, f1, e1⟩ := g84_m hw hr (show k < 256 by omega) (y := y) (z := z) (nI c) (fX12_glaze_55 (nI r) (nI y) (nI z) f)
        rw [if_neg (nI_ge q3 (by omega)), e1]
        refine ⟨v, hf.trans f1, ?_⟩
        cases q : okN (sbN D m r) y z k with
        | true => rw [show bgN D m r y z (k + 1) = some k from bs_sy hb q q3]; rfl
        | false => rw [show bgN D m r y z (k + 1) = some c from bs_sn hb (Or.inl q)]; rfl
      · rw [if_pos (nI_le (by omega) (by omega)), nI_1]
        exact ⟨w, hf, by rw [show bgN D m r y z (k + 1) = some c from bs_sn hb (Or.inr q3)]; rfl⟩
  · intro f w hf
    have hw := h.sx hf
    dsimp only
    rw [fX12_glaze_55, hw.xP, sh1 _ (by omega), if_pos (nI_le (Nat.le_refl _) (by omega))]
    cases hb : bgN D m r y z (2 ^ dP D) with
    | none =>
      rw [if_neg (show ¬ 0 ≤ hV none by decide)]
      exact ⟨w, rfl, hf.sq, (fun c hc => by cases hc), fun _ => hf⟩
    | some c =>
      have hc := bs_lt hb
      obtain ⟨v, e1, t1, g1⟩ := en_m (clr_m w) (by decide) (nI c).toInt64
      rw [if_pos (show 0 ≤ hV (some c) from nI_pos' (by omega)), nxs, show hV (some c) = nI c from rfl, e1, oVs, bc_n (by omega), oBs]
      exact ⟨v, rfl, (hf.sq.sI rfl).trans g1.mq, (fun c' hc' => by cases hc'; exact t1), (fun q => by cases q)⟩
theorem st_24 : St_24 Inv := by
  intro n a1 a2 a3 u hn hI
  obtain ⟨D, m, hW, hR⟩ := Inv_to hI
  have hc := hW.cw
  have b := hc.b
  have hM0 : Mw D m 55 (sI u 47 0 0) := (hW.fr (Fm.rf.sI rfl)).mw
  by_cases h0 : isIx (dM D) a1
  · obtain ⟨r, hr, rfl⟩ := h0
    by_cases h1 : isIx (2 ^ dT D) a2
    · obtain ⟨y, hy, rfl⟩ := h1
      by_cases h2 : isIx (2 ^ dT D) a3
      · obtain ⟨z, hz, rfl⟩ := h2
        obtain ⟨v, e1, p1, f1⟩ := parts_c hW hr
        have ef : bsN (okN (fun c => unN (thR D m r) c (dP D)) y z) (2 ^ dP D) = bgN D m r y z (2 ^ dP D) := by rw [un_sbf]; rfl
        cases hb : bgN D m r y z (2 ^ dP D) with
        | none =>
          have e2 := tf_n p1 (by omega) (ef.trans hb)
          have k0 : Fq v (sI v 47 0 0) := Fm.rf.sI rfl
          have hM := (hW.ft (f1.pr.ft.trans k0.qt)).mw
          obtain ⟨v2, e3, f3, t3, g3⟩ := g55_m hM hr (y := y) (z := z)
          rw [hb] at e3
          refine ⟨-2, v, v2, ?_, ?_, Inv_Fr hI ((f1.pr.sI rfl).trans (g3 hb).fr)⟩
          · unfold fX11_glaze
            rw [isR_cy hc hr, oBs, if_neg (by decide), are_y hc hy, oBs, if_neg (by decide), are_y hc hz, oBs, if_neg (by decide), e1, oVs, e2, oBs]
          · rw [fX12_glaze, nxs, isR_my hM hr, oBs, if_neg (by decide), hM.xT, all_m (by omega), oBs, in_ay (by omega) hy, oBs, if_neg (by decide), hM.xT, all_m (by omega), oBs, in_ay (by omega) hz, oBs, if_neg (by decide), e3]; rfl
        | some c =>
          obtain ⟨w, e2, t2, f2⟩ := tf_s p1 (by omega) (ef.trans hb)
          have k0 : Fq w (sI w 47 0 0) := Fm.rf.sI rfl
          have k1 : Ft u w := f1.pr.ft.trans f2.tcft
          have hM := (hW.ft (k1.trans k0.qt)).mw
          obtain ⟨v2, e3, f3, t3, g3⟩ := g55_m hM hr (y := y) (z := z)
          rw [hb] at e3
          refine ⟨nI (pcN c), w, v2, ?_, ?_, q_told hI k1 t2 (k0.trans f3) (t3 c hb) (by simp)⟩
          · unfold fX11_glaze
            rw [isR_cy hc hr, oBs, if_neg (by decide), are_y hc hy, oBs, if_neg (by decide), are_y hc hz, oBs, if_neg (by decide), e1, oVs, e2, oBs]
          · rw [fX12_glaze, nxs, isR_my hM hr, oBs, if_neg (by decide), hM.xT, all_m (by omega), oBs, in_ay (by omega) hy, oBs, if_neg (by decide), hM.xT, all_m (by omega), oBs, in_ay (by omega) hz, oBs, if_neg (by decide), e3]; rfl
      · refine ⟨-1, u, sI u 47 0 0, ?_, ?_, q_no hI⟩
        · unfold fX11_glaze
          rw [isR_cy hc hr, oBs, if_neg (by decide), are_y hc hy, oBs, if_neg (by decide), are_no hc h2, oBs, if_pos rfl]
        · rw [fX12_glaze, nxs, isR_my hM0 hr, oBs, if_neg (by decide), hM0.xT, all_m (by omega), oBs, in_ay (by omega) hy, oBs, if_neg (by decide), hM0.xT, all_m (by omega), oBs, in_an (by omega) h2, oBs, if_pos rfl]
    · refine ⟨-1, u, sI u 47 0 0, ?_, ?_, q_no hI⟩
      · unfold fX11_glaze
        rw [isR_cy hc hr, oBs, if_neg (by decide), are_no hc h1, oBs, if_pos rfl]
      · rw [fX12_glaze, nxs, isR_my hM0 hr, oBs, if_neg (by decide), hM0.xT, all_m (by omega), oBs, in_an (by omega) h1, oBs, if_pos rfl]
  · refine ⟨-1, u, sI u 47 0 0, ?_, ?_, q_no hI⟩
    · unfold fX11_glaze
      rw [isR_cn hc h0, oBs, if_pos rfl]
    · rw [fX12_glaze, nxs, isR_mn hM0 h0, oBs, if_pos rfl]
/-! best -/
def beN (f : Nat → Nat) (h : Nat → Bool) : Nat → Option (Nat × Nat)
  | 0 => none
  | k + 1 => match beN f h k with
    | none => if h k then some (k, f k) else none
    | some c => if h k && decide (f k < c.2) then some (k, f k) else some c
theorem be_n {f : Nat → Nat} {h : Nat → Bool} {k : Nat} (q : h k = false) : beN f h (k + 1) = beN f h k := by
  cases hb : beN f h k <;> simp [beN, hb, q]
theorem be_ny {f : Nat → Nat} {h : Nat → Bool} {k : Nat} (hb : beN f h k = none) (q : h k = true) : beN f h (k + 1) = some (k, f k) := by simp [beN, hb, q]
theorem be_sy {f : Nat → Nat} {h : Nat → Bool} {k : Nat} {c : Nat × Nat} (hb : beN f h k = some c) (q : h k = true) (q2 : f k < c.2) : beN f h (k + 1) = some (k, f k) := by simp [beN, hb, q, q2]
theorem be_sn {f : Nat → Nat} {h : Nat → Bool} {k : Nat} {c : Nat × Nat} (hb : beN f h k = some c) (q2 : ¬ f k < c.2) : beN f h (k + 1) = some c := by simp [beN, hb, q2]
theorem be_lt {f : Nat → Nat} {h : Nat → Bool} (hf : ∀ j, f j ≤ 8) : ∀ {k : Nat} {c : Nat × Nat}, beN f h k = some c → c.1 < k ∧ c.2 ≤ 8
  | 0, c, q => (by cases q)
  | k + 1, c, q => by
    cases hh : h k with
    | false => rw [be_n hh] at q; have := be_lt hf q; omega
    | true =>
      cases hb : beN f h k with
      | none => rw [be_ny hb hh] at q; cases q; exact ⟨Nat.lt_succ_self k, hf k⟩
      | some d =>
        have := be_lt hf hb
        by_cases q2 : f k < d.2
        · rw [be_sy hb hh q2] at q; cases q; exact ⟨Nat.lt_succ_self k, hf k⟩
        · rw [be_sn hb q2] at q; cases q; omega
theorem be_none {f : Nat → Nat} {h : Nat → Bool} : ∀ {k : Nat}, beN f h k = none ↔ ∀ j, j < k → h j = false
  | 0 => ⟨fun _ j hj => absurd hj (Nat.not_lt_zero j), fun _ => rfl⟩
  | k + 1 => by
    constructor
    · intro q j hj
      cases hh : h k with
      | true =>
        cases hb : beN f h k with
        | none => rw [be_ny hb hh] at q; cases q
        | some d =>
          by_cases q2 : f k < d.2
          · rw [be_sy hb hh q2] at q; cases q
          · rw [be_sn hb q2] at q; cases q
      | false =>
        rw [be_n hh] at q
        by_cases e : j = k
        · subst e; exact hh
        · exact be_none.mp q j (by omega)
    · intro q
      rw [be_n (q k (by omega))]
      exact be_none.mpr (fun j hj => q j (by omega))
/-- how many a room sees without a pane -/
def wiN (D : DD) (m : MM) (r p : Nat) : Nat := pcN (sbN D m r (nm (huN D m (some r)) (2 ^ p)))
def beR (D : DD) (m : MM) (r k : Nat) : Option (Nat × Nat) := beN (wiN D m r) (huB m (some r)) k
theorem nm_256 {a b : Nat} (h : a < 256) : nm a b < 256 := Nat.lt_of_le_of_lt (nm_le a b) h
theorem sbN_256 (h : DatO D) (r a : Nat) : sbN D m r a < 256 := bN_256 h.1.2.2.2.2.1
theorem hu_tb {p : Nat} (hp : p < dP D) (o : Option Nat) : (huN D m o).testBit p = huB m o p := by rw [huN, bN_tb, decide_eq_true hp, Bool.true_and]
def beC : Option (Nat × Nat) → Int32 × Int32
  | none => (-1, 9)
  | some c => (nI c.1, nI c.2)
def beM : Option (Nat × Nat) → Int32 × Int32
  | none => (-2, 1000000)
  | some c => (nI c.1, nI c.2)
theorem best_c (hW : Wd D m u) {r : Nat} (hr : r < dM D) (hp : PaC (thR D m r) (dP D) u) : ∃ v, fX11_best_47 (nI r) FU (nI (huN D m (some r))) (-1) 9 0 u = some ((beC (beR D m r (dP D))).1, v) ∧ TolC [(beC (beR D m r (dP D))).2.toInt64, (nI (pcN (seN D m r))).toInt64] v ∧ Tc u v := by
  have hc := hW.cw
  have b := hc.b
  have hu := huN_256 (m := m) (o := some r) (show dP D ≤ 8 by omega)
  refine lpF (fun f (x : Int32 × Int32 × Int32 × Int32) w => fX11_best_47 (nI r) f x.1 x.2.1 x.2.2.1 x.2.2.2 w) (dP D) (fun i => (nI (huN D m (some r)), (beC (beR D m r i)).1, (beC (beR D m r i)).2, nI i)) (fun w => w = u) (fun o => ∃ v, o = some ((beC (beR D m r (dP D))).1, v) ∧ TolC [(beC (beR D m r (dP D))).2.toInt64, (nI (pcN (seN D m r))).toInt64] v ∧ Tc u v) ?_ ?_ (by omega) (nI (huN D m (some r)), -1, 9, 0) rfl rfl
  · intro f k w hk hf
    subst hf
    refine ⟨w, rfl, ?_⟩
    dsimp only
    have hn := nm_256 (b := 2 ^ k) hu
    rw [fX11_best_47, hc.xP, if_neg (nI_ge hk (by omega)), sh1 k (by omega), and_n, union_c hp (by omega) (by omega), oBs, un_sb, bc_n (sbN_256 hW.1 r _), oBs, has_c (by omega) (by omega), oBs, hu_tb hk, nI_1, show pcN (sbN D m r (nm (huN D m (some r)) (2 ^ k))) = wiN D m r k from rfl]
    cases hh : huB m (some r) k with
    | false => rw [if_pos (show bI false = 0 from rfl), show beR D m r (k + 1) = beR D m r k from be_n hh]
    | true =>
      rw [if_neg (show ¬ bI true = 0 by decide)]
      have h8 : wiN D m r k ≤ 8 := pcN_le _
      cases hb : beR D m r k with
      | none => rw [show beR D m r (k + 1) = some (k, wiN D m r k) from be_ny hb hh, if_neg (show ¬ (beC none).2 ≤ nI (wiN D m r k) from nI_ge (b := 9) (by omega) (by omega))]; rfl
      | some c =>
        have hc2 := (be_lt (fun j => pcN_le _) hb).2
        by_cases q2 : wiN D m r k < c.2
        · rw [show beR D m r (k + 1) = some (k, wiN D m r k) from be_sy hb hh q2, if_neg (show ¬ (beC (some c)).2 ≤ nI (wiN D m r k) from nI_ge q2 (by omega))]; rfl
        · rw [show beR D m r (k + 1) = some c from be_sn hb q2, if_pos (show (beC (some c)).2 ≤ nI (wiN D m r k) from nI_le (by omega) (by omega))]
  · intro f w hf
    subst hf
    dsimp only
    obtain ⟨v, e1, t1, f1⟩ := tl2_c (beC (beR D m r (dP D))).2.toInt64 (nI (pcN (seN D m r))).toInt64 w
    rw [fX11_best_47, hc.xP, if_pos (nI_le (Nat.le_refl _) (by omega)), union_c hp (by omega) (by omega), oBs, un_sb, show sbN D m r (huN D m (some r)) = seN D m r from bN_cong (fun t _ => sb_hu D m r), bc_n (seN_256 hW.1 r), oBs, e1, oVs]
    exact ⟨v, rfl, t1, f1⟩
theorem best_m (hW : Wd D m u) {r : Nat} (hr : r < dM D) : ∃ v, fX12_best_36 (nI r) FU (nI (huN D m (some r))) (-2) 1000000 0 u = some ((beM (beR D m r (dP D))).1, v) ∧ Fq u v ∧ (beR D m r (dP D) = none → Sx u v) ∧ (∀ c, beR D m r (dP D) = some c → TolM [(nI c.2).toInt64, (nI (pcN (seN D m r))).toInt64] v) := by
  have h := hW.mw
  have b := h.b
  have hu := huN_256 (m := m) (o := some r) (show dP D ≤ 8 by omega)
  refine lpF (fun f (x : Int32 × Int32 × Int32 × Int32) w => fX12_best_36 (nI r) f x.1 x.2.1 x.2.2.1 x.2.2.2 w) (dP D) (fun i => (nI (huN D m (some r)), (beM (beR D m r i)).1, (beM (beR D m r i)).2, nI i)) (fun w => Sx u w) (fun o => ∃ v, o = some ((beM (beR D m r (dP D))).1, v) ∧ Fq u v ∧ (beR D m r (dP D) = none → Sx u v) ∧ (∀ c, beR D m r (dP D) = some c → TolM [(nI c.2).toInt64, (nI (pcN (seN D m r))).toInt64] v)) ?_ ?_ (by omega) (nI (huN D m (some r)), -2, 1000000, 0) rfl Fm.rf
  · intro f k w hk hf
    have hw := h.sx hf
    dsimp only
    have hn := nm_256 (b := 2 ^ k) hu
    rw [fX12_best_36, hw.xP, if_neg (nI_ge hk (by omega)), has_m (by omega) (by omega), oBs, hu_tb hk]
    cases hh : huB m (some r) k with
    | false => exact ⟨w, hf, by rw [if_pos (show bI false = 0 from rfl), nI_1, show beR D m r (k + 1) = beR D m r k from be_n hh]⟩
    | true =>
      obtain ⟨v, e1, f1⟩ := seenBy_m hw hr hn
      refine ⟨v, hf.trans f1, ?_⟩
      have h8 : wiN D m r k ≤ 8 := pcN_le _
      rw [if_neg (show ¬ bI true = 0 by decide), sh1 k (by omega), and_n, e1, oBs, bc_n (sbN_256 hW.1 r _), oBs, show pcN (sbN D m r (nm (huN D m (some r)) (2 ^ k))) = wiN D m r k from rfl]
      cases hb : beR D m r k with
      | none =>
        have q : nI (wiN D m r k) < (beM none).2 := nI_lt (b := 1000000) (by omega) (by omega)
        rw [show beR D m r (k + 1) = some (k, wiN D m r k) from be_ny hb hh, if_neg (show ¬ (beM none).2 ≤ nI (wiN D m r k) from nI_ge (b := 1000000) (by omega) (by omega)), fX12_best_89, if_pos q, nI_1]; rfl
      | some c =>
        have hc2 := (be_lt (fun j => pcN_le _) hb).2
        by_cases q2 : wiN D m r k < c.2
        · have q : nI (wiN D m r k) < (beM (some c)).2 := nI_lt q2 (by omega)
          rw [show beR D m r (k + 1) = some (k, wiN D m r k) from be_sy hb hh q2, if_neg (show ¬ (beM (some c)).2 ≤ nI (wiN D m r k) from nI_ge q2 (by omega)), fX12_best_89, if_pos q, nI_1]; rfl
        · have q : ¬ nI (wiN D m r k) < (beM (some c)).2 := nI_nlt (by omega) (by omega)
          rw [show beR D m r (k + 1) = some c from be_sn hb q2, if_pos (show (beM (some c)).2 ≤ nI (wiN D m r k) from nI_le (by omega) (by omega)), fX12_best_89, if_neg q, nI_1]
  · intro f w hf
    have hw := h.sx hf
    dsimp only
    rw [fX12_best_36, hw.xP, if_pos (nI_le (Nat.le_refl _) (by omega))]
    cases hb : beR D m r (dP D) with
    | none =>
      rw [if_pos (show (beM none).1 < 0 by decide)]
      exact ⟨w, rfl, hf.sq, fun _ => hf, (fun c q => by cases q)⟩
    | some c =>
      have hl := be_lt (fun j => pcN_le _) hb
      obtain ⟨v1, e1, t1, f1⟩ := en_m (clr_m w) (by decide) (nI c.2).toInt64
      have k1 : Fq u v1 := (hf.sq.sI rfl).trans f1.mq
      obtain ⟨v2, e2, f2⟩ := seen_m (hW.ft k1.qt).mw hr
      obtain ⟨v3, e3, t3, f3⟩ := en_m (t1.fm f2 rfl rfl) (by simp) (nI (pcN (seN D m r))).toInt64
      rw [if_neg (show ¬ (beM (some c)).1 < 0 from nI_pos (by omega)), nxs, show (beM (some c)).2 = nI c.2 from rfl, e1, oVs, e2, oBs, bc_n (seN_256 hW.1 r), oBs, e3, oVs]
      exact ⟨v3, rfl, (k1.trans f2.sq).trans f3.mq, (fun q => by cases q), (fun c' q => by cases q; exact t3)⟩
theorem hu_zero {r : Nat} (h8 : dP D ≤ 8) : nI (huN D m (some r)) = 0 ↔ ∀ j, j < dP D → huB m (some r) j = false := by
  have hu := huN_256 (m := m) (o := some r) h8
  rw [nI_z (by omega)]
  constructor
  · intro h j hj
    rw [← hu_tb hj, h, Nat.zero_testBit]
  · intro h
    apply tb_ext; intro i
    rw [huN, bN_tb, Nat.zero_testBit]
    by_cases hi : i < dP D
    · rw [h i hi, Bool.and_false]
    · simp [hi]
theorem st_25 : St_25 Inv := by
  intro n a u hn hI
  obtain ⟨D, m, hW, hR⟩ := Inv_to hI
  have hc := hW.cw
  have b := hc.b
  have hM0 : Mw D m 55 (sI u 47 0 0) := (hW.fr (Fm.rf.sI rfl)).mw
  by_cases h0 : isIx (dM D) a
  · obtain ⟨r, hr, rfl⟩ := h0
    cases hb : beR D m r (dP D) with
    | none =>
      have hz := (hu_zero (D := D) (m := m) (r := r) (by omega)).mpr (be_none.mp hb)
      obtain ⟨v, e1, f1, g1, t1⟩ := best_m (hW.fr (Fm.rf.sI rfl) : Wd D m (sI u 47 0 0)) hr
      rw [hb] at e1
      refine ⟨-2, u, v, ?_, ?_, Inv_Fr hI ((Fm.rf.sI rfl).trans (g1 hb).fr)⟩
      · unfold fX11_best
        rw [isR_cy hc hr, oBs, if_neg (by decide), pIn_c hc hr, oBs, if_pos hz]
      · rw [fX12_best, nxs, isR_my hM0 hr, oBs, if_neg (by decide), pOf_m hM0 hr, oBs, e1]; rfl
    | some c =>
      have hz : ¬ nI (huN D m (some r)) = 0 := fun q => by
        have := (be_none (f := wiN D m r)).mpr ((hu_zero (D := D) (m := m) (r := r) (by omega)).mp q)
        rw [show beN (wiN D m r) (huB m (some r)) (dP D) = _ from hb] at this; cases this
      obtain ⟨w, e0, p0, f0⟩ := parts_c hW hr
      obtain ⟨w1, e1, t1, f1⟩ := best_c (hW.fr f0.pr) hr p0
      have k1 : Ft u w1 := f0.pr.ft.trans f1.tcft
      have k2 : Fq w1 (sI w1 47 0 0) := Fm.rf.sI rfl
      have hW2 := hW.ft (k1.trans k2.qt)
      obtain ⟨v, e2, f2, g2, t2⟩ := best_m hW2 hr
      rw [hb] at e1 e2 t1
      refine ⟨nI c.1, w1, v, ?_, ?_, q_told hI k1 t1 (k2.trans f2) (t2 c hb) (by simp)⟩
      · unfold fX11_best
        rw [isR_cy hc hr, oBs, if_neg (by decide), pIn_c hc hr, oBs, if_neg hz, e0, oVs, e1]; rfl
      · rw [fX12_best, nxs, isR_my hW2.mw hr, oBs, if_neg (by decide), pOf_m hW2.mw hr, oBs, e2]; rfl
  · refine ⟨-1, u, sI u 47 0 0, ?_, ?_, q_no hI⟩
    · unfold fX11_best
      rw [isR_cn hc h0, oBs, if_pos rfl]
    · rw [fX12_best, nxs, isR_mn hM0 h0, oBs, if_pos rfl]
