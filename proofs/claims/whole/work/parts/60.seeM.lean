/-! what the model sees -/
variable {D : DD} {m : MM} {e r : Nat} {u v : US}
def lsB (D : DD) (m : MM) (a k s p : Nat) : Bool := a.testBit p && letB D m (mT m) p k s
theorem letsSome_m (h : Mw D m r u) {a k s : Nat} (ha : a < 256) (hk : k < 8) (hs : s < 10) : ∃ v, fX12_letsSome r (nI a) (nI k) (nI s) u = some (bI (anyB (lsB D m a k s) (dP D)), v) ∧ Sx u v := by
  have b := h.b
  unfold fX12_letsSome
  rw [gd_t h.im]
  refine lp (fun f (x : Int32 × Int32) w => fX12_letsSome_6 r (nI a) (nI k) (nI s) f x.1 x.2 w) (dP D) (fun i x w => x = (bI (anyB (lsB D m a k s) i), nI i) ∧ Sx u w) (fun o => ∃ v, o = some (bI (anyB (lsB D m a k s) (dP D)), v) ∧ Sx u v) ?_ ?_ FU 0 (0, 0) u (FUg (by omega)) (Nat.zero_le _) ⟨rfl, Fm.rf⟩
  · rintro n i ⟨x, y⟩ w hi ⟨e0, hf⟩
    cases e0
    left
    have hw := h.sx hf
    show ∃ s' v, _ ∧ fX12_letsSome_6 r (nI a) (nI k) (nI s) (n + 1) (bI (anyB (lsB D m a k s) i)) (nI i) w = _
    rw [fX12_letsSome_6, hw.xP, if_neg (nI_ge hi (by omega)), nI_1]
    cases hA : anyB (lsB D m a k s) i with
    | true =>
      rw [if_neg (show ¬ bI true = 0 by decide)]
      refine ⟨(_, nI (i + 1)), w, ⟨rfl, hf⟩, ?_⟩
      rw [anyB, hA, Bool.true_or]; rfl
    | false =>
      rw [if_pos (show bI false = 0 from rfl), has_m (by omega) (by omega), oBs]
      by_cases ht : a.testBit i = true
      · obtain ⟨v, e1, f1⟩ := lets_m hw hi hk hs
        rw [ht, if_neg (show ¬ bI true = 0 by decide), e1, oBs]
        refine ⟨(_, nI (i + 1)), v, ⟨rfl, hf.trans f1⟩, ?_⟩
        rw [anyB, hA, Bool.false_or, lsB, ht, Bool.true_and]
        cases letB D m (mT m) i k s <;> rfl
      · rw [ts_nt ht, if_pos (show bI false = 0 from rfl)]
        refine ⟨(_, nI (i + 1)), w, ⟨rfl, hf⟩, ?_⟩
        rw [anyB, hA, Bool.false_or, lsB, ts_nt ht, Bool.false_and]; rfl
  · rintro n ⟨x, y⟩ w ⟨e0, hf⟩
    cases e0
    have hw := h.sx hf
    show ∃ v, fX12_letsSome_6 r (nI a) (nI k) (nI s) (n + 1) (bI (anyB (lsB D m a k s) (dP D))) (nI (dP D)) w = _ ∧ _
    rw [fX12_letsSome_6, hw.xP, if_pos (nI_le (Nat.le_refl _) (by omega)), gd_t (isB_bI _)]
    exact ⟨w, rfl, hf⟩
/-- things seen by a room through some panes -/
def sbB (D : DD) (m : MM) (r a t : Nat) : Bool := neB D m r t && anyB (lsB D m a (dk D t) (ds D t)) (dP D)
def sbN (D : DD) (m : MM) (r a : Nat) : Nat := bN (sbB D m r a) (dT D)
theorem seenBy_m (h : Mw D m e u) {r a : Nat} (hr : r < dM D) (ha : a < 256) : ∃ v, fX12_seenBy e (nI r) (nI a) u = some (nI (sbN D m r a), v) ∧ Sx u v := by
  have b := h.b
  unfold fX12_seenBy
  rw [gd_t h.im, near_m h hr, oBs]
  have e00 : neN D m r = bN (fun t => neB D m r t && (decide (0 ≤ t) || anyB (lsB D m a (dk D t) (ds D t)) (dP D))) (dT D) := bN_cong (fun t ht => by simp)
  refine lp (fun f (x : Int32 × Int32) w => fX12_seenBy_11 e (nI r) (nI a) f x.1 x.2 w) (dT D) (fun i x w => x = (nI (bN (fun t => neB D m r t && (decide (i ≤ t) || anyB (lsB D m a (dk D t) (ds D t)) (dP D))) (dT D)), nI i) ∧ Sx u w) (fun o => ∃ v, o = some (nI (sbN D m r a), v) ∧ Sx u v) ?_ ?_ FU 0 (nI (neN D m r), 0) u (FUg (by omega)) (Nat.zero_le _) ⟨by rw [e00]; rfl, Fm.rf⟩
  · rintro n i ⟨x, y⟩ w hi ⟨e0, hf⟩
    cases e0
    left
    have hw := h.sx hf
    have hS := bN_256 (p := fun t => neB D m r t && (decide (i ≤ t) || anyB (lsB D m a (dk D t) (ds D t)) (dP D))) (show dT D ≤ 8 by omega)
    show ∃ s' v, _ ∧ fX12_seenBy_11 e (nI r) (nI a) (n + 1) (nI (bN (fun t => neB D m r t && (decide (i ≤ t) || anyB (lsB D m a (dk D t) (ds D t)) (dP D))) (dT D))) (nI i) w = _
    have same : (neB D m r i = false ∨ anyB (lsB D m a (dk D i) (ds D i)) (dP D) = true) → bN (fun t => neB D m r t && (decide (i ≤ t) || anyB (lsB D m a (dk D t) (ds D t)) (dP D))) (dT D) = bN (fun t => neB D m r t && (decide (i + 1 ≤ t) || anyB (lsB D m a (dk D t) (ds D t)) (dP D))) (dT D) := by
      intro q
      refine bN_cong (fun t ht => ?_)
      by_cases et : t = i
      · subst et
        rcases q with q | q
        · rw [q, Bool.false_and, Bool.false_and]
        · rw [q, Bool.or_true, Bool.or_true]
      · rw [show decide (i ≤ t) = decide (i + 1 ≤ t) by rw [decide_eq_decide]; omega]
    rw [fX12_seenBy_11, hw.xT, if_neg (nI_ge hi (by omega)), has_m (by omega) (by omega), oBs, nI_1, and_m1]
    have hb : (bN (fun t => neB D m r t && (decide (i ≤ t) || anyB (lsB D m a (dk D t) (ds D t)) (dP D))) (dT D)).testBit i = neB D m r i := by
      rw [bN_tb]; simp [hi]
    rw [hb]
    cases hN : neB D m r i with
    | false =>
      rw [if_pos (show bI false = 0 from rfl)]
      exact ⟨(_, nI (i + 1)), w, ⟨rfl, hf⟩, by rw [same (Or.inl hN)]⟩
    | true =>
      obtain ⟨v, e1, f1⟩ := letsSome_m hw ha (hw.2.1.2.1 i hi) (hw.2.1.2.2.1 i hi)
      rw [if_neg (show ¬ bI true = 0 by decide), gd_t (inb_nI (show i < 8 by omega) (by omega)), gd_t (inb_nI (show i < 8 by omega) (by omega)), hw.gk hi, hw.gs hi, e1, oBs]
      refine ⟨(_, nI (i + 1)), v, ⟨rfl, hf.trans f1⟩, ?_⟩
      cases hA : anyB (lsB D m a (dk D i) (ds D i)) (dP D) with
      | true => rw [if_neg (show ¬ bI true = 0 by decide), same (Or.inr hA)]
      | false =>
        rw [if_pos (show bI false = 0 from rfl), sh1 i (by omega), and_n]
        have : nm (bN (fun t => neB D m r t && (decide (i ≤ t) || anyB (lsB D m a (dk D t) (ds D t)) (dP D))) (dT D)) (2 ^ i) = bN (fun t => neB D m r t && (decide (i + 1 ≤ t) || anyB (lsB D m a (dk D t) (ds D t)) (dP D))) (dT D) := by
          apply tb_ext; intro j
          rw [nm_tb (by omega), bN_tb, bN_tb, Nat.testBit_two_pow]
          by_cases ej : i = j
          · subst ej; rw [hA]; simp
          · rw [show decide (i ≤ j) = decide (i + 1 ≤ j) by rw [decide_eq_decide]; omega]; simp [ej]
        rw [this]
  · rintro n ⟨x, y⟩ w ⟨e0, hf⟩
    cases e0
    have hw := h.sx hf
    show ∃ v, fX12_seenBy_11 e (nI r) (nI a) (n + 1) (nI (bN (fun t => neB D m r t && (decide (dT D ≤ t) || anyB (lsB D m a (dk D t) (ds D t)) (dP D))) (dT D))) (nI (dT D)) w = _ ∧ _
    rw [fX12_seenBy_11, hw.xT, if_pos (nI_le (Nat.le_refl _) (by omega))]
    refine ⟨w, ?_, hf⟩
    rw [show bN (fun t => neB D m r t && (decide (dT D ≤ t) || anyB (lsB D m a (dk D t) (ds D t)) (dP D))) (dT D) = sbN D m r a from bN_cong (fun t ht => by rw [decide_eq_false (by omega), Bool.false_or]; rfl)]
theorem sb_hu (D : DD) (m : MM) (r : Nat) {t : Nat} : sbB D m r (huN D m (some r)) t = seB D m r t := by
  unfold sbB seB gaB
  rw [anyB_cong (p := lsB D m (huN D m (some r)) (dk D t) (ds D t)) (q := fun p => huB m (some r) p && leT D m p t) (fun p hp => by unfold lsB huN; rw [bN_tb, decide_eq_true hp, Bool.true_and]; rfl)]
theorem huN_256 {D : DD} {m : MM} {o : Option Nat} (h : dP D ≤ 8) : huN D m o < 256 := bN_256 h
theorem seen_m (h : Mw D m e u) {r : Nat} (hr : r < dM D) : ∃ v, fX12_seen e (nI r) u = some (nI (seN D m r), v) ∧ Sx u v := by
  have b := h.b
  obtain ⟨v, e1, f1⟩ := seenBy_m h hr (a := huN D m (some r)) (huN_256 (by omega))
  unfold fX12_seen
  rw [gd_t h.im, pOf_m h hr, oBs, e1, oBs]
  refine ⟨v, ?_, f1⟩
  rw [show sbN D m r (huN D m (some r)) = seN D m r from bN_cong (fun t _ => sb_hu D m r)]
theorem seN_256 (h : DatO D) (r : Nat) : seN D m r < 256 := bN_256 h.1.2.2.2.2.1
theorem neN_256 (h : DatO D) (r : Nat) : neN D m r < 256 := bN_256 h.1.2.2.2.2.1
/-- a thing of a sort on a field: is it seen -/
def snB (D : DD) (m : MM) (f k s r : Nat) : Bool := reB D r f && anyB (lsB D m (huN D m (some r)) k s) (dP D)
theorem isSeen_m (h : Mw D m e u) {f k s : Nat} (hf0 : f < 36) (hk : k < 8) (hs : s < 10) : ∃ v, fX12_isSeen e (nI f) (nI k) (nI s) u = some (bI (anyB (snB D m f k s) (dM D)), v) ∧ Sx u v := by
  have b := h.b
  unfold fX12_isSeen
  rw [gd_t h.im]
  refine lp (fun g (x : Int32 × Int32) w => fX12_isSeen_6 e (nI f) (nI k) (nI s) g x.1 x.2 w) (dM D) (fun i x w => x = (bI (anyB (snB D m f k s) i), nI i) ∧ Sx u w) (fun o => ∃ v, o = some (bI (anyB (snB D m f k s) (dM D)), v) ∧ Sx u v) ?_ ?_ FU 0 (0, 0) u (FUg (by omega)) (Nat.zero_le _) ⟨rfl, Fm.rf⟩
  · rintro n i ⟨x, y⟩ w hi ⟨e0, hf⟩
    cases e0
    left
    have hw := h.sx hf
    show ∃ s' v, _ ∧ fX12_isSeen_6 e (nI f) (nI k) (nI s) (n + 1) (bI (anyB (snB D m f k s) i)) (nI i) w = _
    rw [fX12_isSeen_6, hw.xM, if_neg (nI_ge hi (by omega)), nI_1]
    cases hA : anyB (snB D m f k s) i with
    | true =>
      rw [if_neg (show ¬ bI true = 0 by decide)]
      refine ⟨(_, nI (i + 1)), w, ⟨rfl, hf⟩, ?_⟩
      rw [anyB, hA, Bool.true_or]; rfl
    | false =>
      rw [if_pos (show bI false = 0 from rfl), isNear_m hw hi hf0, oBs]
      by_cases ht : reB D i f = true
      · obtain ⟨v, e1, f1⟩ := letsSome_m hw (a := huN D m (some i)) (huN_256 (by omega)) hk hs
        rw [ht, if_neg (show ¬ bI true = 0 by decide), pOf_m hw hi, oBs, e1, oBs]
        refine ⟨(_, nI (i + 1)), v, ⟨rfl, hf.trans f1⟩, ?_⟩
        rw [anyB, hA, Bool.false_or, snB, ht, Bool.true_and]
        cases anyB (lsB D m (huN D m (some i)) k s) (dP D) <;> rfl
      · rw [ts_nt ht, if_pos (show bI false = 0 from rfl)]
        refine ⟨(_, nI (i + 1)), w, ⟨rfl, hf⟩, ?_⟩
        rw [anyB, hA, Bool.false_or, snB, ts_nt ht, Bool.false_and]; rfl
  · rintro n ⟨x, y⟩ w ⟨e0, hf⟩
    cases e0
    have hw := h.sx hf
    show ∃ v, fX12_isSeen_6 e (nI f) (nI k) (nI s) (n + 1) (bI (anyB (snB D m f k s) (dM D))) (nI (dM D)) w = _ ∧ _
    rw [fX12_isSeen_6, hw.xM, if_pos (nI_le (Nat.le_refl _) (by omega)), gd_t (isB_bI _)]
    exact ⟨w, rfl, hf⟩
