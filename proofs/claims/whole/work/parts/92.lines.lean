/-! lines behind each other, on both sides -/
variable {D : DD} {m m' : MM} {e r : Nat} {u v : US} {n mo p : Nat} {c : Nat → Nat} {ok : Bool}
def runL (lpf : Nat → Nat × Bool) (semi : Nat → Bool) : Nat → Nat → Nat × Nat × Bool
  | 0, p => (0, p, false)
  | f + 1, p => if (lpf p).2 then (if semi (lpf p).1 then ((runL lpf semi f ((lpf p).1 + 1)).1 + 1, (runL lpf semi f ((lpf p).1 + 1)).2) else (1, (lpf p).1, true)) else (0, (lpf p).1, false)
def stN (lpf : Nat → Nat × Bool) : Nat → Nat
  | 0 => 0
  | i + 1 => (lpf (stN lpf i)).1 + 1
variable {lpf : Nat → Nat × Bool} {semi : Nat → Bool}
theorem run_no {f p : Nat} (h : (lpf p).2 = false) : runL lpf semi (f + 1) p = (0, (lpf p).1, false) := by rw [runL, h, if_neg (by decide)]
theorem run_end {f p : Nat} (h : (lpf p).2 = true) (h2 : semi (lpf p).1 = false) : runL lpf semi (f + 1) p = (1, (lpf p).1, true) := by rw [runL, h, if_pos rfl, h2, if_neg (by decide)]
theorem run_go {f p : Nat} (h : (lpf p).2 = true) (h2 : semi (lpf p).1 = true) : runL lpf semi (f + 1) p = ((runL lpf semi f ((lpf p).1 + 1)).1 + 1, (runL lpf semi f ((lpf p).1 + 1)).2) := by rw [runL, h, if_pos rfl, h2, if_pos rfl]
/-- the rest of a run -/
def rsR (lpf : Nat → Nat × Bool) (semi : Nat → Bool) (cap i : Nat) : Prop := runL lpf semi cap 0 = ((runL lpf semi (cap - i) (stN lpf i)).1 + i, (runL lpf semi (cap - i) (stN lpf i)).2)
theorem rs_0 (cap : Nat) : rsR lpf semi cap 0 := rfl
theorem rs_go {cap i : Nat} (h : rsR lpf semi cap i) (hi : i < cap) (h1 : (lpf (stN lpf i)).2 = true) (h2 : semi (lpf (stN lpf i)).1 = true) : rsR lpf semi cap (i + 1) := by
  unfold rsR at h ⊢
  obtain ⟨j, hj⟩ : ∃ j, cap - i = j + 1 := ⟨cap - i - 1, (by omega)⟩
  rw [hj, run_go h1 h2] at h
  rw [h, show cap - (i + 1) = j by omega]
  show _ = ((runL lpf semi j ((lpf (stN lpf i)).1 + 1)).1 + (i + 1), _)
  rw [Nat.add_assoc, Nat.add_comm 1 i]; rfl
theorem rs_full {cap : Nat} (h : rsR lpf semi cap cap) : runL lpf semi cap 0 = (cap, stN lpf cap, false) := by
  unfold rsR at h
  rw [h, Nat.sub_self, runL, Nat.zero_add]
theorem rs_no {cap i : Nat} (h : rsR lpf semi cap i) (hi : i < cap) (h1 : (lpf (stN lpf i)).2 = false) : runL lpf semi cap 0 = (i, (lpf (stN lpf i)).1, false) := by
  unfold rsR at h
  obtain ⟨j, hj⟩ : ∃ j, cap - i = j + 1 := ⟨cap - i - 1, (by omega)⟩
  rw [h, hj, run_no h1, Nat.zero_add]
theorem rs_end {cap i : Nat} (h : rsR lpf semi cap i) (hi : i < cap) (h1 : (lpf (stN lpf i)).2 = true) (h2 : semi (lpf (stN lpf i)).1 = false) : runL lpf semi cap 0 = (i + 1, (lpf (stN lpf i)).1, true) := by
  unfold rsR at h
  obtain ⟨j, hj⟩ : ∃ j, cap - i = j + 1 := ⟨cap - i - 1, (by omega)⟩
  rw [h, hj, run_end h1 h2, Nat.add_comm]
/-- what stands when the class has read its lines -/
def FinC (n mo : Nat) (c : Nat → Nat) (b : Nat) (R : Nat × Nat × Bool) (Ix : Nat → US → Prop) (G : US → Prop) (last : Nat) (more : Bool) (w : US) : Prop := ∃ q ok, Rc n mo c q ok w ∧ q = R.2.1 ∧ (∀ x, anV n q (ok && !more) x = anV n q R.2.2 x) ∧ (R.2.2 = true → last = b + R.1 ∧ Ix R.1 w) ∧ G w ∧ last ≤ 9
theorem an_lt (h : ¬ p = n) (k1 k2 : Bool) (x : Int32) : anV n p k1 x = anV n p k2 x := by
  unfold anV; rw [decide_eq_false h, Bool.and_false, Bool.and_false]
theorem lines_c {ρ : Type} (Lp : Nat → Int32 → Int32 → US → Option ρ) (E : Int32 → Int32 → US → Option ρ) (M b : Nat) (hM : M ≤ 8) (hb : b ≤ M) (Ix : Nat → US → Prop) (G : US → Prop) (hA : ∀ f x w, Lp (f + 1) x 0 w = E x 0 w) (hB : ∀ f w, Lp (f + 1) (nI M) 1 w = E (nI M) 1 w)
    (hC : ∀ f i w, b + i < M → Rc n mo c (stN lpf i) true w → Ix i w → G w → ∃ v, Lp (f + 1) (nI (b + i)) 1 w = Lp f (nI (b + i + 1)) (bI ((lpf (stN lpf i)).2 && htB n mo c (lpf (stN lpf i)).1 59)) v ∧ Rc n mo c (if ((lpf (stN lpf i)).2 && htB n mo c (lpf (stN lpf i)).1 59) = true then (lpf (stN lpf i)).1 + 1 else (lpf (stN lpf i)).1) ((lpf (stN lpf i)).2 && (htB n mo c (lpf (stN lpf i)).1 59 || !decide ((lpf (stN lpf i)).1 < min n mo))) v ∧ ((lpf (stN lpf i)).2 = true → Ix (i + 1) v) ∧ G v)
    (h0 : Rc n mo c 0 true u) (hI : Ix 0 u) (hG : G u) : ∃ last more w, Lp FU (nI b) 1 u = E (nI last) (bI more) w ∧ FinC n mo c b (runL lpf (fun q => htB n mo c q 59) (M - b) 0) Ix G last more w := by
  refine lp (fun f (z : Int32 × Int32) w => Lp f z.1 z.2 w) 20 (fun i z w => (z = (nI (b + i), 1) ∧ b + i ≤ M ∧ Rc n mo c (stN lpf i) true w ∧ Ix i w ∧ G w ∧ rsR lpf (fun q => htB n mo c q 59) (M - b) i) ∨ (∃ last, z = (nI last, 0) ∧ FinC n mo c b (runL lpf (fun q => htB n mo c q 59) (M - b) 0) Ix G last false w)) (fun o => ∃ last more w, o = E (nI last) (bI more) w ∧ FinC n mo c b (runL lpf (fun q => htB n mo c q 59) (M - b) 0) Ix G last more w) ?_ ?_ FU 0 (nI b, 1) u (FUg (by omega)) (by omega) (Or.inl ⟨rfl, hb, h0, hI, hG, rs_0 _⟩)
  · rintro f i ⟨z1, z2⟩ w hi (⟨ez, hle, hr, hx, hg, hrs⟩ | ⟨last, ez, hfin⟩)
    · cases ez
      by_cases hf : b + i = M
      · right
        have ei : i = M - b := by omega
        show ∃ last more w', Lp (f + 1) (nI (b + i)) 1 w = _ ∧ _
        rw [hf, hB f w]
        refine ⟨M, true, w, rfl, stN lpf i, true, hr, ?_, fun x => ?_, fun hq => ?_, hg, (by omega)⟩
        · rw [ei] at hrs
          rw [rs_full hrs, ei]
        · rw [ei] at hrs
          rw [rs_full hrs]; rfl
        · rw [ei] at hrs
          rw [rs_full hrs] at hq; cases hq
      · left
        obtain ⟨v, e1, r1, x1, g1⟩ := hC f i w (by omega) hr hx hg
        refine ⟨(nI (b + i + 1), bI ((lpf (stN lpf i)).2 && htB n mo c (lpf (stN lpf i)).1 59)), v, ?_, e1⟩
        have hic : i < M - b := by omega
        cases hk : (lpf (stN lpf i)).2 with
        | false =>
          right
          rw [hk, Bool.false_and, if_neg (by decide), Bool.false_and] at r1
          refine ⟨b + i + 1, by rw [Bool.false_and]; rfl, _, false, r1, ?_, fun x => ?_, fun hq => ?_, g1, (by omega)⟩
          · rw [rs_no hrs hic hk]
          · rw [rs_no hrs hic hk]; rfl
          · rw [rs_no hrs hic hk] at hq; cases hq
        | true =>
          rw [hk, Bool.true_and, Bool.true_and] at r1
          cases hs : htB n mo c (lpf (stN lpf i)).1 59 with
          | true =>
            left
            rw [hs, if_pos rfl, Bool.true_or] at r1
            exact ⟨by rw [Bool.true_and]; rfl, (by omega), r1, x1 hk, g1, rs_go hrs hic hk hs⟩
          | false =>
            right
            rw [hs, if_neg (by decide), Bool.false_or] at r1
            refine ⟨b + i + 1, by rw [Bool.true_and]; rfl, _, _, r1, ?_, fun x => ?_, fun hq => ?_, g1, (by omega)⟩
            · rw [rs_end hrs hic hk hs]
            · rw [rs_end hrs hic hk hs, Bool.not_false, Bool.and_true]
              by_cases qT : (lpf (stN lpf i)).1 < min n mo
              · exact an_lt (by omega) _ _ x
              · rw [decide_eq_false qT]; rfl
            · rw [rs_end hrs hic hk hs]
              exact ⟨(by omega), x1 hk⟩
    · cases ez
      right
      show ∃ last' more w', Lp (f + 1) (nI last) 0 w = _ ∧ _
      rw [hA f (nI last) w]
      exact ⟨last, false, w, rfl, hfin⟩
  · rintro f ⟨z1, z2⟩ w (⟨ez, hle, hr, hx, hg, hrs⟩ | ⟨last, ez, hfin⟩)
    · omega
    · cases ez
      show ∃ last' more w', Lp (f + 1) (nI last) 0 w = _ ∧ _
      rw [hA f (nI last) w]
      exact ⟨last, false, w, rfl, hfin⟩
/-- what stands when the model has read its lines -/
def FinM (n mo : Nat) (c : Nat → Nat) (R : Nat × Nat × Bool) (Ix : Nat → US → Prop) (G : US → Prop) (w : US) : Prop := Rm n mo c R.2.1 w ∧ (R.2.2 = true → gI w 47 23 = nI R.1 ∧ Ix R.1 w) ∧ G w
theorem lines_m (ht : Tok n mo c) {what : Int32} (cap : Nat) (hcap : cap ≤ 8) (hn0 : 0 < n) (Ix : Nat → US → Prop) (G : US → Prop) (hGd : ∀ {w v}, G w → Fdm w v → G v) (hId : ∀ {i w v}, Ix i w → Fdm w v → Ix i v)
    (hB : ∀ w, gI w 47 23 = nI cap → G w → fX12_readsLine what w = some (0, w))
    (hC : ∀ i w, i < cap → gI w 47 23 = nI i → Rm n mo c (stN lpf i) w → Ix i w → G w → ∃ v, fX12_readsLine what w = some (bI (lpf (stN lpf i)).2, v) ∧ Rm n mo c (lpf (stN lpf i)).1 v ∧ gI v 47 23 = nI (i + 1) ∧ ((lpf (stN lpf i)).2 = true → Ix (i + 1) v) ∧ G v)
    (h0 : Rm n mo c 0 u) (hz : gI u 47 23 = 0) (hI : Ix 0 u) (hG : G u) : ∃ w, fX12_readsLines_25 what (nI mo) FU (nI n) 1 1 u = some (anV n (runL lpf (fun q => htB n mo c q 59) cap 0).2.1 (runL lpf (fun q => htB n mo c q 59) cap 0).2.2 0, w) ∧ FinM n mo c (runL lpf (fun q => htB n mo c q 59) cap 0) Ix G w := by
  refine lp (fun f (z : Int32 × Int32) w => fX12_readsLines_25 what (nI mo) f (nI n) z.1 z.2 w) 20 (fun i z w => (z = (1, 1) ∧ i ≤ cap ∧ gI w 47 23 = nI i ∧ Rm n mo c (stN lpf i) w ∧ Ix i w ∧ G w ∧ rsR lpf (fun q => htB n mo c q 59) cap i) ∨ (z = (bI (runL lpf (fun q => htB n mo c q 59) cap 0).2.2, 0) ∧ FinM n mo c (runL lpf (fun q => htB n mo c q 59) cap 0) Ix G w)) (fun o => ∃ w, o = some (anV n (runL lpf (fun q => htB n mo c q 59) cap 0).2.1 (runL lpf (fun q => htB n mo c q 59) cap 0).2.2 0, w) ∧ FinM n mo c (runL lpf (fun q => htB n mo c q 59) cap 0) Ix G w) ?_ ?_ FU 0 (1, 1) u (FUg (by omega)) (by omega) (Or.inl ⟨rfl, Nat.zero_le _, hz, h0, hI, hG, rs_0 _⟩)
  · rintro f i ⟨z1, z2⟩ w hi (⟨ez, hle, h23, hr, hx, hg, hrs⟩ | ⟨ez, hfin⟩)
    · cases ez
      left
      show ∃ s' v, _ ∧ fX12_readsLines_25 what (nI mo) (f + 1) (nI n) 1 1 w = _
      rw [fX12_readsLines_25, if_neg (by decide)]
      by_cases hf : i = cap
      · subst hf
        rw [hB w h23 hg, oBs, if_pos rfl]
        refine ⟨(0, 0), w, Or.inr ⟨?_, ?_⟩, rfl⟩
        · rw [rs_full hrs]; rfl
        · rw [rs_full hrs]
          exact ⟨hr, fun hq => (by cases hq), hg⟩
      · obtain ⟨v, e1, r1, t1, x1, g1⟩ := hC i w (by omega) h23 hr hx hg
        have hic : i < cap := by omega
        rw [e1, oBs]
        cases hk : (lpf (stN lpf i)).2 with
        | false =>
          rw [if_pos (show bI false = 0 from rfl)]
          refine ⟨(bI false, 0), v, Or.inr ⟨?_, ?_⟩, rfl⟩
          · rw [rs_no hrs hic hk]
          · rw [rs_no hrs hic hk]
            exact ⟨r1, fun hq => (by cases hq), g1⟩
        | true =>
          obtain ⟨v2, e2, r2, f2⟩ := tsign_m ht r1 (s := 59) (by decide)
          rw [if_neg (show ¬ bI true = 0 by decide), show (59 : Int32) = nI 59 from rfl, e2, oBs]
          cases hs : htB n mo c (lpf (stN lpf i)).1 59 with
          | true =>
            rw [hs, if_pos rfl] at r2
            rw [if_neg (show ¬ bI true = 0 by decide)]
            exact ⟨(bI true, 1), v2, Or.inl ⟨rfl, (by omega), (f2.i 47 23 rfl).trans t1, r2, hId (x1 hk) f2, hGd g1 f2, rs_go hrs hic hk hs⟩, rfl⟩
          | false =>
            rw [hs, if_neg (by decide)] at r2
            rw [if_pos (show bI false = 0 from rfl)]
            refine ⟨(bI true, 0), v2, Or.inr ⟨?_, ?_⟩, rfl⟩
            · rw [rs_end hrs hic hk hs]
            · rw [rs_end hrs hic hk hs]
              exact ⟨r2, fun _ => ⟨(f2.i 47 23 rfl).trans t1, hId (x1 hk) f2⟩, hGd g1 f2⟩
    · cases ez
      right
      show ∃ w', fX12_readsLines_25 what (nI mo) (f + 1) (nI n) (bI (runL lpf (fun q => htB n mo c q 59) cap 0).2.2) 0 w = _ ∧ _
      rw [fX12_readsLines_25, if_pos rfl, fault_m ht hfin.1, oBs]
      exact ⟨w, rfl, hfin⟩
  · rintro f ⟨z1, z2⟩ w (⟨ez, hle, h23, hr, hx, hg, hrs⟩ | ⟨ez, hfin⟩)
    · omega
    · cases ez
      show ∃ w', fX12_readsLines_25 what (nI mo) (f + 1) (nI n) (bI (runL lpf (fun q => htB n mo c q 59) cap 0).2.2) 0 w = _ ∧ _
      rw [fX12_readsLines_25, if_pos rfl, fault_m ht hfin.1, oBs]
      exact ⟨w, rfl, hfin⟩
