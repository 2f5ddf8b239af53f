/-! panes -/
variable {D : DD} {m m' : MM} {e r : Nat} {u v : US} {n mo p : Nat} {c : Nat → Nat} {ok : Bool}
def paT (n mo : Nat) (c : Nat → Nat) (q : Nat) : Nat × Bool := stp (sgO n mo c 48 10 q) (q, true)
def paS (n mo : Nat) (c : Nat → Nat) (q : Nat) : Nat × Bool := (if (paT n mo c q).2 then (klP n mo c (paT n mo c q).1 8).1 else (paT n mo c q).1, (paT n mo c q).2)
def paD (n mo : Nat) (c : Nat → Nat) (q : Nat) : Nat := sgV (sgO n mo c 48 10 q) true
def paL (n mo : Nat) (c : Nat → Nat) (q : Nat) : Nat := if (paT n mo c q).2 then (klP n mo c (paT n mo c q).1 8).2 else 0
theorem pa_lt {q : Nat} (h : (paS n mo c q).2 = true) : paD n mo c q < 10 ∧ paL n mo c q < 256 := by
  obtain ⟨a1, x, ex, ex2, _⟩ := sg_y (o := sgO n mo c 48 10 q) (s := (q, true)) h
  obtain ⟨_, b1, b2, b3⟩ := sg_hp ex
  refine ⟨?_, ?_⟩
  · have : paD n mo c q = x := ex2
    omega
  · unfold paL
    by_cases w : (paT n mo c q).2 = true
    · rw [if_pos w]; exact kl_lt 8
    · rw [if_neg w]; decide
def PaI (n mo : Nat) (c : Nat → Nat) (b : Nat) (f g h : Nat → Int32) (i : Nat) : Prop := ∀ j, j < i → f (b + j) = nI (paD n mo c (stN (paS n mo c) j)) ∧ g (b + j) = nI (paL n mo c (stN (paS n mo c) j)) ∧ h (b + j) = -1
theorem panes_c (ht : Tok n mo c) {b : Nat} (h0 : Rc n mo c 0 true u) (hb : gI u 3 3 = nI b) (hb4 : b ≤ 8) : ∃ w, fX8_readPanes 4 u = some (anV n (runL (paS n mo c) (fun q => htB n mo c q 59) (8 - b) 0).2.1 (runL (paS n mo c) (fun q => htB n mo c q 59) (8 - b) 0).2.2 (nI (runL (paS n mo c) (fun q => htB n mo c q 59) (8 - b) 0).1), w) ∧ (((runL (paS n mo c) (fun q => htB n mo c q 59) (8 - b) 0).2.2 && decide ((runL (paS n mo c) (fun q => htB n mo c q 59) (8 - b) 0).2.1 = n)) = true → gI w 3 3 = nI (b + (runL (paS n mo c) (fun q => htB n mo c q 59) (8 - b) 0).1) ∧ PaI n mo c b (w.2.1 18) (w.2.1 19) (w.2.1 24) (runL (paS n mo c) (fun q => htB n mo c q 59) (8 - b) 0).1) ∧ (((runL (paS n mo c) (fun q => htB n mo c q 59) (8 - b) 0).2.2 && decide ((runL (paS n mo c) (fun q => htB n mo c q 59) (8 - b) 0).2.1 = n)) = false → gI w 3 3 = nI b) ∧ (∀ j, j < b → w.2.1 18 j = u.2.1 18 j ∧ w.2.1 19 j = u.2.1 19 j ∧ w.2.1 24 j = u.2.1 24 j) ∧ Fm [(2, 2), (2, 3), (3, 3)] [18, 19, 24] [] u w := by
  have key := lines_c (lpf := paS n mo c) (n := n) (mo := mo) (c := c) (fun f x y w => fX8_readPanes_8 4 f x y w) (fun x y w => fX8_readPanes_60 4 x y w) 8 b (by omega) hb4 (fun i w => PaI n mo c b (w.2.1 18) (w.2.1 19) (w.2.1 24) i) (fun w => Fm [(2, 2), (2, 3)] [18, 19, 24] [] u w ∧ ∀ j, j < b → w.2.1 18 j = u.2.1 18 j ∧ w.2.1 19 j = u.2.1 19 j ∧ w.2.1 24 j = u.2.1 24 j) (fun f x w => by rw [fX8_readPanes_8, if_pos rfl]) (fun f w => by rw [fX8_readPanes_8, if_neg (by decide), if_pos (show (8 : Int32) ≤ nI 8 by decide)]) (fun f i w hi hr hx hg => by
    obtain ⟨hf, hlo⟩ := hg
    have i4 := inb_nI (show b + i < 8 by omega) (show 8 < 2 ^ 31 by decide)
    obtain ⟨v1, e1, r1, f1⟩ := dig_c ht (s := (stN (paS n mo c) i, true)) hr (k := 10) (by decide)
    have r1' : Rc n mo c (paT n mo c (stN (paS n mo c) i)).1 (paT n mo c (stN (paS n mo c) i)).2 (sA v1 18 (nI (b + i)) (nI (paD n mo c (stN (paS n mo c) i)))) := r1.fm (a := []) (b := [18]) (d := []) (Fm.rf.sA rfl) rfl rfl
    obtain ⟨v2, e2, r2, f2⟩ := kinds_c ht r1'
    have r2' : Rc n mo c (paS n mo c (stN (paS n mo c) i)).1 (paS n mo c (stN (paS n mo c) i)).2 (sA (sA v2 19 (nI (b + i)) (nI (paL n mo c (stN (paS n mo c) i)))) 24 (nI (b + i)) (-1)) := r2.fm (a := []) (b := [19, 24]) (d := []) ((Fm.rf.sA rfl).sA rfl) rfl rfl
    obtain ⟨v3, e3, r3, f3⟩ := more_c ht r2'
    have e20 : v3.2.1 18 = upd (w.2.1 18) (b + i) (nI (paD n mo c (stN (paS n mo c) i))) := by
      rw [f3.a 18 rfl]
      show v2.2.1 18 = _
      rw [f2.a 18 rfl]
      show upd (v1.2.1 18) (nI (b + i)).toNatClampNeg _ = _
      rw [nI_clamp (by omega), f1.a 18 rfl]
    have e21 : v3.2.1 19 = upd (w.2.1 19) (b + i) (nI (paL n mo c (stN (paS n mo c) i))) := by
      rw [f3.a 19 rfl]
      show upd (v2.2.1 19) (nI (b + i)).toNatClampNeg _ = _
      rw [nI_clamp (by omega), f2.a 19 rfl]
      show upd (v1.2.1 19) _ _ = _
      rw [f1.a 19 rfl]
    have e24 : v3.2.1 24 = upd (w.2.1 24) (b + i) (-1) := by
      rw [f3.a 24 rfl]
      show upd (v2.2.1 24) (nI (b + i)).toNatClampNeg _ = _
      rw [nI_clamp (by omega), f2.a 24 rfl]
      show upd (v1.2.1 24) _ _ = _
      rw [f1.a 24 rfl]
    refine ⟨v3, ?_, r3, fun hk => fun j hj => ?_, ⟨?_, fun j hj => ?_⟩⟩
    · rw [fX8_readPanes_8, if_neg (by decide), if_neg (show ¬ (8 : Int32) ≤ nI (b + i) from nI_ge (b := 8) (by omega) (by omega)), show (10 : Int32) = nI 10 from rfl, e1, oBs, gd_t i4, nxs, show sgV (sgO n mo c 48 10 (stN (paS n mo c) i, true).1) (stN (paS n mo c) i, true).2 = paD n mo c (stN (paS n mo c) i) from rfl, e2, oBs, gd_t i4, nxs, show fpt 4 2 = 24 from rfl, show ln 24 = 8 from rfl, gd_t i4, nxs, show (if (paT n mo c (stN (paS n mo c) i)).2 = true then (klP n mo c (paT n mo c (stN (paS n mo c) i)).1 8).2 else 0) = paL n mo c (stN (paS n mo c) i) from rfl, e3, oBs, nI_1]
    · rw [e20, e21, e24]
      by_cases ej : j = i
      · subst ej; rw [pk_us, pk_us, pk_us]; exact ⟨rfl, rfl, rfl⟩
      · rw [pk_un (by omega), pk_un (by omega), pk_un (by omega)]; exact hx j (by omega)
    · exact ((((((hf.trans (f1.mono rfl rfl rfl)).sA rfl).trans (f2.mono rfl rfl rfl)).sA rfl).sA rfl).trans (f3.mono rfl rfl rfl))
    · rw [e20, e21, e24, upd_lo hj, upd_lo hj, upd_lo hj]; exact hlo j hj) h0 (fun j hj => absurd hj (Nat.not_lt_zero j)) ⟨Fm.rf, fun j hj => ⟨rfl, rfl, rfl⟩⟩
  obtain ⟨last, more, w, e1, q, okq, rc, eq, han, hok, ⟨hf, hlo⟩, hl9⟩ := key
  generalize hRR : runL (paS n mo c) (fun q => htB n mo c q 59) (8 - b) 0 = RR at eq han hok
  obtain ⟨w1, d1, rd, fd⟩ := dem_c ht.1 rc (!more)
  obtain ⟨w2, a2, fa⟩ := answer_c ht.1 rd (nI last - nI b)
  have eb1 : gI w1 3 3 = nI b := (fd.i 3 3 rfl).trans ((hf.i 3 3 rfl).trans hb)
  have eb2 : gI w2 3 3 = nI b := (fa.i 3 3 rfl).trans eb1
  have e50 : fX8_readPanes_60 4 (nI last) (bI more) w = some (anV n q (okq && !more) (nI last - nI b), sI w2 3 3 (nI b + (if (0 : Int32) < anV n q (okq && !more) (nI last - nI b) then anV n q (okq && !more) (nI last - nI b) else 0))) := by
    unfold fX8_readPanes_60 fX8_readPanes_71
    cases more with
    | false =>
      rw [if_pos (show bI false = 0 from rfl), show (1 : Int32) = bI (!false) from rfl, d1, oBs, eb1, a2, oBs, eb2, nxs]
    | true =>
      rw [if_neg (show ¬ bI true = 0 by decide), show fX5_demand 0 w = fX5_demand (bI (!true)) w from rfl, d1, oBs, eb1, a2, oBs, eb2, nxs]
  have hfull : Fm [(2, 2), (2, 3), (3, 3)] [18, 19, 24] [] u w2 := ((hf.mono rfl rfl rfl).trans (fd.mono rfl rfl rfl)).trans (fa.mono rfl rfl rfl)
  have rows : w2.2.1 18 = w.2.1 18 ∧ w2.2.1 19 = w.2.1 19 ∧ w2.2.1 24 = w.2.1 24 := ⟨(fa.a 18 rfl).trans (fd.a 18 rfl), (fa.a 19 rfl).trans (fd.a 19 rfl), (fa.a 24 rfl).trans (fd.a 24 rfl)⟩
  have eread : fX8_readPanes 4 u = some (anV n q (okq && !more) (nI last - nI b), sI w2 3 3 (nI b + (if (0 : Int32) < anV n q (okq && !more) (nI last - nI b) then anV n q (okq && !more) (nI last - nI b) else 0))) := by
    unfold fX8_readPanes
    rw [gd_t (show isMom 4 = true from rfl), hb]
    exact e1.trans e50
  cases hs : (RR.2.2 && decide (RR.2.1 = n)) with
  | true =>
    rw [Bool.and_eq_true] at hs
    obtain ⟨l1, l2⟩ := hok hs.1
    have hRm : nI last - nI b = nI RR.1 := by rw [l1, pk_sub (by omega), Nat.add_sub_cancel_left]
    have hv : anV n q (okq && !more) (nI last - nI b) = nI RR.1 := by
      rw [han, hRm]; unfold anV; rw [hs.1, eq, hs.2]; rfl
    have hv2 : anV n RR.2.1 RR.2.2 (nI RR.1) = nI RR.1 := by unfold anV; rw [hs.1, hs.2]; rfl
    have hadd : nI b + (if (0 : Int32) < nI RR.1 then nI RR.1 else 0) = nI (b + RR.1) := by
      by_cases hz : RR.1 = 0
      · rw [hz]; exact ad0 b
      · rw [if_pos (show (0 : Int32) < nI RR.1 from nI_lt (a := 0) (by omega) (by omega)), nI_add]
    refine ⟨sI w2 3 3 (nI (b + RR.1)), (by rw [eread, hv, hv2, hadd]), (fun _ => ⟨rfl, ?_⟩), (fun h => by cases h), (fun j hj => ?_), hfull.sI rfl⟩
    · show PaI n mo c b (w2.2.1 18) (w2.2.1 19) (w2.2.1 24) RR.1
      rw [rows.1, rows.2.1, rows.2.2]; exact l2
    · show w2.2.1 18 j = _ ∧ w2.2.1 19 j = _ ∧ w2.2.1 24 j = _
      rw [rows.1, rows.2.1, rows.2.2]; exact hlo j hj
  | false =>
    have hv : anV n q (okq && !more) (nI last - nI b) = -1 - nI q := by
      rw [han]; unfold anV; rw [eq, hs]; rfl
    have hv2 : anV n RR.2.1 RR.2.2 (nI RR.1) = -1 - nI q := by unfold anV; rw [hs, eq]; rfl
    have hqle : q ≤ 80 := by have := rc.2.2.2; have := ht.1; omega
    have hneg : ¬ (0 : Int32) < -1 - nI q := n_lt.mpr (neg_le q hqle)
    refine ⟨sI w2 3 3 (nI b), (by rw [eread, hv, hv2, if_neg hneg, ad0]), (fun h => by cases h), (fun _ => rfl), (fun j hj => ?_), hfull.sI rfl⟩
    show w2.2.1 18 j = _ ∧ w2.2.1 19 j = _ ∧ w2.2.1 24 j = _
    rw [rows.1, rows.2.1, rows.2.2]; exact hlo j hj
