/-! panes -/
variable {D : DD} {m m' : MM} {e r : Nat} {u v : US} {n mo p : Nat} {c : Nat → Nat} {ok : Bool}
def paT (n mo : Nat) (c : Nat → Nat) (q : Nat) : Nat × Bool := stp (sgO n mo c 48 10 q) (q, true)
def paS (n mo : Nat) (c : Nat → Nat) (q : Nat) : Nat × Bool := (if (paT n mo c q).2 then (klP n mo c (paT n mo c q).1 8).1 else (paT n mo c q).1, (paT n mo c q).2)
def paD (n mo : Nat) (c : Nat → Nat) (q : Nat) : Nat := sgV (sgO n mo c 48 10 q) true
def paL (n mo : Nat) (c : Nat → Nat) (q : Nat) : Nat := if (paT n mo c q).2 then (klP n mo c (paT n mo c q).1 8).2 else 0
theorem pa_lt {q : Nat} (h : (paS n mo c q).2 = true) : paD n mo c q < 10 ∧ paL n mo c q < 256 := by
  obtain ⟨a1, x, ex, ex2, _⟩ := sg_y (o := sgO n mo c 48 10 q) (s := (q, true)) h
  obtain ⟨_, b1, b2, b3⟩ := sg_hp ex
  refine ⟨?_, ?_⟩
  · have : paD n mo c q = x := ex2
    omega
  · unfold paL
    by_cases w : (paT n mo c q).2 = true
    · rw [if_pos w]; exact kl_lt 8
    · rw [if_neg w]; decide
def PaI (n mo : Nat) (c : Nat → Nat) (b : Nat) (f g h : Nat → Int32) (i : Nat) : Prop := ∀ j, j < i → f (b + j) = nI (paD n mo c (stN (paS n mo c) j)) ∧ g (b + j) = nI (paL n mo c (stN (paS n mo c) j)) ∧ h (b + j) = -1
theorem panes_c (ht : Tok n mo c) {b : Nat} (h0 : Rc n mo c 0 true u) (hb : gI u 3 3 = nI b) (hb4 : b ≤ 8) : ∃ w, fX8_readPanes 4 u = some (anV n (runL (paS n mo c) (fun q => htB n mo c q 59) (8 - b) 0).2.1 (runL (paS n mo c) (fun q => htB n mo c q 59) (8 - b) 0).2.2 (nI (runL (paS n mo c) (fun q => htB n mo c q 59) (8 - b) 0).1), w) ∧ (((runL (paS n mo c) (fun q => htB n mo c q 59) (8 - b) 0).2.2 && decide ((runL (paS n mo c) (fun q => htB n mo c q 59) (8 - b) 0).2.1 = n)) = true → gI w 3 3 = nI (b + (runL (paS n mo c) (fun q => htB n mo c q 59) (8 - b) 0).1) ∧ PaI n mo c b (w.2.1 18) (w.2.1 19) (w.2.1 24) (runL (paS n mo c) (fun q => htB n mo c q 59) (8 - b) 0).1) ∧ (((runL (paS n mo c) (fun q => htB n mo c q 59) (8 - b) 0).2.2 && decide ((runL (paS n mo c) (fun q => htB n mo c q 59) (8 - b) 0).2.1 = n)) = false → gI w 3 3 = nI b) ∧ (∀ j, j < b → w.2.1 18 j = u.2.1 18 j ∧ w.2.1 19 j = u.2.1 19 j ∧ w.2.1 24 j = u.2.1 24 j) ∧ Fm [(2, 2), (2, 3), (3, 3)] [18, 19, 24] [] u w := by
  have key := lines_c (lpf := paS n mo c) (n := n) (mo := mo) (c := c) (fun f x y w => fX8_readPanes_8 4 f x y w) (fun x y w => fX8_readPanes_60 4 x y w) 8 b (by omega) hb4 (fun i w => PaI n mo c b (w.2.1 18) (w.2.1 19) (w.2.1 24) i) (fun w => Fm [(2, 2), (2, 3)] [18, 19, 24] [] u w ∧ ∀ j, j < b → w.2.1 18 j = u.2.1 18 j ∧ w.2.1 19 j = u.2.1 19 j ∧ w.2.1 24 j = u.2.1 24 j) (fun f x w => by rw [fX8_readPanes_8, if_pos rfl]) (fun f w => by rw [fX8_readPanes_8, if_neg (by decide), if_pos (show (8 : Int32) ≤ nI 8 by decide)]) (fun f i w hi hr hx hg => by
    obtain ⟨hf, hlo⟩ := hg
    have i4 := inb_nI (show b + i < 8 by omega) (show 8 < 2 ^ 31 by decide)
    obtain ⟨v1, e1, r1, f1⟩ := dig_c ht (s := (stN (paS n mo c) i, true)) hr (k := 10) (by decide)
    have r1' : Rc n mo c (paT n mo c (stN (paS n mo c) i)).1 (paT n mo c (stN (paS n mo c) i)).2 (sA v1 18 (nI (b + i)) (nI (paD n mo c (stN (paS n mo c) i)))) := r1.fm (a := []) (b := [18]) (d := []) (Fm.rf.sA rfl) rfl rfl
    obtain ⟨v2, e2, r2, f2⟩ := kinds_c ht r1'
    have r2' : Rc n mo c (paS n mo c (stN (paS n mo c) i)).1 (paS n mo c (stN (paS n mo c) i)).2 (sA (sA v2 19 (nI (b + i)) (nI (paL n mo c (stN (paS n mo c) i)))) 24 (nI (b + i)) (-1)) := r2.fm (a := []) (b := [19, 24]) (d := []) ((Fm.rf.sA rfl).sA rfl) rfl rfl
    obtain ⟨v3, e3, r3, f3⟩ := more_c ht r2'
    have e20 : v3.2.1 18 = upd (w.2.1 18) (b + i) (nI (paD n mo c (stN (paS n mo c) i))) := by
      rw [f3.a 18 rfl]
      show v2.2.1 18 = _
      rw [f2.a 18 rfl]
      show upd (v1.2.1 18) (nI (b + i)).toNatClampNeg _ = _
      rw [nI_clamp (by omega), f1.a 18 rfl]
    have e21 : v3.2.1 19 = upd (w.2.1 19) (b + i) (nI (paL n mo c (stN (paS n mo c) i))) := by
      rw [f3.a 19 rfl]
      show upd (v2.2.1 19) (nI (b + i)).toNatClampNeg _ = _
      rw [nI_clamp (by omega), f2.a 19 rfl]
      show upd (v1.2.1 19) _ _ = _
      rw [f1.a 19 rfl]
    have e24 : v3.2.1 24 = upd (w.2.1 24) (b + i) (-1) := by
      rw [f3.a 24 rfl]
      show upd (v2.2.1 24) (nI (b + i)).toNatClampNeg _ = _
      rw [nI_clamp (by omega), f2.a 24 rfl]
      show upd (v1.2.1 24) _ _ = _
      rw [f1.a 24 rfl]
    refine ⟨v3, ?_, r3, fun hk => fun j hj => ?_, ⟨?_, fun j hj => ?_⟩⟩
    · rw [fX8_readPanes_8, if_neg (by decide), if_neg (show ¬ (8 : Int32) ≤ nI (b + i) from nI_ge (b := 8) (by omega) (by omega)), show (10 : Int32) = nI 10 from rfl, e1, oBs, gd_t i4, nxs, show sgV (sgO n mo c 48 10 (stN (paS n mo c) i, true).1) (stN (paS n mo c) i, true).2 = paD n mo c (stN (paS n mo c) i) from rfl, e2, oBs, gd_t i4, nxs, show fpt 4 2 = 24 from rfl, show ln 24 = 8 from rfl, gd_t i4, nxs, show (if (paT n mo c (stN (paS n mo c) i)).2 = true then (klP n mo c (paT n mo c (stN (paS n mo c) i)).1 8).2 else 0) = paL n mo c (stN (paS n mo c) i) from rfl, e3, oBs, nI_1]
    · rw [e20, e21, e24]
      by_cases ej : j = i
      · subst ej; rw [pk_us, pk_us, pk_us]; exact ⟨rfl, rfl, rfl⟩
      · rw [pk_un (by omega), pk_un (by omega), pk_un (by omega)]; exact hx j (by omega)
    · exact ((((((hf.trans (f1.mono rfl rfl rfl)).sA rfl).trans (f2.mono rfl rfl rfl)).sA rfl).sA rfl).trans (f3.mono rfl rfl rfl))
    · rw [e20, e21, e24, upd_lo hj, upd_lo hj, upd_lo hj]; exact hlo j hj) h0 (fun j hj => absurd hj (Nat.not_lt_zero j)) ⟨Fm.rf, fun j hj => ⟨rfl, rfl, rfl⟩⟩
  obtain ⟨last, more, w, e1, q, okq, rc, eq, han, hok, ⟨hf, hlo⟩, hl9⟩ := key
  generalize hRR : runL (paS n mo c) (fun q => htB n mo c q 59) (8 - b) 0 = RR at eq han hok
  obtain ⟨w1, d1, rd, fd⟩ := dem_c ht.1 rc (!more)
  obtain ⟨w2, a2, fa⟩ := answer_c ht.1 rd (nI last - nI b)
  have eb1 : gI w1 3 3 = nI b := (fd.i 3 3 rfl).trans ((hf.i 3 3 rfl).trans hb)
  have eb2 : gI w2 3 3 = nI b := (fa.i 3 3 rfl).trans eb1
  have e50 : fX8_readPanes_60 4 (nI last) (bI more) w = some (anV n q (okq && !more) (nI last - nI b), sI w2 3 3 (nI b + (if (0 : Int32) < anV n q (okq && !more) (nI last - nI b) then anV n q (okq && !more) (nI last - nI b) else 0))) := by
    unfold fX8_readPanes_60 fX8_readPanes_71
    cases more with
    | false =>
      rw [if_pos (show bI false = 0 from rfl), show (1 : Int32) = bI (!false) from rfl, d1, oBs, eb1, a2, oBs, eb2, nxs]
    | true =>
      rw [if_neg (show ¬ bI true = 0 by decide), show fX5_demand 0 w = fX5_demand (bI (!true)) w from rfl, d1, oBs, eb1, a2, oBs, eb2, nxs]
  have hfull : Fm [(2, 2), (2, 3), (3, 3)] [18, 19, 24] [] u w2 := ((hf.mono rfl rfl rfl).trans (fd.mono rfl rfl rfl)).trans (fa.mono rfl rfl rfl)
  have rows : w2.2.1 18 = w.2.1 18 ∧ w2.2.1 19 = w.2.1 19 ∧ w2.2.1 24 = w.2.1 24 := ⟨(fa.a 18 rfl).trans (fd.a 18 rfl), (fa.a 19 rfl).trans (fd.a 19 rfl), (fa.a 24 rfl).trans (fd.a 24 rfl)⟩
  have eread : fX8_readPanes 4 u = some (anV n q (okq && !more) (nI last - nI b), sI w2 3 3 (nI b + (if (0 : Int32) < anV n q (okq && !more) (nI last - nI b) then anV n q (okq && !more) (nI last - nI b) else 0))) := by
    unfold fX8_readPanes
    rw [gd_t (show isMom 4 = true from rfl), hb]
    exact e1.trans e50
  cases hs : (RR.2.2 && decide (RR.2.1 = n)) with
  | true =>
    rw [Bool.and_eq_true] at hs
    obtain ⟨l1, l2⟩ := hok hs.1
    have hRm : nI last - nI b = nI RR.1 := by rw [l1, pk_sub (by omega), Nat.add_sub_cancel_left]
    have hv : anV n q (okq && !more) (nI last - nI b) = nI RR.1 := by
      rw [han, hRm]; unfold anV; rw [hs.1, eq, hs.2]; rfl
    have hv2 : anV n RR.2.1 RR.2.2 (nI RR.1) = nI RR.1 := by unfold anV; rw [hs.1, hs.2]; rfl
    have hadd : nI b + (if (0 : Int32) < nI RR.1 then nI RR.1 else 0) = nI (b + RR.1) := by
      by_cases hz : RR.1 = 0
      · rw [hz]; exact ad0 b
      · rw [if_pos (show (0 : Int32) < nI RR.1 from nI_lt (a := 0) (by omega) (by omega)), nI_add]
    refine ⟨sI w2 3 3 (nI (b + RR.1)), (by rw [eread, hv, hv2, hadd]), (fun _ => ⟨rfl, ?_⟩), (fun h => by cases h), (fun j hj => ?_), hfull.sI rfl⟩
    · show PaI n mo c b (w2.2.1 18) (w2.2.1 19) (w2.2.1 24) RR.1
      rw [rows.1, rows.2.1, rows.2.2]; exact l2
    · show w2.2.1 18 j = _ ∧ w2.2.1 19 j = _ ∧ w2.2.1 24 j = _
      rw [rows.1, rows.2.1, rows.2.2]; exact hlo j hj
  | false =>
    have hv : anV n q (okq && !more) (nI last - nI b) = -1 - nI q := by
      rw [han]; unfold anV; rw [eq, hs]; rfl
    have hv2 : anV n RR.2.1 RR.2.2 (nI RR.1) = -1 - nI q := by unfold anV; rw [hs, eq]; rfl
    have hqle : q ≤ 80 := by have := rc.2.2.2; have := ht.1; omega
    have hneg : ¬ (0 : Int32) < -1 - nI q := n_lt.mpr (neg_le q hqle)
    refine ⟨sI w2 3 3 (nI b), (by rw [eread, hv, hv2, if_neg hneg, ad0]), (fun h => by cases h), (fun _ => rfl), (fun j hj => ?_), hfull.sI rfl⟩
    show w2.2.1 18 j = _ ∧ w2.2.1 19 j = _ ∧ w2.2.1 24 j = _
    rw [rows.1, rows.2.1, rows.2.2]; exact hlo j hj
/-! panes: the model, and both sides -/
def PaM (n mo : Nat) (c : Nat → Nat) (f : Nat → Int32) (i : Nat) : Prop := ∀ j, j < i → f (2 * j) = nI (paD n mo c (stN (paS n mo c) j)) ∧ f (2 * j + 1) = nI (paL n mo c (stN (paS n mo c) j))
theorem pane58 {i : Nat} (hi : i < 8) {o : Option Nat} (ho : ∀ x, o = some x → x < 10) {x : Int32} {w : US} (hw : w.2.1 58 (2 * i) = hV o) : fX12_readsPane_58 (nI (2 * i)) (nI (2 * i + 1)) x w = some (bI o.isSome, sI (sA w 58 (nI (2 * i + 1)) x) 47 23 (gI w 47 23 + 1)) := by
  unfold fX12_readsPane_58
  have i1 := inb_nI (show 2 * i + 1 < 32 by omega) (show 32 < 2 ^ 31 by decide)
  have i0 := inb_nI (show 2 * i < 32 by omega) (show 32 < 2 ^ 31 by decide)
  rw [gd_t i1, nxs, nxs, gd_t i0]
  have eg : gA (sI (sA w 58 (nI (2 * i + 1)) x) 47 23 (gI (sA w 58 (nI (2 * i + 1)) x) 47 23 + 1)) 58 (nI (2 * i)) = hV o := by
    show upd (w.2.1 58) (nI (2 * i + 1)).toNatClampNeg x (nI (2 * i)).toNatClampNeg = hV o
    rw [nI_clamp (by omega), nI_clamp (by omega), pk_un (by omega)]; exact hw
  rw [eg]
  cases o with
  | none => rw [if_pos hV_neg]; rfl
  | some y => rw [if_neg (show ¬ hV (some y) < 0 from nI_pos (n := y) (by have := ho y rfl; omega))]; rfl
theorem pane_m (ht : Tok n mo c) {b i q : Nat} {w : US} (h : Rm n mo c q w) (hb : gI w 47 6 = nI b) (h23 : gI w 47 23 = nI i) (hbi : b + i < 8) : ∃ v, fX12_readsLine 1 w = some (bI (paS n mo c q).2, v) ∧ Rm n mo c (paS n mo c q).1 v ∧ gI v 47 23 = nI (i + 1) ∧ (∀ j, j < 2 * i → v.2.1 58 j = w.2.1 58 j) ∧ ((paS n mo c q).2 = true → v.2.1 58 (2 * i) = nI (paD n mo c q) ∧ v.2.1 58 (2 * i + 1) = nI (paL n mo c q)) ∧ Fm [(47, 19), (47, 23)] [58] [] w v := by
  obtain ⟨v1, e1, m1, f1⟩ := num1_m ht h
  have i0 := inb_nI (show 2 * i < 32 by omega) (show 32 < 2 ^ 31 by decide)
  have e2i : (2 : Int32) * nI i = nI (2 * i) := pk_mul 2 i
  have hne : ¬ nI b + nI i = 8 := by rw [nI_add]; exact fun x => (by have := congrArg Int32.toInt x; rw [nI_toInt (by omega)] at this; have h4 : (8 : Int32).toInt = 8 := rfl; omega)
  unfold fX12_readsLine
  rw [if_neg (by decide), if_pos rfl]
  unfold fX12_readsPane
  rw [hb, h23, if_neg hne, e1, oBs, e2i, gd_t i0, nxs, gd_t i0, nI_1]
  have eg : (sA v1 58 (nI (2 * i)) (hV (sgO n mo c 48 10 q))).2.1 58 (2 * i) = hV (sgO n mo c 48 10 q) := by
    show upd (v1.2.1 58) (nI (2 * i)).toNatClampNeg _ (2 * i) = _
    rw [nI_clamp (by omega), pk_us]
  have eg2 : gA (sA v1 58 (nI (2 * i)) (hV (sgO n mo c 48 10 q))) 58 (nI (2 * i)) = hV (sgO n mo c 48 10 q) := by
    show (sA v1 58 (nI (2 * i)) (hV (sgO n mo c 48 10 q))).2.1 58 (nI (2 * i)).toNatClampNeg = _
    rw [nI_clamp (by omega)]; exact eg
  rw [eg2]
  have hox : ∀ x, sgO n mo c 48 10 q = some x → x < 10 := fun x hx => by obtain ⟨_, b1, b2, b3⟩ := sg_hp hx; omega
  have m1' : Rm n mo c (paT n mo c q).1 (sA v1 58 (nI (2 * i)) (hV (sgO n mo c 48 10 q))) := by
    rw [show (paT n mo c q).1 = adv (sgO n mo c 48 10 q) q from adv_stp.symm]
    exact m1.fm (a := []) (b := [58]) (d := []) (Fm.rf.sA rfl) rfl rfl
  have ek : (paT n mo c q).2 = (sgO n mo c 48 10 q).isSome := by
    unfold paT
    show sgK _ true = _
    unfold sgK; rw [Bool.true_and]
  have es2 : (paS n mo c q).2 = (sgO n mo c 48 10 q).isSome := ek
  have ed : (sgO n mo c 48 10 q).isSome = true → hV (sgO n mo c 48 10 q) = nI (paD n mo c q) := fun hx => by
    unfold paD
    cases ho : sgO n mo c 48 10 q with
    | none => rw [ho] at hx; cases hx
    | some y => rfl
  have f0 : Fm [(47, 19), (47, 23)] [58] [] w (sA v1 58 (nI (2 * i)) (hV (sgO n mo c 48 10 q))) := (f1.mono rfl rfl rfl).sA rfl
  have lo0 : ∀ j, j < 2 * i → (sA v1 58 (nI (2 * i)) (hV (sgO n mo c 48 10 q))).2.1 58 j = w.2.1 58 j := fun j hj => by
    show upd (v1.2.1 58) (nI (2 * i)).toNatClampNeg _ j = _
    rw [nI_clamp (by omega), pk_un (by omega), f1.a 58 rfl]
  obtain ⟨y, hy⟩ : ∃ y, y = sA v1 58 (nI (2 * i)) (hV (sgO n mo c 48 10 q)) := ⟨_, rfl⟩
  rw [← hy] at m1' f0 lo0 eg ⊢
  cases hk : (sgO n mo c 48 10 q).isSome with
  | false =>
    have hk2 : sgO n mo c 48 10 q = none := by cases ho : sgO n mo c 48 10 q with
      | none => rfl
      | some y => rw [ho] at hk; cases hk
    rw [hk2] at eg
    rw [hk2, if_neg (show ¬ 0 ≤ hV none by decide), pane58 (i := i) (by omega) (fun x hx => by cases hx) eg, oBs, gd_t (isB_bI _)]
    rw [hk] at ek es2
    refine ⟨_, by rw [es2]; rfl, ?_, ?_, fun j hj => ?_, (fun x => by rw [es2] at x; cases x), (f0.sA rfl).sI rfl⟩
    · unfold paS
      rw [ek, if_neg (by decide)]
      exact m1'.fm (a := [(47, 23)]) (b := [58]) (d := []) ((Fm.rf.sA rfl).sI rfl) rfl rfl
    · show gI y 47 23 + 1 = _
      rw [show gI y 47 23 = nI i by rw [hy]; exact (f1.i 47 23 rfl).trans h23, nI_1]
    · show upd (y.2.1 58) (nI (2 * i + 1)).toNatClampNeg _ j = _
      rw [nI_clamp (by omega), pk_un (by omega)]; exact lo0 j hj
  | true =>
    obtain ⟨v2, e2, m2, f2⟩ := letters_m ht m1'
    have hp : 0 ≤ hV (sgO n mo c 48 10 q) := by
      rw [ed hk]
      exact nI_pos' (by
        have : paD n mo c q < 10 := (pa_lt (by rw [es2]; exact hk)).1
        omega)
    rw [if_pos hp, e2, oBs, pane58 (i := i) (x := nI (klP n mo c (paT n mo c q).1 8).2) (by omega) hox (by rw [f2.a 58 rfl]; exact eg), oBs, gd_t (isB_bI _)]
    rw [hk] at ek es2
    have el : paL n mo c q = (klP n mo c (paT n mo c q).1 8).2 := by unfold paL; rw [ek, if_pos rfl]
    refine ⟨_, by rw [es2, hk], ?_, ?_, fun j hj => ?_, (fun x => ⟨?_, ?_⟩), ((f0.trans (f2.mono rfl rfl rfl)).sA rfl).sI rfl⟩
    · unfold paS
      rw [ek, if_pos rfl]
      exact m2.fm (a := [(47, 23)]) (b := [58]) (d := []) ((Fm.rf.sA rfl).sI rfl) rfl rfl
    · show gI v2 47 23 + 1 = _
      rw [show gI v2 47 23 = nI i by rw [show gI v2 47 23 = _ from f2.i 47 23 rfl, hy]; exact (f1.i 47 23 rfl).trans h23, nI_1]
    · show upd (v2.2.1 58) (nI (2 * i + 1)).toNatClampNeg _ j = _
      rw [nI_clamp (by omega), pk_un (by omega), f2.a 58 rfl]; exact lo0 j hj
    · show upd (v2.2.1 58) (nI (2 * i + 1)).toNatClampNeg _ (2 * i) = _
      rw [nI_clamp (by omega), pk_un (by omega), f2.a 58 rfl, eg, ed hk]
    · show upd (v2.2.1 58) (nI (2 * i + 1)).toNatClampNeg _ (2 * i + 1) = _
      rw [nI_clamp (by omega), pk_us, el]
theorem nm_same {a k : Nat} (ha : a < 2 ^ k) (hk : k < 31) : nm a (2 ^ k) = a := by
  have h31 : 2 ^ k ≤ 2 ^ 31 := Nat.pow_le_pow_right (by decide) (by omega)
  apply Nat.eq_of_testBit_eq
  intro i
  rw [nm_tb (by omega), Nat.testBit_two_pow]
  by_cases q : k = i
  · subst q; rw [tb_hi ha (Nat.le_refl _)]; rfl
  · rw [decide_eq_false q]; simp
theorem panes21 {b K bb : Nat} (hb : b + K ≤ 8) (h7 : gI u 47 6 = nI b) (h23 : gI u 47 23 = nI K) (hK : 0 < K) (hbb : bb < 2 ^ b) (h24 : u.2.1 55 24 = nI bb) : ∃ w, fX12_panes_21 FU 0 u = some (nI K, sI (sI w 47 30 0) 47 8 (gI w 47 8 + 1)) ∧ gI w 47 6 = nI (b + K) ∧ (∀ j, j < b → w.2.1 51 j = u.2.1 51 j ∧ w.2.1 52 j = u.2.1 52 j) ∧ (∀ j, j < K → w.2.1 51 (b + j) = u.2.1 58 (2 * j) ∧ w.2.1 52 (b + j) = u.2.1 58 (2 * j + 1) ∧ w.2.1 55 (16 + (b + j)) = -1) ∧ (∀ j, (j < 16 + b ∨ 24 ≤ j) → w.2.1 55 j = u.2.1 55 j) ∧ Fm [(47, 6)] [51, 52, 55] [] u w := by
  refine lpE (fun f (z : Int32) w => fX12_panes_21 f z w) K (fun i => nI i) (fun i w => gI w 47 6 = nI (b + i) ∧ (∀ j, j < b → w.2.1 51 j = u.2.1 51 j ∧ w.2.1 52 j = u.2.1 52 j) ∧ (∀ j, j < i → w.2.1 51 (b + j) = u.2.1 58 (2 * j) ∧ w.2.1 52 (b + j) = u.2.1 58 (2 * j + 1) ∧ w.2.1 55 (16 + (b + j)) = -1) ∧ (∀ j, (j < 16 + b ∨ 24 ≤ j) → w.2.1 55 j = u.2.1 55 j) ∧ Fm [(47, 6)] [51, 52, 55] [] u w) (fun o => ∃ w, o = some (nI K, sI (sI w 47 30 0) 47 8 (gI w 47 8 + 1)) ∧ gI w 47 6 = nI (b + K) ∧ (∀ j, j < b → w.2.1 51 j = u.2.1 51 j ∧ w.2.1 52 j = u.2.1 52 j) ∧ (∀ j, j < K → w.2.1 51 (b + j) = u.2.1 58 (2 * j) ∧ w.2.1 52 (b + j) = u.2.1 58 (2 * j + 1) ∧ w.2.1 55 (16 + (b + j)) = -1) ∧ (∀ j, (j < 16 + b ∨ 24 ≤ j) → w.2.1 55 j = u.2.1 55 j) ∧ Fm [(47, 6)] [51, 52, 55] [] u w) ?_ ?_ (by omega) 0 rfl ⟨h7, fun j hj => ⟨rfl, rfl⟩, fun j hj => absurd hj (Nat.not_lt_zero j), fun _ _ => rfl, Fm.rf⟩
  · rintro f i w hi ⟨p7, plo, phi, p55, pf⟩
    left
    have i0 := inb_nI (show 2 * i < 32 by omega) (show 32 < 2 ^ 31 by decide)
    have i1 := inb_nI (show 2 * i + 1 < 32 by omega) (show 32 < 2 ^ 31 by decide)
    have i4 := inb_nI (show b + i < 8 by omega) (show 8 < 2 ^ 31 by decide)
    have i5 := inb_nI (show 16 + (b + i) < 26 by omega) (show 26 < 2 ^ 31 by decide)
    have e58 : ∀ x, gA w 58 x = gA u 58 x := fun x => congrFun (pf.a 58 rfl) _
    obtain ⟨w3, hw3⟩ : ∃ w3, w3 = sA (sA (sA w 51 (nI (b + i)) (gA w 58 (nI (2 * i)))) 52 (nI (b + i)) (gA (sA w 51 (nI (b + i)) (gA w 58 (nI (2 * i)))) 58 (nI (2 * i + 1)))) 55 (nI (16 + (b + i))) (-1) := ⟨_, rfl⟩
    have g24 : gA w3 55 24 = nI bb := by
      rw [hw3]
      show upd (w.2.1 55) (nI (16 + (b + i))).toNatClampNeg (-1) 24 = _
      rw [nI_clamp (by omega), pk_un (by omega), p55 24 (Or.inr (Nat.le_refl _)), h24]
    have w36 : gI w3 47 6 = nI (b + i) := by rw [hw3]; exact p7
    have hsm : nI bb &&& (((1 : Int32) <<< (nI (b + i) &&& 31)) ^^^ (-1)) = nI bb := by
      rw [sh1 _ (by omega), and_n, nm_same (Nat.lt_of_lt_of_le hbb (Nat.pow_le_pow_right (by decide) (by omega))) (by omega)]
    have est : fX12_panes_21 (f + 1) (nI i) w = fX12_panes_21 f (nI (i + 1)) (sI (sA w3 55 24 (nI bb)) 47 6 (nI (b + i) + 1)) := by
      rw [fX12_panes_21, show gI w 47 23 = nI K from (pf.i 47 23 rfl).trans h23, if_neg (nI_ge hi (by omega)), show (2 : Int32) * nI i = nI (2 * i) from pk_mul 2 i, gd_t i0, p7, gd_t i4, nxs, nI_1, gd_t i1, show gI (sA w 51 (nI (b + i)) (gA w 58 (nI (2 * i)))) 47 6 = nI (b + i) from p7, gd_t i4, nxs, show gI (sA (sA w 51 (nI (b + i)) (gA w 58 (nI (2 * i)))) 52 (nI (b + i)) (gA (sA w 51 (nI (b + i)) (gA w 58 (nI (2 * i)))) 58 (nI (2 * i + 1)))) 47 6 = nI (b + i) from p7, show (16 : Int32) + nI (b + i) = nI (16 + (b + i)) from nI_add 16 (b + i), gd_t i5, nxs, ← hw3, gd_t (show inb 24 26 = true from rfl), g24, w36, hsm, gd_t (show inb 24 26 = true from rfl), nxs, nxs, nI_1, show gI (sA w3 55 24 (nI bb)) 47 6 = nI (b + i) from w36]
    have r51 : (sI (sA w3 55 24 (nI bb)) 47 6 (nI (b + i) + 1)).2.1 51 = upd (w.2.1 51) (b + i) (u.2.1 58 (2 * i)) := by
      rw [hw3]
      show upd (w.2.1 51) (nI (b + i)).toNatClampNeg (gA w 58 (nI (2 * i))) = _
      rw [nI_clamp (by omega), e58]
      show upd _ _ (u.2.1 58 (nI (2 * i)).toNatClampNeg) = _
      rw [nI_clamp (by omega)]
    have r52 : (sI (sA w3 55 24 (nI bb)) 47 6 (nI (b + i) + 1)).2.1 52 = upd (w.2.1 52) (b + i) (u.2.1 58 (2 * i + 1)) := by
      rw [hw3]
      show upd (w.2.1 52) (nI (b + i)).toNatClampNeg (gA w 58 (nI (2 * i + 1))) = _
      rw [nI_clamp (by omega), e58]
      show upd _ _ (u.2.1 58 (nI (2 * i + 1)).toNatClampNeg) = _
      rw [nI_clamp (by omega)]
    have r55 : (sI (sA w3 55 24 (nI bb)) 47 6 (nI (b + i) + 1)).2.1 55 = upd (upd (w.2.1 55) (16 + (b + i)) (-1)) 24 (nI bb) := by
      rw [hw3]
      show upd (upd (w.2.1 55) (nI (16 + (b + i))).toNatClampNeg (-1)) 24 (nI bb) = _
      rw [nI_clamp (by omega)]
    refine ⟨_, ⟨?_, fun j hj => ?_, fun j hj => ?_, fun j hj => ?_, ?_⟩, est⟩
    · show nI (b + i) + 1 = _
      rw [nI_1]; rfl
    · rw [r51, r52, pk_un (by omega), pk_un (by omega)]; exact plo j hj
    · rw [r51, r52, r55, pk_un (show 16 + (b + j) ≠ 24 by omega)]
      by_cases q : j = i
      · subst q; rw [pk_us, pk_us, pk_us]; exact ⟨rfl, rfl, rfl⟩
      · rw [pk_un (by omega), pk_un (by omega), pk_un (by omega)]; exact phi j (by omega)
    · rw [r55]
      by_cases q : j = 24
      · subst q; rw [pk_us, h24]
      · rw [pk_un q, pk_un (by omega)]; exact p55 j hj
    · rw [hw3]; exact ((((pf.sA rfl).sA rfl).sA rfl).sA rfl).sI rfl
  · rintro f w ⟨p7, plo, phi, p55, pf⟩
    have p23 : gI w 47 23 = nI K := (pf.i 47 23 rfl).trans h23
    rw [fX12_panes_21, p23, if_pos (nI_le (Nat.le_refl _) (by omega)), isNew_1 p23 hK (by omega), oBs]
    exact ⟨w, rfl, p7, plo, phi, p55, pf⟩
def paRun (n : Nat) (c : Nat → Nat) (b : Nat) : Nat × Nat × Bool := runL (paS n 79 c) (fun q => htB n 79 c q 59) (8 - b) 0
theorem cM24 {fd hd hm : Nat → Int32} {br hr : Int32} {p : Nat} (hp : p < 8) : cMom fd hd hm br hr (16 + p) = hm p := by
  unfold cMom; rw [if_neg (by omega), if_neg (by omega), if_pos (by omega), show 16 + p - 16 = p by omega]
theorem cM23 {fd hd hm : Nat → Int32} {br hr : Int32} {p : Nat} (hp : p < 8) : cMom fd hd hm br hr (8 + p) = hd p := by
  unfold cMom; rw [if_neg (by omega), if_pos (by omega), show 8 + p - 8 = p by omega]
theorem cM22 {fd hd hm : Nat → Int32} {br hr : Int32} {p : Nat} (hp : p < 8) : cMom fd hd hm br hr p = fd p := by
  unfold cMom; rw [if_pos (by omega)]
theorem TwM_p {R C nt np nr K : Nat} (h : TwM R C nt np nr u) (hnt : nt ≤ 8) (hnp : np + K ≤ 8) (e22 : v.2.1 22 = u.2.1 22) (e23 : v.2.1 23 = u.2.1 23) (e43 : v.1 4 3 = u.1 4 3) (e44 : v.1 4 4 = u.1 4 4) (elo : ∀ j, j < np → v.2.1 24 j = u.2.1 24 j) (ehi : ∀ j, j < K → v.2.1 24 (np + j) = -1) (mlo : ∀ j, (j < 16 + np ∨ 24 ≤ j) → v.2.1 55 j = u.2.1 55 j) (mhi : ∀ j, j < K → v.2.1 55 (16 + (np + j)) = -1) : TwM R C nt (np + K) nr v := by
  obtain ⟨⟨q1, q2, q3, b, q4, q5⟩, p1, p2, p3, p4⟩ := h
  unfold TwM
  rw [e22, e23, e43, e44]
  refine ⟨⟨fun t ht => ?_, fun t ht => ?_, fun p hp => ?_, b, Nat.lt_of_lt_of_le q4 (Nat.pow_le_pow_right (by decide) (by omega)), q5⟩, fun t ht => ?_, fun p hp => ?_, ?_, ?_⟩
  · have := q1 t ht
    rw [cM22 (by omega)] at this ⊢; exact this
  · have := q2 t ht
    rw [cM23 (by omega)] at this ⊢; exact this
  · rw [cM24 (by omega)]
    by_cases q : p < np
    · have := q3 p q
      rw [cM24 (by omega)] at this
      rw [elo p q]; exact this
    · obtain ⟨i, rfl⟩ : ∃ i, p = np + i := ⟨p - np, (by omega)⟩
      exact Or.inl (ehi i (by omega))
  · have := p1 t ht
    rw [cM22 (by omega), cM23 (by omega)] at this ⊢
    rw [mlo t (by omega), mlo (8 + t) (by omega)]; exact this
  · rw [cM24 (by omega)]
    by_cases q : p < np
    · have := p2 p q
      rw [cM24 (by omega)] at this
      rw [elo p q, mlo (16 + p) (by omega)]; exact this
    · obtain ⟨i, rfl⟩ : ∃ i, p = np + i := ⟨p - np, (by omega)⟩
      rw [ehi i (by omega), mhi i (by omega)]
  · rw [mlo 24 (by omega)]; exact p3
  · rw [mlo 25 (by omega)]; exact p4
theorem st_4 : St_4 Inv := by
  intro k u hk hI
  obtain ⟨n, c, hn, hc, hxc, hxm⟩ := tx_of hI
  have ht : Tok n 79 c := ⟨hn, by decide, hc⟩
  have hI' := hI
  obtain ⟨R, C, nt, np, nr, hD⟩ := hI'
  obtain ⟨⟨hR1, hR6, hC1, hC6, hnt, hnp, hnr⟩, ⟨d1, d2, d3, d4, d5, d6, d7, d8, d9, d10⟩, htx, hrow, hmom, hrest⟩ := id hD
  by_cases h0 : n = 0
  · subst h0
    have ec : fX11_panes u = some (0, u) := by
      unfold fX11_panes fX7_isEmpty
      rw [show gI u 1 1 = 0 from hxc.1, if_pos rfl, oBs, if_neg (by decide)]
    obtain ⟨v, e1, z23, z18, f1⟩ := readsL_0 (u := sI u 47 0 0) (what := 1) ht hxm
    have em : fX12_panes u = some (0, v) := by
      unfold fX12_panes
      rw [nxs, show (79 : Int32) = nI 79 from rfl, e1, oBs, if_pos (show (0 : Int32) ≤ 0 by decide), show FU = 4095 + 1 from rfl, fX12_panes_21, z23, if_pos (show (0 : Int32) ≤ 0 by decide), isNew_0 z23, oBs, sI_same (u := v) rfl, sI_same (u := v) (Int32.add_zero _)]
    refine ⟨0, u, v, ec, em, Inv_gone hI ((((Fm.rf.sI rfl : Fg u (sI u 47 0 0))).trans (f1.mono rfl rfl rfl))) ((f1.i 1 1 rfl).trans hxc.1) z18⟩
  · have hn0 : 0 < n := Nat.pos_of_ne_zero h0
    obtain ⟨u2, e2, r2, f2⟩ := open_c (mo := 79) hxc
    obtain ⟨w3, e3, hy, hno, hlo, f3⟩ := panes_c (b := np) ht r2 ((f2.i 3 3 rfl).trans d7) hnp
    have ecl : fX11_panes u = fX11_arrived (anV n (paRun n c np).2.1 (paRun n c np).2.2 (nI (paRun n c np).1)) w3 := by
      unfold fX11_panes fX7_isEmpty
      rw [show gI u 1 1 = nI n from hxc.1, if_neg (show ¬ nI n = 0 from fun q => by have := congrArg Int32.toInt q; rw [nI_toInt (by omega)] at this; have h4 : (0 : Int32).toInt = 0 := rfl; omega), oBs, if_pos rfl, show (79 : Int32) = nI 79 from rfl, e2, oVs, e3, oBs]
      unfold paRun fX11_arrived
      rw [show fX7_clear w3 = some (sI w3 1 1 0) from rfl, oVs]
      by_cases q : anV n (runL (paS n 79 c) (fun q => htB n 79 c q 59) (8 - np) 0).2.1 (runL (paS n 79 c) (fun q => htB n 79 c q 59) (8 - np) 0).2.2 (nI (runL (paS n 79 c) (fun q => htB n 79 c q 59) (8 - np) 0).1) ≤ 0
      · rw [if_pos q]; rfl
      · rw [if_neg q]; rfl
    have fuw : Fm ((2, 1) :: (2, 2) :: (2, 3) :: (3, 3) :: []) [18, 19, 24] [] u w3 := (f2.mono rfl rfl rfl).trans (f3.mono rfl rfl rfl)
    have hlo' : ∀ j, j < np → w3.2.1 18 j = u.2.1 18 j ∧ w3.2.1 19 j = u.2.1 19 j ∧ w3.2.1 24 j = u.2.1 24 j := fun j hj => by
      have := hlo j hj
      rw [f2.a 18 rfl, f2.a 19 rfl, f2.a 24 rfl] at this
      exact this
    -- the model reads
    have rd : ∀ w4 : US, Fm ((1, 1) :: (7, 2) :: (7, 3) :: (2, 1) :: (2, 2) :: (2, 3) :: (3, 3) :: []) [18, 19, 24] [] u w4 → ∃ w5, fX12_readsLines 1 79 (sI w4 47 0 0) = some (anV n (paRun n c np).2.1 (paRun n c np).2.2 0, w5) ∧ FinM n 79 c (paRun n c np) (fun i w => PaM n 79 c (w.2.1 58) i) (fun w => Fm [(47, 0), (47, 18), (47, 19), (47, 20), (47, 21), (47, 23)] [58] [] w4 w ∧ gI w 47 18 = 0) w5 := by
      intro w4 f4
      have hx4 : (sI w4 47 0 0).1 47 18 = nI n ∧ RowN n ((sI w4 47 0 0).2.1 57) c := ⟨(f4.i 47 18 rfl).trans hxm.1, by rw [show (sI w4 47 0 0).2.1 57 = w4.2.1 57 from rfl, f4.a 57 rfl]; exact hxm.2⟩
      refine readsL_m (lpf := paS n 79 c) ht (what := 1) (8 - np) (by omega) hn0 hx4 _ _ (fun hg hf => ⟨hg.1.trans (hf.mono rfl rfl rfl), (hf.i 47 18 rfl).trans hg.2⟩) (fun hi hf => by rw [hf.a 58 rfl]; exact hi) ?_ ?_ (fun v hf h18 => ⟨(Fm.rf.sI rfl : Fm [(47, 0), (47, 18), (47, 19), (47, 20), (47, 21), (47, 23)] [58] [] w4 (sI w4 47 0 0)).trans (hf.mono rfl rfl rfl), h18⟩) (fun v j hj => absurd hj (Nat.not_lt_zero j))
      · rintro w h23 ⟨hg, _⟩
        unfold fX12_readsLine
        rw [if_neg (by decide), if_pos rfl]
        unfold fX12_readsPane
        rw [show gI w 47 6 = nI np from (hg.i 47 6 rfl).trans ((f4.i 47 6 rfl).trans d8), h23, if_pos (show nI np + nI (8 - np) = 8 by rw [nI_add, show np + (8 - np) = 8 by omega]; rfl), oBs, gd_t (show isB 0 = true by decide)]
      · rintro i w hi h23 hr hx ⟨hg, h18⟩
        obtain ⟨v, e5, r5, t5, lo5, hi5, f5⟩ := pane_m ht (b := np) (i := i) hr ((hg.i 47 6 rfl).trans ((f4.i 47 6 rfl).trans d8)) h23 (by omega)
        refine ⟨v, e5, r5, t5, fun hk j hj => ?_, hg.trans (f5.mono rfl rfl rfl), (f5.i 47 18 rfl).trans h18⟩
        by_cases q : j = i
        · subst q; exact hi5 hk
        · rw [lo5 (2 * j) (by omega), lo5 (2 * j + 1) (by omega)]; exact hx j (by omega)
    obtain ⟨t1, t2, t3, t4, t5, t6⟩ := hrow
    cases hs : ((paRun n c np).2.2 && decide ((paRun n c np).2.1 = n)) with
    | true =>
      have hs' := hs
      rw [Bool.and_eq_true] at hs'
      obtain ⟨K1, K2, K3⟩ := run_ok (lpf := paS n 79 c) (semi := fun q => htB n 79 c q 59) (cap := 8 - np) 0 hs'.1
      obtain ⟨y1, y2⟩ := hy hs
      have av : ∀ x, anV n (paRun n c np).2.1 (paRun n c np).2.2 x = x := fun x => by unfold anV; rw [hs]; rfl
      have hK1 : 1 ≤ (paRun n c np).1 := K1
      have hK2 : (paRun n c np).1 ≤ 8 - np := K2
      have ec : fX11_panes u = some (nI (paRun n c np).1, sI (sI (sI w3 1 1 0) 7 3 0) 7 2 0) := by
        rw [ecl, av]
        unfold fX11_arrived fX4_forgetAll
        rw [show fX7_clear w3 = some (sI w3 1 1 0) from rfl, oVs, if_neg (nI_nle hK1 (by omega)), nxs, nxs, oVs]
      have f4 : Fm ((1, 1) :: (7, 2) :: (7, 3) :: (2, 1) :: (2, 2) :: (2, 3) :: (3, 3) :: []) [18, 19, 24] [] u (sI (sI (sI w3 1 1 0) 7 3 0) 7 2 0) := (((fuw.mono rfl rfl rfl).sI rfl).sI rfl).sI rfl
      obtain ⟨w4, hw4⟩ : ∃ w4, w4 = sI (sI (sI w3 1 1 0) 7 3 0) 7 2 0 := ⟨_, rfl⟩
      rw [← hw4] at ec f4
      obtain ⟨w5, e5, m5, x5, g5, g18⟩ := rd w4 f4
      obtain ⟨x23, x58⟩ := x5 hs'.1
      obtain ⟨bb, hbb, ebb⟩ := hmom.1.2.2.2
      obtain ⟨w6, e6, n7, l6, h6, h55, f6⟩ := panes21 (b := np) (K := (paRun n c np).1) (by omega) ((g5.i 47 6 rfl).trans ((f4.i 47 6 rfl).trans d8)) x23 hK1 hbb (by rw [g5.a 55 rfl, f4.a 55 rfl, ← hmom.2.2.2.1]; exact ebb)
      have em : fX12_panes w4 = some (nI (paRun n c np).1, sI (sI w6 47 30 0) 47 8 (gI w6 47 8 + 1)) := by
        unfold fX12_panes
        rw [nxs, e5, oBs, av, if_pos (show (0 : Int32) ≤ 0 by decide), e6]
      refine ⟨_, w4, _, ec, em, ?_⟩
      have f46 : Fm [(47, 0), (47, 6), (47, 18), (47, 19), (47, 20), (47, 21), (47, 23)] [51, 52, 55, 58] [] w4 w6 := (g5.mono rfl rfl rfl).trans (f6.mono rfl rfl rfl)
      have fz : Fm [(1, 1), (7, 2), (7, 3), (2, 1), (2, 2), (2, 3), (3, 3), (47, 0), (47, 6), (47, 8), (47, 18), (47, 19), (47, 20), (47, 21), (47, 23), (47, 30)] [18, 19, 24, 51, 52, 55, 58] [] u (sI (sI w6 47 30 0) 47 8 (gI w6 47 8 + 1)) := (((f4.mono rfl rfl rfl).trans (f46.mono rfl rfl rfl)).sI rfl).sI rfl
      have z8 : w6.1 47 8 = u.1 47 8 := (f46.i 47 8 rfl).trans (f4.i 47 8 rfl)
      have e20 : w6.2.1 18 = w3.2.1 18 ∧ w6.2.1 19 = w3.2.1 19 ∧ w6.2.1 24 = w3.2.1 24 := by
        rw [f46.a 18 rfl, f46.a 19 rfl, f46.a 24 rfl, hw4]; exact ⟨rfl, rfl, rfl⟩
      have e53 : ∀ j, j < np → w6.2.1 51 j = u.2.1 51 j ∧ w6.2.1 52 j = u.2.1 52 j := fun j hj => by
        have := l6 j hj
        rw [g5.a 51 rfl, g5.a 52 rfl, f4.a 51 rfl, f4.a 52 rfl] at this
        exact this
      have e55 : ∀ j, (j < 16 + np ∨ 24 ≤ j) → w6.2.1 55 j = u.2.1 55 j := fun j hj => by
        have := h55 j hj
        rw [g5.a 55 rfl, f4.a 55 rfl] at this
        exact this
      have w40 : w4.1 1 1 = 0 ∧ w4.1 7 3 = 0 ∧ w4.1 7 2 = 0 ∧ w4.1 3 3 = nI (np + (paRun n c np).1) := by rw [hw4]; exact ⟨rfl, rfl, rfl, y1⟩
      have z20 : ∀ j, j < np + (paRun n c np).1 → (w6.2.1 18 j = w6.2.1 51 j ∧ ∃ a : Nat, a < 10 ∧ w6.2.1 18 j = nI a) ∧ (w6.2.1 19 j = w6.2.1 52 j ∧ ∃ a : Nat, a < 256 ∧ w6.2.1 19 j = nI a) := by
        intro j hj
        rw [e20.1, e20.2.1]
        by_cases q : j < np
        · obtain ⟨o1, o2, _⟩ := hlo' j q
          obtain ⟨o3, o4⟩ := e53 j q
          rw [o1, o2, o3, o4]
          exact ⟨t3 j q, t4 j q⟩
        · obtain ⟨i, rfl⟩ : ∃ i, j = np + i := ⟨j - np, (by omega)⟩
          have hi : i < (paRun n c np).1 := by omega
          obtain ⟨o1, o2, _⟩ := y2 i hi
          obtain ⟨o3, o4, _⟩ := h6 i hi
          obtain ⟨o5, o6⟩ := x58 i hi
          have o7 := K3 i hi
          rw [Nat.zero_add] at o7
          obtain ⟨b1, b2⟩ := pa_lt o7
          rw [o1, o2, o3, o4, o5, o6]
          exact ⟨⟨rfl, _, b1, rfl⟩, rfl, _, b2, rfl⟩
      refine Inv_new (nt' := nt) (np' := np + (paRun n c np).1) (nr' := nr) hD hk (fz.mono rfl rfl rfl) ((f46.i 1 1 rfl).trans w40.1) ((f6.i 47 18 rfl).trans g18) ((f46.i 7 3 rfl).trans w40.2.1) rfl ((f46.i 7 2 rfl).trans w40.2.2.1) ?_ ⟨hR1, hR6, hC1, hC6, hnt, (by omega), hnr⟩ ⟨(fz.i 3 2 rfl).trans d5, (fz.i 47 5 rfl).trans d6, (f46.i 3 3 rfl).trans w40.2.2.2, n7, (fz.i 3 4 rfl).trans d9, (fz.i 47 7 rfl).trans d10⟩ ⟨?_, ?_, fun j hj => (z20 j hj).1, fun j hj => (z20 j hj).2, ?_, ?_⟩ ?_
      · show gI w6 47 8 + 1 = u.1 47 8 + 1
        rw [show gI w6 47 8 = u.1 47 8 from z8]
      · rw [fz.a 16 rfl, fz.a 49 rfl]; exact t1
      · rw [fz.a 17 rfl, fz.a 50 rfl]; exact t2
      · rw [fz.a 20 rfl, fz.a 53 rfl]; exact t5
      · rw [fz.a 21 rfl, fz.a 54 rfl]; exact t6
      · refine TwM_p (K := (paRun n c np).1) hmom hnt (by omega) (fz.a 22 rfl) (fz.a 23 rfl) (fz.i 4 3 rfl) (fz.i 4 4 rfl) (fun j hj => ?_) (fun j hj => ?_) e55 (fun j hj => (h6 j hj).2.2)
        · show w6.2.1 24 j = _
          rw [e20.2.2]; exact (hlo' j hj).2.2
        · show w6.2.1 24 (np + j) = _
          rw [e20.2.2]; exact (y2 j hj).2.2
    | false =>
      have av : ∀ x, anV n (paRun n c np).2.1 (paRun n c np).2.2 x = -1 - nI (paRun n c np).2.1 := fun x => by unfold anV; rw [hs]; rfl
      have f4 : Fm ((1, 1) :: (7, 2) :: (7, 3) :: (2, 1) :: (2, 2) :: (2, 3) :: (3, 3) :: []) [18, 19, 24] [] u (sI w3 1 1 0) := (fuw.mono rfl rfl rfl).sI rfl
      obtain ⟨w5, e5, m5, x5, g5, g18⟩ := rd _ f4
      have hq : (paRun n c np).2.1 ≤ 80 := by have := m5.2.2; omega
      have ec : fX11_panes u = some (-1 - nI (paRun n c np).2.1, sI w3 1 1 0) := by
        rw [ecl, av]
        unfold fX11_arrived
        rw [show fX7_clear w3 = some (sI w3 1 1 0) from rfl, oVs, if_pos (neg_le _ hq)]
      have em : fX12_panes (sI w3 1 1 0) = some (-1 - nI (paRun n c np).2.1, w5) := by
        unfold fX12_panes
        rw [nxs, e5, oBs, av, if_neg (neg_nle _ hq)]
      refine ⟨_, _, w5, ec, em, ?_⟩
      have fz : Fm [(1, 1), (2, 1), (2, 2), (2, 3), (3, 3), (47, 0), (47, 18), (47, 19), (47, 20), (47, 21), (47, 23)] [18, 19, 24, 58] [] u w5 := ((fuw.mono rfl rfl rfl).sI rfl).trans (g5.mono rfl rfl rfl)
      refine Inv_keep hD (fz.mono rfl rfl rfl) ⟨0, (by omega), (g5.i 1 1 rfl).trans rfl, g18, fun j hj => absurd hj (Nat.not_lt_zero j)⟩ ⟨(fz.i 3 2 rfl).trans d5, (g5.i 3 3 rfl).trans (hno hs), (fz.i 3 4 rfl).trans d9⟩ ⟨?_, ?_, fun j hj => ?_, fun j hj => ?_, ?_, ?_⟩ ?_
      · rw [fz.a 16 rfl, fz.a 49 rfl]; exact t1
      · rw [fz.a 17 rfl, fz.a 50 rfl]; exact t2
      · rw [fz.a 51 rfl, g5.a 18 rfl, show (sI w3 1 1 0).2.1 18 = w3.2.1 18 from rfl, (hlo' j hj).1]; exact t3 j hj
      · rw [fz.a 52 rfl, g5.a 19 rfl, show (sI w3 1 1 0).2.1 19 = w3.2.1 19 from rfl, (hlo' j hj).2.1]; exact t4 j hj
      · rw [fz.a 20 rfl, fz.a 53 rfl]; exact t5
      · rw [fz.a 21 rfl, fz.a 54 rfl]; exact t6
      · refine TwM_p (K := 0) hmom hnt (by omega) (fz.a 22 rfl) (fz.a 23 rfl) (fz.i 4 3 rfl) (fz.i 4 4 rfl) (fun j hj => ?_) (fun j hj => absurd hj (Nat.not_lt_zero j)) (fun j _ => by rw [fz.a 55 rfl]) (fun j hj => absurd hj (Nat.not_lt_zero j))
        rw [g5.a 24 rfl]; exact (hlo' j hj).2.2
