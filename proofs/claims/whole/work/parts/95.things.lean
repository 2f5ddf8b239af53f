/-! things -/
variable {D : DD} {m m' : MM} {e r : Nat} {u v : US} {n mo p : Nat} {c : Nat → Nat} {ok : Bool}
def th1 (n mo : Nat) (c : Nat → Nat) (q : Nat) : Nat × Bool := stp (sgO n mo c 97 8 q) (q, true)
def th2 (n mo : Nat) (c : Nat → Nat) (q : Nat) : Nat × Bool := stp (sgO n mo c 48 10 (th1 n mo c q).1) (th1 n mo c q)
def th3 (n mo : Nat) (c : Nat → Nat) (R C q : Nat) : Nat × Bool := fS2 n mo c R C (th2 n mo c q)
def thS (n mo : Nat) (c : Nat → Nat) (R C q : Nat) : Nat × Bool := stp (amO n mo c 1 (th3 n mo c R C q).1) (th3 n mo c R C q)
def thK (n mo : Nat) (c : Nat → Nat) (q : Nat) : Nat := sgV (sgO n mo c 97 8 q) true
def thD (n mo : Nat) (c : Nat → Nat) (q : Nat) : Nat := sgV (sgO n mo c 48 10 (th1 n mo c q).1) (th1 n mo c q).2
def thF (n mo : Nat) (c : Nat → Nat) (R C q : Nat) : Nat := fVl n mo c R C (th2 n mo c q)
def thH (n mo : Nat) (c : Nat → Nat) (R C q : Nat) : Nat := hdV (amO n mo c 1 (th3 n mo c R C q).1) (th3 n mo c R C q).2
theorem am5_lt {x : Nat} (h : amO n mo c 1 p = some x) : x < 5 := by
  unfold amO at h
  by_cases q : p < min n mo
  · rw [if_pos q] at h; exact (fs_lt h).1
  · rw [if_neg q] at h; cases h
theorem th_f {R C q : Nat} (h : (th3 n mo c R C q).2 = true) : (th2 n mo c q).2 = true := by
  obtain ⟨a1, _⟩ := sg_y h
  exact (sg_y a1).1
theorem th_lt {R C q : Nat} (h : (thS n mo c R C q).2 = true) : thK n mo c q < 8 ∧ thD n mo c q < 10 ∧ thF n mo c R C q < R * C ∧ thH n mo c R C q < 5 := by
  obtain ⟨a1, x, ex, ex2, _⟩ := sg_y h
  obtain ⟨a3, y, ey, ey2, _⟩ := sg_y (th_f a1)
  obtain ⟨_, z, ez, ez2, _⟩ := sg_y a3
  obtain ⟨_, b1, b2, b3⟩ := sg_hp ey
  obtain ⟨_, d1, d2, d3⟩ := sg_hp ez
  refine ⟨?_, ?_, f_lt a1, ?_⟩
  · have : thK n mo c q = z := ez2
    omega
  · have : thD n mo c q = y := ey2
    omega
  · unfold thH hdV
    rw [a1, if_pos rfl, ex]; exact am5_lt ex
def ThI (n mo : Nat) (c : Nat → Nat) (R C b : Nat) (f g h k : Nat → Int32) (i : Nat) : Prop := ∀ j, j < i → f (b + j) = nI (thK n mo c (stN (thS n mo c R C) j)) ∧ g (b + j) = nI (thD n mo c (stN (thS n mo c R C) j)) ∧ h (b + j) = nI (thF n mo c R C (stN (thS n mo c R C) j)) ∧ k (b + j) = nI (thH n mo c R C (stN (thS n mo c R C) j))
theorem things_c (ht : Tok n mo c) {R C b : Nat} (h0 : Rc n mo c 0 true u) (hR : gI u 3 0 = nI R) (hC : gI u 3 1 = nI C) (hb : gI u 3 2 = nI b) (hR6 : R ≤ 6) (hC6 : C ≤ 6) (hb4 : b ≤ 8) : ∃ w, fX8_readThings 4 u = some (anV n (runL (thS n mo c R C) (fun q => htB n mo c q 59) (8 - b) 0).2.1 (runL (thS n mo c R C) (fun q => htB n mo c q 59) (8 - b) 0).2.2 (nI (runL (thS n mo c R C) (fun q => htB n mo c q 59) (8 - b) 0).1), w) ∧ (((runL (thS n mo c R C) (fun q => htB n mo c q 59) (8 - b) 0).2.2 && decide ((runL (thS n mo c R C) (fun q => htB n mo c q 59) (8 - b) 0).2.1 = n)) = true → gI w 3 2 = nI (b + (runL (thS n mo c R C) (fun q => htB n mo c q 59) (8 - b) 0).1) ∧ ThI n mo c R C b (w.2.1 16) (w.2.1 17) (w.2.1 22) (w.2.1 23) (runL (thS n mo c R C) (fun q => htB n mo c q 59) (8 - b) 0).1) ∧ (((runL (thS n mo c R C) (fun q => htB n mo c q 59) (8 - b) 0).2.2 && decide ((runL (thS n mo c R C) (fun q => htB n mo c q 59) (8 - b) 0).2.1 = n)) = false → gI w 3 2 = nI b) ∧ (∀ j, j < b → w.2.1 16 j = u.2.1 16 j ∧ w.2.1 17 j = u.2.1 17 j ∧ w.2.1 22 j = u.2.1 22 j ∧ w.2.1 23 j = u.2.1 23 j) ∧ Fm [(2, 2), (2, 3), (3, 2)] [16, 17, 22, 23] [] u w := by
  have key := lines_c (lpf := thS n mo c R C) (n := n) (mo := mo) (c := c) (fun f x y w => fX8_readThings_8 4 f x y w) (fun x y w => fX8_readThings_78 4 x y w) 8 b (by omega) hb4 (fun i w => ThI n mo c R C b (w.2.1 16) (w.2.1 17) (w.2.1 22) (w.2.1 23) i) (fun w => Fm [(2, 2), (2, 3)] [16, 17, 22, 23] [] u w ∧ ∀ j, j < b → w.2.1 16 j = u.2.1 16 j ∧ w.2.1 17 j = u.2.1 17 j ∧ w.2.1 22 j = u.2.1 22 j ∧ w.2.1 23 j = u.2.1 23 j) (fun f x w => by rw [fX8_readThings_8, if_pos rfl]) (fun f w => by rw [fX8_readThings_8, if_neg (by decide), if_pos (show (8 : Int32) ≤ nI 8 by decide)]) (fun f i w hi hr hx hg => by
    obtain ⟨hf, hlo⟩ := hg
    have i4 := inb_nI (show b + i < 8 by omega) (show 8 < 2 ^ 31 by decide)
    obtain ⟨q, hq⟩ : ∃ q, q = stN (thS n mo c R C) i := ⟨_, rfl⟩
    rw [← hq] at hr ⊢
    obtain ⟨v1, e1, r1, f1⟩ := sign_c' ht hr (lo := 97) (k := 8) (by decide) (by decide)
    obtain ⟨y1, hy1⟩ : ∃ y, y = sA v1 16 (nI (b + i)) (nI (thK n mo c q)) := ⟨_, rfl⟩
    have r1' : Rc n mo c (th1 n mo c q).1 (th1 n mo c q).2 y1 := by rw [hy1]; exact r1.fm (a := []) (b := [16]) (d := []) (Fm.rf.sA rfl) rfl rfl
    have g1 : Fm [(2, 2), (2, 3)] [16, 17, 22, 23] [] w y1 := by rw [hy1]; exact (f1.mono rfl rfl rfl).sA rfl
    obtain ⟨v2, e2, r2, f2⟩ := dig_c ht (s := th1 n mo c q) r1' (k := 10) (by decide)
    obtain ⟨y2, hy2⟩ : ∃ y, y = sA v2 17 (nI (b + i)) (nI (thD n mo c q)) := ⟨_, rfl⟩
    have r2' : Rc n mo c (th2 n mo c q).1 (th2 n mo c q).2 y2 := by rw [hy2]; exact r2.fm (a := []) (b := [17]) (d := []) (Fm.rf.sA rfl) rfl rfl
    have g2 : Fm [(2, 2), (2, 3)] [16, 17, 22, 23] [] w y2 := by rw [hy2]; exact (g1.trans (f2.mono rfl rfl rfl)).sA rfl
    obtain ⟨v3, e3, r3, f3⟩ := field_c ht (s := th2 n mo c q) r2' ((g2.i 3 0 rfl).trans ((hf.i 3 0 rfl).trans hR)) ((g2.i 3 1 rfl).trans ((hf.i 3 1 rfl).trans hC)) hR6 hC6
    obtain ⟨y3, hy3⟩ : ∃ y, y = sA v3 22 (nI (b + i)) (nI (thF n mo c R C q)) := ⟨_, rfl⟩
    have r3' : Rc n mo c (th3 n mo c R C q).1 (th3 n mo c R C q).2 y3 := by rw [hy3]; exact r3.fm (a := []) (b := [22]) (d := []) (Fm.rf.sA rfl) rfl rfl
    obtain ⟨v4, e4, r4, f4⟩ := head_c ht r3'
    obtain ⟨y4, hy4⟩ : ∃ y, y = sA v4 23 (nI (b + i)) (nI (thH n mo c R C q)) := ⟨_, rfl⟩
    have r4' : Rc n mo c (thS n mo c R C q).1 (thS n mo c R C q).2 y4 := by rw [hy4]; exact r4.fm (a := []) (b := [23]) (d := []) (Fm.rf.sA rfl) rfl rfl
    obtain ⟨v5, e5, r5, f5⟩ := more_c ht r4'
    have a16 : v5.2.1 16 = upd (w.2.1 16) (b + i) (nI (thK n mo c q)) := by
      rw [f5.a 16 rfl, hy4]
      show v4.2.1 16 = _
      rw [f4.a 16 rfl, hy3]
      show v3.2.1 16 = _
      rw [f3.a 16 rfl, hy2]
      show v2.2.1 16 = _
      rw [f2.a 16 rfl, hy1]
      show upd (v1.2.1 16) (nI (b + i)).toNatClampNeg _ = _
      rw [nI_clamp (by omega), f1.a 16 rfl]
    have a17 : v5.2.1 17 = upd (w.2.1 17) (b + i) (nI (thD n mo c q)) := by
      rw [f5.a 17 rfl, hy4]
      show v4.2.1 17 = _
      rw [f4.a 17 rfl, hy3]
      show v3.2.1 17 = _
      rw [f3.a 17 rfl, hy2]
      show upd (v2.2.1 17) (nI (b + i)).toNatClampNeg _ = _
      rw [nI_clamp (by omega), f2.a 17 rfl, hy1]
      show upd (v1.2.1 17) _ _ = _
      rw [f1.a 17 rfl]
    have a22 : v5.2.1 22 = upd (w.2.1 22) (b + i) (nI (thF n mo c R C q)) := by
      rw [f5.a 22 rfl, hy4]
      show v4.2.1 22 = _
      rw [f4.a 22 rfl, hy3]
      show upd (v3.2.1 22) (nI (b + i)).toNatClampNeg _ = _
      rw [nI_clamp (by omega), f3.a 22 rfl, hy2]
      show upd (v2.2.1 22) _ _ = _
      rw [f2.a 22 rfl, hy1]
      show upd (v1.2.1 22) _ _ = _
      rw [f1.a 22 rfl]
    have a23 : v5.2.1 23 = upd (w.2.1 23) (b + i) (nI (thH n mo c R C q)) := by
      rw [f5.a 23 rfl, hy4]
      show upd (v4.2.1 23) (nI (b + i)).toNatClampNeg _ = _
      rw [nI_clamp (by omega), f4.a 23 rfl, hy3]
      show upd (v3.2.1 23) _ _ = _
      rw [f3.a 23 rfl, hy2]
      show upd (v2.2.1 23) _ _ = _
      rw [f2.a 23 rfl, hy1]
      show upd (v1.2.1 23) _ _ = _
      rw [f1.a 23 rfl]
    have g5 : Fm [(2, 2), (2, 3)] [16, 17, 22, 23] [] w v5 := by
      refine Fm.trans ?_ (f5.mono rfl rfl rfl)
      rw [hy4]
      refine Fm.sA (Fm.trans ?_ (f4.mono rfl rfl rfl)) rfl
      rw [hy3]
      exact (g2.trans (f3.mono rfl rfl rfl)).sA rfl
    refine ⟨v5, ?_, r5, fun hk => fun j hj => ?_, ⟨hf.trans g5, fun j hj => ?_⟩⟩
    · rw [fX8_readThings_8, if_neg (by decide), if_neg (show ¬ (8 : Int32) ≤ nI (b + i) from nI_ge (b := 8) (by omega) (by omega)), show fX5_signFrom 97 8 w = fX5_signFrom (nI 97) (nI 8) w from rfl, e1, oBs, gd_t i4, nxs, show sgV (sgO n mo c 97 8 q) true = thK n mo c q from rfl, ← hy1, show (10 : Int32) = nI 10 from rfl, e2, oBs, gd_t i4, nxs, show sgV (sgO n mo c 48 10 (th1 n mo c q).1) (th1 n mo c q).2 = thD n mo c q from rfl, ← hy2, e3, oBs, show fpt 4 0 = 22 from rfl, show ln 22 = 8 from rfl, gd_t i4, nxs, show fVl n mo c R C (th2 n mo c q) = thF n mo c R C q from rfl, ← hy3, e4, oBs, show fpt 4 1 = 23 from rfl, show ln 23 = 8 from rfl, gd_t i4, nxs, show hdV (amO n mo c 1 (th3 n mo c R C q).1) (th3 n mo c R C q).2 = thH n mo c R C q from rfl, ← hy4, e5, oBs, nI_1]
    · rw [a16, a17, a22, a23]
      by_cases ej : j = i
      · subst ej; rw [pk_us, pk_us, pk_us, pk_us, ← hq]; exact ⟨rfl, rfl, rfl, rfl⟩
      · rw [pk_un (by omega), pk_un (by omega), pk_un (by omega), pk_un (by omega)]; exact hx j (by omega)
    · rw [a16, a17, a22, a23, upd_lo hj, upd_lo hj, upd_lo hj, upd_lo hj]; exact hlo j hj) h0 (fun j hj => absurd hj (Nat.not_lt_zero j)) ⟨Fm.rf, fun j hj => ⟨rfl, rfl, rfl, rfl⟩⟩
  obtain ⟨last, more, w, e1, q, okq, rc, eq, han, hok, ⟨hf, hlo⟩, hl9⟩ := key
  generalize hRR : runL (thS n mo c R C) (fun q => htB n mo c q 59) (8 - b) 0 = RR at eq han hok
  obtain ⟨w1, d1, rd, fd⟩ := dem_c ht.1 rc (!more)
  obtain ⟨w2, a2, fa⟩ := answer_c ht.1 rd (nI last - nI b)
  have eb1 : gI w1 3 2 = nI b := (fd.i 3 2 rfl).trans ((hf.i 3 2 rfl).trans hb)
  have eb2 : gI w2 3 2 = nI b := (fa.i 3 2 rfl).trans eb1
  have e50 : fX8_readThings_78 4 (nI last) (bI more) w = some (anV n q (okq && !more) (nI last - nI b), sI w2 3 2 (nI b + (if (0 : Int32) < anV n q (okq && !more) (nI last - nI b) then anV n q (okq && !more) (nI last - nI b) else 0))) := by
    unfold fX8_readThings_78 fX8_readThings_89
    cases more with
    | false =>
      rw [if_pos (show bI false = 0 from rfl), show (1 : Int32) = bI (!false) from rfl, d1, oBs, eb1, a2, oBs, eb2, nxs]
    | true =>
      rw [if_neg (show ¬ bI true = 0 by decide), show fX5_demand 0 w = fX5_demand (bI (!true)) w from rfl, d1, oBs, eb1, a2, oBs, eb2, nxs]
  have hfull : Fm [(2, 2), (2, 3), (3, 2)] [16, 17, 22, 23] [] u w2 := ((hf.mono rfl rfl rfl).trans (fd.mono rfl rfl rfl)).trans (fa.mono rfl rfl rfl)
  have rows : w2.2.1 16 = w.2.1 16 ∧ w2.2.1 17 = w.2.1 17 ∧ w2.2.1 22 = w.2.1 22 ∧ w2.2.1 23 = w.2.1 23 := ⟨(fa.a 16 rfl).trans (fd.a 16 rfl), (fa.a 17 rfl).trans (fd.a 17 rfl), (fa.a 22 rfl).trans (fd.a 22 rfl), (fa.a 23 rfl).trans (fd.a 23 rfl)⟩
  have eread : fX8_readThings 4 u = some (anV n q (okq && !more) (nI last - nI b), sI w2 3 2 (nI b + (if (0 : Int32) < anV n q (okq && !more) (nI last - nI b) then anV n q (okq && !more) (nI last - nI b) else 0))) := by
    unfold fX8_readThings
    rw [gd_t (show isMom 4 = true from rfl), hb]
    exact e1.trans e50
  cases hs : (RR.2.2 && decide (RR.2.1 = n)) with
  | true =>
    rw [Bool.and_eq_true] at hs
    obtain ⟨l1, l2⟩ := hok hs.1
    have hRm : nI last - nI b = nI RR.1 := by rw [l1, pk_sub (by omega), Nat.add_sub_cancel_left]
    have hv : anV n q (okq && !more) (nI last - nI b) = nI RR.1 := by
      rw [han, hRm]; unfold anV; rw [hs.1, eq, hs.2]; rfl
    have hv2 : anV n RR.2.1 RR.2.2 (nI RR.1) = nI RR.1 := by unfold anV; rw [hs.1, hs.2]; rfl
    have hadd : nI b + (if (0 : Int32) < nI RR.1 then nI RR.1 else 0) = nI (b + RR.1) := by
      by_cases hz : RR.1 = 0
      · rw [hz]; exact ad0 b
      · rw [if_pos (show (0 : Int32) < nI RR.1 from nI_lt (a := 0) (by omega) (by omega)), nI_add]
    refine ⟨sI w2 3 2 (nI (b + RR.1)), (by rw [eread, hv, hv2, hadd]), (fun _ => ⟨rfl, ?_⟩), (fun h => by cases h), (fun j hj => ?_), hfull.sI rfl⟩
    · show ThI n mo c R C b (w2.2.1 16) (w2.2.1 17) (w2.2.1 22) (w2.2.1 23) RR.1
      rw [rows.1, rows.2.1, rows.2.2.1, rows.2.2.2]; exact l2
    · show w2.2.1 16 j = _ ∧ w2.2.1 17 j = _ ∧ w2.2.1 22 j = _ ∧ w2.2.1 23 j = _
      rw [rows.1, rows.2.1, rows.2.2.1, rows.2.2.2]; exact hlo j hj
  | false =>
    have hv : anV n q (okq && !more) (nI last - nI b) = -1 - nI q := by
      rw [han]; unfold anV; rw [eq, hs]; rfl
    have hv2 : anV n RR.2.1 RR.2.2 (nI RR.1) = -1 - nI q := by unfold anV; rw [hs, eq]; rfl
    have hqle : q ≤ 80 := by have := rc.2.2.2; have := ht.1; omega
    have hneg : ¬ (0 : Int32) < -1 - nI q := n_lt.mpr (neg_le q hqle)
    refine ⟨sI w2 3 2 (nI b), (by rw [eread, hv, hv2, if_neg hneg, ad0]), (fun h => by cases h), (fun _ => rfl), (fun j hj => ?_), hfull.sI rfl⟩
    show w2.2.1 16 j = _ ∧ w2.2.1 17 j = _ ∧ w2.2.1 22 j = _ ∧ w2.2.1 23 j = _
    rw [rows.1, rows.2.1, rows.2.2.1, rows.2.2.2]; exact hlo j hj
