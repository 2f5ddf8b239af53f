/-! things -/
variable {D : DD} {m m' : MM} {e r : Nat} {u v : US} {n mo p : Nat} {c : Nat → Nat} {ok : Bool}
def th1 (n mo : Nat) (c : Nat → Nat) (q : Nat) : Nat × Bool := stp (sgO n mo c 97 8 q) (q, true)
def th2 (n mo : Nat) (c : Nat → Nat) (q : Nat) : Nat × Bool := stp (sgO n mo c 48 10 (th1 n mo c q).1) (th1 n mo c q)
def th3 (n mo : Nat) (c : Nat → Nat) (R C q : Nat) : Nat × Bool := fS2 n mo c R C (th2 n mo c q)
def thS (n mo : Nat) (c : Nat → Nat) (R C q : Nat) : Nat × Bool := stp (amO n mo c 1 (th3 n mo c R C q).1) (th3 n mo c R C q)
def thK (n mo : Nat) (c : Nat → Nat) (q : Nat) : Nat := sgV (sgO n mo c 97 8 q) true
def thD (n mo : Nat) (c : Nat → Nat) (q : Nat) : Nat := sgV (sgO n mo c 48 10 (th1 n mo c q).1) (th1 n mo c q).2
def thF (n mo : Nat) (c : Nat → Nat) (R C q : Nat) : Nat := fVl n mo c R C (th2 n mo c q)
def thH (n mo : Nat) (c : Nat → Nat) (R C q : Nat) : Nat := hdV (amO n mo c 1 (th3 n mo c R C q).1) (th3 n mo c R C q).2
theorem am5_lt {x : Nat} (h : amO n mo c 1 p = some x) : x < 5 := by
  unfold amO at h
  by_cases q : p < min n mo
  · rw [if_pos q] at h; exact (fs_lt h).1
  · rw [if_neg q] at h; cases h
theorem th_f {R C q : Nat} (h : (th3 n mo c R C q).2 = true) : (th2 n mo c q).2 = true := by
  obtain ⟨a1, _⟩ := sg_y h
  exact (sg_y a1).1
theorem th_lt {R C q : Nat} (h : (thS n mo c R C q).2 = true) : thK n mo c q < 8 ∧ thD n mo c q < 10 ∧ thF n mo c R C q < R * C ∧ thH n mo c R C q < 5 := by
  obtain ⟨a1, x, ex, ex2, _⟩ := sg_y h
  obtain ⟨a3, y, ey, ey2, _⟩ := sg_y (th_f a1)
  obtain ⟨_, z, ez, ez2, _⟩ := sg_y a3
  obtain ⟨_, b1, b2, b3⟩ := sg_hp ey
  obtain ⟨_, d1, d2, d3⟩ := sg_hp ez
  refine ⟨?_, ?_, f_lt a1, ?_⟩
  · have : thK n mo c q = z := ez2
    omega
  · have : thD n mo c q = y := ey2
    omega
  · unfold thH hdV
    rw [a1, if_pos rfl, ex]; exact am5_lt ex
def ThI (n mo : Nat) (c : Nat → Nat) (R C b : Nat) (f g h k : Nat → Int32) (i : Nat) : Prop := ∀ j, j < i → f (b + j) = nI (thK n mo c (stN (thS n mo c R C) j)) ∧ g (b + j) = nI (thD n mo c (stN (thS n mo c R C) j)) ∧ h (b + j) = nI (thF n mo c R C (stN (thS n mo c R C) j)) ∧ k (b + j) = nI (thH n mo c R C (stN (thS n mo c R C) j))
theorem things_c (ht : Tok n mo c) {R C b : Nat} (h0 : Rc n mo c 0 true u) (hR : gI u 3 0 = nI R) (hC : gI u 3 1 = nI C) (hb : gI u 3 2 = nI b) (hR6 : R ≤ 6) (hC6 : C ≤ 6) (hb4 : b ≤ 8) : ∃ w, fX8_readThings 4 u = some (anV n (runL (thS n mo c R C) (fun q => htB n mo c q 59) (8 - b) 0).2.1 (runL (thS n mo c R C) (fun q => htB n mo c q 59) (8 - b) 0).2.2 (nI (runL (thS n mo c R C) (fun q => htB n mo c q 59) (8 - b) 0).1), w) ∧ (((runL (thS n mo c R C) (fun q => htB n mo c q 59) (8 - b) 0).2.2 && decide ((runL (thS n mo c R C) (fun q => htB n mo c q 59) (8 - b) 0).2.1 = n)) = true → gI w 3 2 = nI (b + (runL (thS n mo c R C) (fun q => htB n mo c q 59) (8 - b) 0).1) ∧ ThI n mo c R C b (w.2.1 16) (w.2.1 17) (w.2.1 22) (w.2.1 23) (runL (thS n mo c R C) (fun q => htB n mo c q 59) (8 - b) 0).1) ∧ (((runL (thS n mo c R C) (fun q => htB n mo c q 59) (8 - b) 0).2.2 && decide ((runL (thS n mo c R C) (fun q => htB n mo c q 59) (8 - b) 0).2.1 = n)) = false → gI w 3 2 = nI b) ∧ (∀ j, j < b → w.2.1 16 j = u.2.1 16 j ∧ w.2.1 17 j = u.2.1 17 j ∧ w.2.1 22 j = u.2.1 22 j ∧ w.2.1 23 j = u.2.1 23 j) ∧ Fm [(2, 2), (2, 3), (3, 2)] [16, 17, 22, 23] [] u w := by
  have key := lines_c (lpf := thS n mo c R C) (n := n) (mo := mo) (c := c) (fun f x y w => fX8_readThings_8 4 f x y w) (fun x y w => fX8_readThings_78 4 x y w) 8 b (by omega) hb4 (fun i w => ThI n mo c R C b (w.2.1 16) (w.2.1 17) (w.2.1 22) (w.2.1 23) i) (fun w => Fm [(2, 2), (2, 3)] [16, 17, 22, 23] [] u w ∧ ∀ j, j < b → w.2.1 16 j = u.2.1 16 j ∧ w.2.1 17 j = u.2.1 17 j ∧ w.2.1 22 j = u.2.1 22 j ∧ w.2.1 23 j = u.2.1 23 j) (fun f x w => by rw [fX8_readThings_8, if_pos rfl]) (fun f w => by rw [fX8_readThings_8, if_neg (by decide), if_pos (show (8 : Int32) ≤ nI 8 by decide)]) (fun f i w hi hr hx hg => by
    obtain ⟨hf, hlo⟩ := hg
    have i4 := inb_nI (show b + i < 8 by omega) (show 8 < 2 ^ 31 by decide)
    obtain ⟨q, hq⟩ : ∃ q, q = stN (thS n mo c R C) i := ⟨_, rfl⟩
    rw [← hq] at hr ⊢
    obtain ⟨v1, e1, r1, f1⟩ := sign_c' ht hr (lo := 97) (k := 8) (by decide) (by decide)
    obtain ⟨y1, hy1⟩ : ∃ y, y = sA v1 16 (nI (b + i)) (nI (thK n mo c q)) := ⟨_, rfl⟩
    have r1' : Rc n mo c (th1 n mo c q).1 (th1 n mo c q).2 y1 := by rw [hy1]; exact r1.fm (a := []) (b := [16]) (d := []) (Fm.rf.sA rfl) rfl rfl
    have g1 : Fm [(2, 2), (2, 3)] [16, 17, 22, 23] [] w y1 := by rw [hy1]; exact (f1.mono rfl rfl rfl).sA rfl
    obtain ⟨v2, e2, r2, f2⟩ := dig_c ht (s := th1 n mo c q) r1' (k := 10) (by decide)
    obtain ⟨y2, hy2⟩ : ∃ y, y = sA v2 17 (nI (b + i)) (nI (thD n mo c q)) := ⟨_, rfl⟩
    have r2' : Rc n mo c (th2 n mo c q).1 (th2 n mo c q).2 y2 := by rw [hy2]; exact r2.fm (a := []) (b := [17]) (d := []) (Fm.rf.sA rfl) rfl rfl
    have g2 : Fm [(2, 2), (2, 3)] [16, 17, 22, 23] [] w y2 := by rw [hy2]; exact (g1.trans (f2.mono rfl rfl rfl)).sA rfl
    obtain ⟨v3, e3, r3, f3⟩ := field_c ht (s := th2 n mo c q) r2' ((g2.i 3 0 rfl).trans ((hf.i 3 0 rfl).trans hR)) ((g2.i 3 1 rfl).trans ((hf.i 3 1 rfl).trans hC)) hR6 hC6
    obtain ⟨y3, hy3⟩ : ∃ y, y = sA v3 22 (nI (b + i)) (nI (thF n mo c R C q)) := ⟨_, rfl⟩
    have r3' : Rc n mo c (th3 n mo c R C q).1 (th3 n mo c R C q).2 y3 := by rw [hy3]; exact r3.fm (a := []) (b := [22]) (d := []) (Fm.rf.sA rfl) rfl rfl
    obtain ⟨v4, e4, r4, f4⟩ := head_c ht r3'
    obtain ⟨y4, hy4⟩ : ∃ y, y = sA v4 23 (nI (b + i)) (nI (thH n mo c R C q)) := ⟨_, rfl⟩
    have r4' : Rc n mo c (thS n mo c R C q).1 (thS n mo c R C q).2 y4 := by rw [hy4]; exact r4.fm (a := []) (b := [23]) (d := []) (Fm.rf.sA rfl) rfl rfl
    obtain ⟨v5, e5, r5, f5⟩ := more_c ht r4'
    have a16 : v5.2.1 16 = upd (w.2.1 16) (b + i) (nI (thK n mo c q)) := by
      rw [f5.a 16 rfl, hy4]
      show v4.2.1 16 = _
      rw [f4.a 16 rfl, hy3]
      show v3.2.1 16 = _
      rw [f3.a 16 rfl, hy2]
      show v2.2.1 16 = _
      rw [f2.a 16 rfl, hy1]
      show upd (v1.2.1 16) (nI (b + i)).toNatClampNeg _ = _
      rw [nI_clamp (by omega), f1.a 16 rfl]
    have a17 : v5.2.1 17 = upd (w.2.1 17) (b + i) (nI (thD n mo c q)) := by
      rw [f5.a 17 rfl, hy4]
      show v4.2.1 17 = _
      rw [f4.a 17 rfl, hy3]
      show v3.2.1 17 = _
      rw [f3.a 17 rfl, hy2]
      show upd (v2.2.1 17) (nI (b + i)).toNatClampNeg _ = _
      rw [nI_clamp (by omega), f2.a 17 rfl, hy1]
      show upd (v1.2.1 17) _ _ = _
      rw [f1.a 17 rfl]
    have a22 : v5.2.1 22 = upd (w.2.1 22) (b + i) (nI (thF n mo c R C q)) := by
      rw [f5.a 22 rfl, hy4]
      show v4.2.1 22 = _
      rw [f4.a 22 rfl, hy3]
      show upd (v3.2.1 22) (nI (b + i)).toNatClampNeg _ = _
      rw [nI_clamp (by omega), f3.a 22 rfl, hy2]
      show upd (v2.2.1 22) _ _ = _
      rw [f2.a 22 rfl, hy1]
      show upd (v1.2.1 22) _ _ = _
      rw [f1.a 22 rfl]
    have a23 : v5.2.1 23 = upd (w.2.1 23) (b + i) (nI (thH n mo c R C q)) := by
      rw [f5.a 23 rfl, hy4]
      show upd (v4.2.1 23) (nI (b + i)).toNatClampNeg _ = _
      rw [nI_clamp (by omega), f4.a 23 rfl, hy3]
      show upd (v3.2.1 23) _ _ = _
      rw [f3.a 23 rfl, hy2]
      show upd (v2.2.1 23) _ _ = _
      rw [f2.a 23 rfl, hy1]
      show upd (v1.2.1 23) _ _ = _
      rw [f1.a 23 rfl]
    have g5 : Fm [(2, 2), (2, 3)] [16, 17, 22, 23] [] w v5 := by
      refine Fm.trans ?_ (f5.mono rfl rfl rfl)
      rw [hy4]
      refine Fm.sA (Fm.trans ?_ (f4.mono rfl rfl rfl)) rfl
      rw [hy3]
      exact (g2.trans (f3.mono rfl rfl rfl)).sA rfl
    refine ⟨v5, ?_, r5, fun hk => fun j hj => ?_, ⟨hf.trans g5, fun j hj => ?_⟩⟩
    · rw [fX8_readThings_8, if_neg (by decide), if_neg (show ¬ (8 : Int32) ≤ nI (b + i) from nI_ge (b := 8) (by omega) (by omega)), show fX5_signFrom 97 8 w = fX5_signFrom (nI 97) (nI 8) w from rfl, e1, oBs, gd_t i4, nxs, show sgV (sgO n mo c 97 8 q) true = thK n mo c q from rfl, ← hy1, show (10 : Int32) = nI 10 from rfl, e2, oBs, gd_t i4, nxs, show sgV (sgO n mo c 48 10 (th1 n mo c q).1) (th1 n mo c q).2 = thD n mo c q from rfl, ← hy2, e3, oBs, show fpt 4 0 = 22 from rfl, show ln 22 = 8 from rfl, gd_t i4, nxs, show fVl n mo c R C (th2 n mo c q) = thF n mo c R C q from rfl, ← hy3, e4, oBs, show fpt 4 1 = 23 from rfl, show ln 23 = 8 from rfl, gd_t i4, nxs, show hdV (amO n mo c 1 (th3 n mo c R C q).1) (th3 n mo c R C q).2 = thH n mo c R C q from rfl, ← hy4, e5, oBs, nI_1]
    · rw [a16, a17, a22, a23]
      by_cases ej : j = i
      · subst ej; rw [pk_us, pk_us, pk_us, pk_us, ← hq]; exact ⟨rfl, rfl, rfl, rfl⟩
      · rw [pk_un (by omega), pk_un (by omega), pk_un (by omega), pk_un (by omega)]; exact hx j (by omega)
    · rw [a16, a17, a22, a23, upd_lo hj, upd_lo hj, upd_lo hj, upd_lo hj]; exact hlo j hj) h0 (fun j hj => absurd hj (Nat.not_lt_zero j)) ⟨Fm.rf, fun j hj => ⟨rfl, rfl, rfl, rfl⟩⟩
  obtain ⟨last, more, w, e1, q, okq, rc, eq, han, hok, ⟨hf, hlo⟩, hl9⟩ := key
  generalize hRR : runL (thS n mo c R C) (fun q => htB n mo c q 59) (8 - b) 0 = RR at eq han hok
  obtain ⟨w1, d1, rd, fd⟩ := dem_c ht.1 rc (!more)
  obtain ⟨w2, a2, fa⟩ := answer_c ht.1 rd (nI last - nI b)
  have eb1 : gI w1 3 2 = nI b := (fd.i 3 2 rfl).trans ((hf.i 3 2 rfl).trans hb)
  have eb2 : gI w2 3 2 = nI b := (fa.i 3 2 rfl).trans eb1
  have e50 : fX8_readThings_78 4 (nI last) (bI more) w = some (anV n q (okq && !more) (nI last - nI b), sI w2 3 2 (nI b + (if (0 : Int32) < anV n q (okq && !more) (nI last - nI b) then anV n q (okq && !more) (nI last - nI b) else 0))) := by
    unfold fX8_readThings_78 fX8_readThings_89
    cases more with
    | false =>
      rw [if_pos (show bI false = 0 from rfl), show (1 : Int32) = bI (!false) from rfl, d1, oBs, eb1, a2, oBs, eb2, nxs]
    | true =>
      rw [if_neg (show ¬ bI true = 0 by decide), show fX5_demand 0 w = fX5_demand (bI (!true)) w from rfl, d1, oBs, eb1, a2, oBs, eb2, nxs]
  have hfull : Fm [(2, 2), (2, 3), (3, 2)] [16, 17, 22, 23] [] u w2 := ((hf.mono rfl rfl rfl).trans (fd.mono rfl rfl rfl)).trans (fa.mono rfl rfl rfl)
  have rows : w2.2.1 16 = w.2.1 16 ∧ w2.2.1 17 = w.2.1 17 ∧ w2.2.1 22 = w.2.1 22 ∧ w2.2.1 23 = w.2.1 23 := ⟨(fa.a 16 rfl).trans (fd.a 16 rfl), (fa.a 17 rfl).trans (fd.a 17 rfl), (fa.a 22 rfl).trans (fd.a 22 rfl), (fa.a 23 rfl).trans (fd.a 23 rfl)⟩
  have eread : fX8_readThings 4 u = some (anV n q (okq && !more) (nI last - nI b), sI w2 3 2 (nI b + (if (0 : Int32) < anV n q (okq && !more) (nI last - nI b) then anV n q (okq && !more) (nI last - nI b) else 0))) := by
    unfold fX8_readThings
    rw [gd_t (show isMom 4 = true from rfl), hb]
    exact e1.trans e50
  cases hs : (RR.2.2 && decide (RR.2.1 = n)) with
  | true =>
    rw [Bool.and_eq_true] at hs
    obtain ⟨l1, l2⟩ := hok hs.1
    have hRm : nI last - nI b = nI RR.1 := by rw [l1, pk_sub (by omega), Nat.add_sub_cancel_left]
    have hv : anV n q (okq && !more) (nI last - nI b) = nI RR.1 := by
      rw [han, hRm]; unfold anV; rw [hs.1, eq, hs.2]; rfl
    have hv2 : anV n RR.2.1 RR.2.2 (nI RR.1) = nI RR.1 := by unfold anV; rw [hs.1, hs.2]; rfl
    have hadd : nI b + (if (0 : Int32) < nI RR.1 then nI RR.1 else 0) = nI (b + RR.1) := by
      by_cases hz : RR.1 = 0
      · rw [hz]; exact ad0 b
      · rw [if_pos (show (0 : Int32) < nI RR.1 from nI_lt (a := 0) (by omega) (by omega)), nI_add]
    refine ⟨sI w2 3 2 (nI (b + RR.1)), (by rw [eread, hv, hv2, hadd]), (fun _ => ⟨rfl, ?_⟩), (fun h => by cases h), (fun j hj => ?_), hfull.sI rfl⟩
    · show ThI n mo c R C b (w2.2.1 16) (w2.2.1 17) (w2.2.1 22) (w2.2.1 23) RR.1
      rw [rows.1, rows.2.1, rows.2.2.1, rows.2.2.2]; exact l2
    · show w2.2.1 16 j = _ ∧ w2.2.1 17 j = _ ∧ w2.2.1 22 j = _ ∧ w2.2.1 23 j = _
      rw [rows.1, rows.2.1, rows.2.2.1, rows.2.2.2]; exact hlo j hj
  | false =>
    have hv : anV n q (okq && !more) (nI last - nI b) = -1 - nI q := by
      rw [han]; unfold anV; rw [eq, hs]; rfl
    have hv2 : anV n RR.2.1 RR.2.2 (nI RR.1) = -1 - nI q := by unfold anV; rw [hs, eq]; rfl
    have hqle : q ≤ 80 := by have := rc.2.2.2; have := ht.1; omega
    have hneg : ¬ (0 : Int32) < -1 - nI q := n_lt.mpr (neg_le q hqle)
    refine ⟨sI w2 3 2 (nI b), (by rw [eread, hv, hv2, if_neg hneg, ad0]), (fun h => by cases h), (fun _ => rfl), (fun j hj => ?_), hfull.sI rfl⟩
    show w2.2.1 16 j = _ ∧ w2.2.1 17 j = _ ∧ w2.2.1 22 j = _ ∧ w2.2.1 23 j = _
    rw [rows.1, rows.2.1, rows.2.2.1, rows.2.2.2]; exact hlo j hj
/-! things: the model -/
def mV (ok : Bool) (a : Nat) : Int32 := if ok = true then nI a else -1
theorem hV_mV {o : Option Nat} {a : Nat} (h : ∀ x, o = some x → x = a) : hV o = mV o.isSome a := by
  cases o with
  | none => rfl
  | some x => rw [h x rfl]; rfl
abbrev Fth (w v : US) : Prop := Fm [(47, 19), (47, 23)] [58] [] w v
theorem th116 {i : Nat} (hi : i < 8) {a : Nat} (ha : a < 16) {w : US} : ∃ v, fX12_readsThing_116 (nI (4 * i)) (nI (4 * i + 3)) (mV ok a) w = some (bI ok, v) ∧ v = sI (sA w 58 (nI (4 * i + 3)) (mV ok a)) 47 23 (gI w 47 23 + 1) := by
  unfold fX12_readsThing_116
  have i1 := inb_nI (show 4 * i + 3 < 32 by omega) (show 32 < 2 ^ 31 by decide)
  rw [gd_t i1, nxs, nxs, show nI (4 * i) + 3 = nI (4 * i + 3) from nI_add (4 * i) 3, gd_t i1]
  have eg : gA (sI (sA w 58 (nI (4 * i + 3)) (mV ok a)) 47 23 (gI (sA w 58 (nI (4 * i + 3)) (mV ok a)) 47 23 + 1)) 58 (nI (4 * i + 3)) = mV ok a := by
    show upd (w.2.1 58) (nI (4 * i + 3)).toNatClampNeg (mV ok a) (nI (4 * i + 3)).toNatClampNeg = _
    rw [pk_us]
  rw [eg]
  cases ok with
  | false => rw [if_pos (show mV false a < 0 from (show (-1 : Int32) < 0 by decide))]; exact ⟨_, rfl, rfl⟩
  | true => rw [if_neg (show ¬ mV true a < 0 from nI_pos (n := a) (by omega))]; exact ⟨_, rfl, rfl⟩
theorem th87 (ht : Tok n mo c) {i : Nat} (hi : i < 8) {s : Nat × Bool} {a : Nat} (ha : a < 100) {w : US} (h : Rm n mo c s.1 w) : ∃ v, fX12_readsThing_87 (nI (4 * i)) (nI (4 * i + 2)) (mV s.2 a) w = some (bI (stp (amO n mo c 1 s.1) s).2, v) ∧ Rm n mo c (stp (amO n mo c 1 s.1) s).1 v ∧ gI v 47 23 = gI w 47 23 + 1 ∧ v.2.1 58 = upd (upd (w.2.1 58) (4 * i + 2) (mV s.2 a)) (4 * i + 3) (mV (stp (amO n mo c 1 s.1) s).2 (hdV (amO n mo c 1 s.1) s.2)) ∧ Fth w v := by
  unfold fX12_readsThing_87
  have i1 := inb_nI (show 4 * i + 2 < 32 by omega) (show 32 < 2 ^ 31 by decide)
  rw [gd_t i1, nxs, show nI (4 * i) + 2 = nI (4 * i + 2) from nI_add (4 * i) 2, show nI (4 * i) + 3 = nI (4 * i + 3) from nI_add (4 * i) 3, gd_t i1]
  have eg : gA (sA w 58 (nI (4 * i + 2)) (mV s.2 a)) 58 (nI (4 * i + 2)) = mV s.2 a := by
    show upd (w.2.1 58) (nI (4 * i + 2)).toNatClampNeg _ (nI (4 * i + 2)).toNatClampNeg = _
    rw [pk_us]
  rw [eg]
  obtain ⟨y, hy⟩ : ∃ y, y = sA w 58 (nI (4 * i + 2)) (mV s.2 a) := ⟨_, rfl⟩
  rw [← hy]
  have m1 : Rm n mo c s.1 y := by rw [hy]; exact h.fm (a := []) (b := [58]) (d := []) (Fm.rf.sA rfl) rfl rfl
  have y58 : y.2.1 58 = upd (w.2.1 58) (4 * i + 2) (mV s.2 a) := by
    rw [hy]
    show upd (w.2.1 58) (nI (4 * i + 2)).toNatClampNeg _ = _
    rw [nI_clamp (by omega)]
  have fy : Fth w y := by rw [hy]; exact Fm.rf.sA rfl
  have y23 : gI y 47 23 = gI w 47 23 := by rw [hy]; rfl
  obtain ⟨p, ok⟩ := s
  cases ok with
  | false =>
    rw [if_neg (show ¬ 0 ≤ mV false a from (show ¬ (0 : Int32) ≤ -1 by decide)), show stp (amO n mo c 1 p) (p, false) = (p, false) from sg_f rfl]
    obtain ⟨v, e1, ev⟩ := th116 (ok := false) hi (a := hdV (amO n mo c 1 p) false) (show 4 < 16 by decide) (w := y)
    rw [show (-1 : Int32) = mV false (hdV (amO n mo c 1 p) false) from rfl, e1]
    refine ⟨v, rfl, ?_, ?_, ?_, ?_⟩
    · rw [ev]; exact m1.fm (a := [(47, 23)]) (b := [58]) (d := []) ((Fm.rf.sA rfl).sI rfl) rfl rfl
    · rw [ev, ← y23]; rfl
    · rw [ev]
      show upd (y.2.1 58) (nI (4 * i + 3)).toNatClampNeg _ = _
      rw [nI_clamp (by omega), y58]
    · rw [ev]; exact (fy.sA rfl).sI rfl
  | true =>
    obtain ⟨v1, e1, r1, f1⟩ := takes_m ht m1 (j := 1) (by decide)
    rw [if_pos (show 0 ≤ mV true a from nI_pos' (n := a) (by omega)), show fX12_takesOf 101 y = fX12_takesOf (100 + 1) y from rfl, e1, oBs]
    have hs2 : (stp (amO n mo c 1 p) (p, true)).2 = (amO n mo c 1 p).isSome := by
      show sgK _ true = _
      unfold sgK; rw [Bool.true_and]
    have hh : hV (amO n mo c 1 p) = mV (stp (amO n mo c 1 p) (p, true)).2 (hdV (amO n mo c 1 p) true) := by
      rw [hs2]
      exact hV_mV (fun x hx => by unfold hdV; rw [hx]; rfl)
    have hlt : hdV (amO n mo c 1 p) true < 16 := by
      unfold hdV
      rw [if_pos rfl]
      cases ho : amO n mo c 1 p with
      | none => decide
      | some x => have := am5_lt ho; show x < 16; omega
    rw [show (p, true).1 = p from rfl] at *
    rw [hh]
    obtain ⟨v, e2, ev⟩ := th116 (ok := (stp (amO n mo c 1 p) (p, true)).2) hi (a := hdV (amO n mo c 1 p) true) hlt (w := v1)
    rw [e2]
    refine ⟨v, rfl, ?_, ?_, ?_, ?_⟩
    · rw [ev]
      have : Rm n mo c (stp (amO n mo c 1 p) (p, true)).1 v1 := by
        rw [← adv_stp]; exact r1
      exact this.fm (a := [(47, 23)]) (b := [58]) (d := []) ((Fm.rf.sA rfl).sI rfl) rfl rfl
    · rw [ev, ← y23]
      show gI v1 47 23 + 1 = _
      rw [show gI v1 47 23 = gI y 47 23 from f1.i 47 23 rfl]
    · rw [ev]
      show upd (v1.2.1 58) (nI (4 * i + 3)).toNatClampNeg _ = _
      rw [nI_clamp (by omega), f1.a 58 rfl, y58]
    · rw [ev]; exact ((fy.trans (f1.mono rfl rfl rfl)).sA rfl).sI rfl
theorem th60 (ht : Tok n mo c) {R C i : Nat} (hi : i < 8) {s : Nat × Bool} {a : Nat} (ha : a < 100) {w : US} (h : Rm n mo c s.1 w) (hR : gI w 47 3 = nI R) (hC : gI w 47 4 = nI C) (hR1 : 1 ≤ R) (hR6 : R ≤ 6) (hC1 : 1 ≤ C) (hC6 : C ≤ 6) : ∃ v, fX12_readsThing_60 (nI (4 * i)) (nI (4 * i + 1)) (mV s.2 a) w = some (bI (stp (amO n mo c 1 (fS2 n mo c R C s).1) (fS2 n mo c R C s)).2, v) ∧ Rm n mo c (stp (amO n mo c 1 (fS2 n mo c R C s).1) (fS2 n mo c R C s)).1 v ∧ gI v 47 23 = gI w 47 23 + 1 ∧ v.2.1 58 = upd (upd (upd (w.2.1 58) (4 * i + 1) (mV s.2 a)) (4 * i + 2) (mV (fS2 n mo c R C s).2 (fVl n mo c R C s))) (4 * i + 3) (mV (stp (amO n mo c 1 (fS2 n mo c R C s).1) (fS2 n mo c R C s)).2 (hdV (amO n mo c 1 (fS2 n mo c R C s).1) (fS2 n mo c R C s).2)) ∧ Fth w v := by
  unfold fX12_readsThing_60
  have i1 := inb_nI (show 4 * i + 1 < 32 by omega) (show 32 < 2 ^ 31 by decide)
  rw [gd_t i1, nxs, nI_1, show nI (4 * i) + 2 = nI (4 * i + 2) from nI_add (4 * i) 2, gd_t i1]
  have eg : gA (sA w 58 (nI (4 * i + 1)) (mV s.2 a)) 58 (nI (4 * i + 1)) = mV s.2 a := by
    show upd (w.2.1 58) (nI (4 * i + 1)).toNatClampNeg _ (nI (4 * i + 1)).toNatClampNeg = _
    rw [pk_us]
  rw [eg]
  obtain ⟨y, hy⟩ : ∃ y, y = sA w 58 (nI (4 * i + 1)) (mV s.2 a) := ⟨_, rfl⟩
  rw [← hy]
  have m1 : Rm n mo c s.1 y := by rw [hy]; exact h.fm (a := []) (b := [58]) (d := []) (Fm.rf.sA rfl) rfl rfl
  have y58 : y.2.1 58 = upd (w.2.1 58) (4 * i + 1) (mV s.2 a) := by
    rw [hy]
    show upd (w.2.1 58) (nI (4 * i + 1)).toNatClampNeg _ = _
    rw [nI_clamp (by omega)]
  have fy : Fth w y := by rw [hy]; exact Fm.rf.sA rfl
  have y23 : gI y 47 23 = gI w 47 23 := by rw [hy]; rfl
  have yR : gI y 47 3 = nI R := by rw [hy]; exact hR
  have yC : gI y 47 4 = nI C := by rw [hy]; exact hC
  obtain ⟨p, ok⟩ := s
  have hvl : (fS2 n mo c R C (p, ok)).2 = true → fVl n mo c R C (p, ok) < 100 := fun hk => by
    have := f_lt hk
    have : R * C ≤ 36 := Nat.mul_le_mul hR6 hC6
    omega
  cases ok with
  | false =>
    have e0 : fS2 n mo c R C (p, false) = (p, false) := by
      unfold fS2 fS1
      rw [sg_f (o := sgO n mo c 48 R (p, false).1) (s := (p, false)) rfl]; exact sg_f rfl
    rw [if_neg (show ¬ 0 ≤ mV false a from (show ¬ (0 : Int32) ≤ -1 by decide)), e0]
    obtain ⟨v, e1, r1, t1, q1, f1⟩ := th87 ht hi (s := (p, false)) (a := 0) (by decide) m1
    rw [show (-1 : Int32) = mV (p, false).2 0 from rfl, e1]
    exact ⟨v, rfl, r1, t1.trans (by rw [y23]), by rw [q1, y58]; rfl, fy.trans f1⟩
  | true =>
    obtain ⟨v1, e1, r1, f1⟩ := field_m ht m1 yR yC hR1 hR6 hC1 hC6
    rw [if_pos (show 0 ≤ mV true a from nI_pos' (n := a) (by omega)), e1, oBs]
    have hx : (if (fS2 n mo c R C (p, true)).2 = true then nI (fVl n mo c R C (p, true)) else -1) = mV (fS2 n mo c R C (p, true)).2 (if (fS2 n mo c R C (p, true)).2 = true then fVl n mo c R C (p, true) else 0) := by
      unfold mV
      by_cases w : (fS2 n mo c R C (p, true)).2 = true
      · rw [if_pos w, if_pos w, if_pos w]
      · rw [if_neg w, if_neg w]
    have hx2 : mV (fS2 n mo c R C (p, true)).2 (if (fS2 n mo c R C (p, true)).2 = true then fVl n mo c R C (p, true) else 0) = mV (fS2 n mo c R C (p, true)).2 (fVl n mo c R C (p, true)) := by rw [← hx]; rfl
    have hlt : (if (fS2 n mo c R C (p, true)).2 = true then fVl n mo c R C (p, true) else 0) < 100 := by
      by_cases w : (fS2 n mo c R C (p, true)).2 = true
      · rw [if_pos w]; exact hvl w
      · rw [if_neg w]; decide
    obtain ⟨v, e2, r2, t2, q2, f2⟩ := th87 ht hi (s := fS2 n mo c R C (p, true)) hlt r1
    rw [hx, e2]
    exact ⟨v, rfl, r2, t2.trans (by rw [show gI v1 47 23 = gI y 47 23 from f1.i 47 23 rfl, y23]), by rw [q2, hx2, f1.a 58 rfl, y58], (fy.trans (f1.mono rfl rfl rfl)).trans f2⟩
/-! things: both sides -/
def ThM (n mo : Nat) (c : Nat → Nat) (R C : Nat) (f : Nat → Int32) (i : Nat) : Prop := ∀ j, j < i → f (4 * j) = nI (thK n mo c (stN (thS n mo c R C) j)) ∧ f (4 * j + 1) = nI (thD n mo c (stN (thS n mo c R C) j)) ∧ f (4 * j + 2) = nI (thF n mo c R C (stN (thS n mo c R C) j)) ∧ f (4 * j + 3) = nI (thH n mo c R C (stN (thS n mo c R C) j))
theorem thing_m (ht : Tok n mo c) {R C b i q : Nat} {w : US} (h : Rm n mo c q w) (hR : gI w 47 3 = nI R) (hC : gI w 47 4 = nI C) (hb : gI w 47 5 = nI b) (h23 : gI w 47 23 = nI i) (hR1 : 1 ≤ R) (hR6 : R ≤ 6) (hC1 : 1 ≤ C) (hC6 : C ≤ 6) (hbi : b + i < 8) : ∃ v, fX12_readsLine 0 w = some (bI (thS n mo c R C q).2, v) ∧ Rm n mo c (thS n mo c R C q).1 v ∧ gI v 47 23 = nI (i + 1) ∧ (∀ j, j < 4 * i → v.2.1 58 j = w.2.1 58 j) ∧ ((thS n mo c R C q).2 = true → v.2.1 58 (4 * i) = nI (thK n mo c q) ∧ v.2.1 58 (4 * i + 1) = nI (thD n mo c q) ∧ v.2.1 58 (4 * i + 2) = nI (thF n mo c R C q) ∧ v.2.1 58 (4 * i + 3) = nI (thH n mo c R C q)) ∧ Fm [(47, 19), (47, 23)] [58] [] w v := by
  obtain ⟨v1, e1, m1, f1⟩ := takes_m ht h (j := 0) (by decide)
  rw [am_sg ht] at e1 m1
  have i0 := inb_nI (show 4 * i < 32 by omega) (show 32 < 2 ^ 31 by decide)
  have e4i : (4 : Int32) * nI i = nI (4 * i) := pk_mul 4 i
  have hne : ¬ nI b + nI i = 8 := by rw [nI_add]; exact fun x => (by have := congrArg Int32.toInt x; rw [nI_toInt (by omega)] at this; have h4 : (8 : Int32).toInt = 8 := rfl; omega)
  unfold fX12_readsLine
  rw [if_pos rfl]
  unfold fX12_readsThing
  rw [hb, h23, if_neg hne, show fX12_takesOf 100 w = fX12_takesOf (100 + 0) w from rfl, e1, oBs, e4i, gd_t i0, nxs, gd_t i0, nI_1]
  have s2 : (th1 n mo c q).2 = (sgO n mo c 97 8 q).isSome := by
    show sgK _ true = _
    unfold sgK; rw [Bool.true_and]
  have hv : hV (sgO n mo c 97 8 q) = mV (th1 n mo c q).2 (thK n mo c q) := by
    rw [s2]; exact hV_mV (fun x hx => by unfold thK; rw [hx]; rfl)
  rw [hv]
  have eg : gA (sA v1 58 (nI (4 * i)) (mV (th1 n mo c q).2 (thK n mo c q))) 58 (nI (4 * i)) = mV (th1 n mo c q).2 (thK n mo c q) := by
    show upd (v1.2.1 58) (nI (4 * i)).toNatClampNeg _ (nI (4 * i)).toNatClampNeg = _
    rw [pk_us]
  rw [eg]
  obtain ⟨y, hy⟩ : ∃ y, y = sA v1 58 (nI (4 * i)) (mV (th1 n mo c q).2 (thK n mo c q)) := ⟨_, rfl⟩
  rw [← hy]
  have r1 : Rm n mo c (th1 n mo c q).1 y := by
    rw [hy, show (th1 n mo c q).1 = adv (sgO n mo c 97 8 q) q from adv_stp.symm]
    exact Rm.fm (a := []) (b := [58]) (d := []) m1 (Fm.rf.sA rfl) rfl rfl
  have y58 : y.2.1 58 = upd (w.2.1 58) (4 * i) (mV (th1 n mo c q).2 (thK n mo c q)) := by
    rw [hy]
    show upd (v1.2.1 58) (nI (4 * i)).toNatClampNeg _ = _
    rw [nI_clamp (by omega), f1.a 58 rfl]
  have fy : Fth w y := by rw [hy]; exact (f1.mono rfl rfl rfl).sA rfl
  have y23 : gI y 47 23 = nI i := by rw [hy]; exact (f1.i 47 23 rfl).trans h23
  have yR : gI y 47 3 = nI R := (fy.i 47 3 rfl).trans hR
  have yC : gI y 47 4 = nI C := (fy.i 47 4 rfl).trans hC
  have fin : ∀ (v2 : US) (a : Nat), a < 100 → Rm n mo c (th2 n mo c q).1 v2 → Fdm y v2 → mV (th2 n mo c q).2 a = mV (th2 n mo c q).2 (thD n mo c q) → ∃ v, (oB (fX12_readsThing_60 (nI (4 * i)) (nI (4 * i + 1)) (mV (th2 n mo c q).2 a) v2) fun r1 u1 => gd (isB r1) (some (r1, u1))) = some (bI (thS n mo c R C q).2, v) ∧ Rm n mo c (thS n mo c R C q).1 v ∧ gI v 47 23 = nI (i + 1) ∧ (∀ j, j < 4 * i → v.2.1 58 j = w.2.1 58 j) ∧ ((thS n mo c R C q).2 = true → v.2.1 58 (4 * i) = nI (thK n mo c q) ∧ v.2.1 58 (4 * i + 1) = nI (thD n mo c q) ∧ v.2.1 58 (4 * i + 2) = nI (thF n mo c R C q) ∧ v.2.1 58 (4 * i + 3) = nI (thH n mo c R C q)) ∧ Fm [(47, 19), (47, 23)] [58] [] w v := by
    intro v2 a ha m2 f2 hm
    obtain ⟨v, e3, r3, t3, q3, f3⟩ := th60 ht (R := R) (C := C) (i := i) (by omega) (s := th2 n mo c q) ha m2 ((f2.i 47 3 rfl).trans yR) ((f2.i 47 4 rfl).trans yC) hR1 hR6 hC1 hC6
    rw [e3, oBs, gd_t (isB_bI _)]
    have q4 : v.2.1 58 = upd (upd (upd (upd (w.2.1 58) (4 * i) (mV (th1 n mo c q).2 (thK n mo c q))) (4 * i + 1) (mV (th2 n mo c q).2 (thD n mo c q))) (4 * i + 2) (mV (th3 n mo c R C q).2 (thF n mo c R C q))) (4 * i + 3) (mV (thS n mo c R C q).2 (thH n mo c R C q)) := by
      rw [q3, f2.a 58 rfl, y58, hm]; rfl
    refine ⟨v, rfl, r3, ?_, fun j hj => ?_, fun hk => ?_, (fy.trans (f2.mono rfl rfl rfl)).trans f3⟩
    · rw [t3, show gI v2 47 23 = nI i from (f2.i 47 23 rfl).trans y23, nI_1]
    · rw [q4, pk_un (by omega), pk_un (by omega), pk_un (by omega), pk_un (by omega)]
    · have a3 := (sg_y hk).1
      have a2 := th_f a3
      have a1 := (sg_y a2).1
      rw [q4, hk, a3, a2, a1]
      refine ⟨?_, ?_, ?_, ?_⟩
      · rw [pk_un (by omega), pk_un (by omega), pk_un (by omega), pk_us]; rfl
      · rw [pk_un (by omega), pk_un (by omega), pk_us]; rfl
      · rw [pk_un (by omega), pk_us]; rfl
      · rw [pk_us]; rfl
  cases hk : (th1 n mo c q).2 with
  | false =>
    have e2 : th2 n mo c q = th1 n mo c q := sg_f hk
    have k2 : (th2 n mo c q).2 = false := by rw [e2]; exact hk
    rw [if_neg (show ¬ 0 ≤ mV false (thK n mo c q) from (show ¬ (0 : Int32) ≤ -1 by decide))]
    have := fin y 0 (by decide) (by rw [e2]; exact r1) Fm.rf (by rw [k2]; rfl)
    rw [k2] at this
    exact this
  | true =>
    have hkl : thK n mo c q < 8 := by
      obtain ⟨_, z, ez, ez2, _⟩ := sg_y (o := sgO n mo c 97 8 q) (s := (q, true)) hk
      obtain ⟨_, d1, d2, d3⟩ := sg_hp ez
      have : thK n mo c q = z := ez2
      omega
    rw [if_pos (show 0 ≤ mV true (thK n mo c q) from nI_pos' (n := thK n mo c q) (by omega))]
    obtain ⟨v2, e2, m2, f2⟩ := num1_m ht r1
    have s3 : (th2 n mo c q).2 = (sgO n mo c 48 10 (th1 n mo c q).1).isSome := by
      show sgK _ (th1 n mo c q).2 = _
      rw [hk]; unfold sgK; rw [Bool.true_and]
    have hv2 : hV (sgO n mo c 48 10 (th1 n mo c q).1) = mV (th2 n mo c q).2 (thD n mo c q) := by
      rw [s3]; exact hV_mV (fun x hx => by unfold thD; rw [hx, hk]; rfl)
    have hdl : thD n mo c q < 100 := by
      unfold thD
      rw [hk]
      cases ho : sgO n mo c 48 10 (th1 n mo c q).1 with
      | none => decide
      | some x =>
        obtain ⟨_, d1, d2, d3⟩ := sg_hp ho
        show x < 100
        omega
    rw [e2, oBs, hv2]
    have m2' : Rm n mo c (th2 n mo c q).1 v2 := by
      have : (th2 n mo c q).1 = adv (sgO n mo c 48 10 (th1 n mo c q).1) (th1 n mo c q).1 := by
        show sgP _ (th1 n mo c q).1 (th1 n mo c q).2 = _
        rw [hk]; cases sgO n mo c 48 10 (th1 n mo c q).1 <;> rfl
      rw [this]; exact m2
    exact fin v2 (thD n mo c q) hdl m2' f2 rfl
theorem things21 {b K : Nat} (hb : b + K ≤ 8) (h7 : gI u 47 5 = nI b) (h23 : gI u 47 23 = nI K) (hK : 0 < K) : ∃ w, fX12_things_21 FU 0 u = some (nI K, sI (sI w 47 30 0) 47 8 (gI w 47 8 + 1)) ∧ gI w 47 5 = nI (b + K) ∧ (∀ j, j < b → w.2.1 49 j = u.2.1 49 j ∧ w.2.1 50 j = u.2.1 50 j) ∧ (∀ j, j < K → w.2.1 49 (b + j) = u.2.1 58 (4 * j) ∧ w.2.1 50 (b + j) = u.2.1 58 (4 * j + 1) ∧ w.2.1 55 (b + j) = u.2.1 58 (4 * j + 2) ∧ w.2.1 55 (8 + (b + j)) = u.2.1 58 (4 * j + 3)) ∧ (∀ j, (j < b ∨ 8 ≤ j ∧ j < 8 + b ∨ 16 ≤ j) → w.2.1 55 j = u.2.1 55 j) ∧ Fm [(47, 5)] [49, 50, 55] [] u w := by
  refine lpE (fun f (z : Int32) w => fX12_things_21 f z w) K (fun i => nI i) (fun i w => gI w 47 5 = nI (b + i) ∧ (∀ j, j < b → w.2.1 49 j = u.2.1 49 j ∧ w.2.1 50 j = u.2.1 50 j) ∧ (∀ j, j < i → w.2.1 49 (b + j) = u.2.1 58 (4 * j) ∧ w.2.1 50 (b + j) = u.2.1 58 (4 * j + 1) ∧ w.2.1 55 (b + j) = u.2.1 58 (4 * j + 2) ∧ w.2.1 55 (8 + (b + j)) = u.2.1 58 (4 * j + 3)) ∧ (∀ j, (j < b ∨ 8 ≤ j ∧ j < 8 + b ∨ 16 ≤ j) → w.2.1 55 j = u.2.1 55 j) ∧ Fm [(47, 5)] [49, 50, 55] [] u w) (fun o => ∃ w, o = some (nI K, sI (sI w 47 30 0) 47 8 (gI w 47 8 + 1)) ∧ gI w 47 5 = nI (b + K) ∧ (∀ j, j < b → w.2.1 49 j = u.2.1 49 j ∧ w.2.1 50 j = u.2.1 50 j) ∧ (∀ j, j < K → w.2.1 49 (b + j) = u.2.1 58 (4 * j) ∧ w.2.1 50 (b + j) = u.2.1 58 (4 * j + 1) ∧ w.2.1 55 (b + j) = u.2.1 58 (4 * j + 2) ∧ w.2.1 55 (8 + (b + j)) = u.2.1 58 (4 * j + 3)) ∧ (∀ j, (j < b ∨ 8 ≤ j ∧ j < 8 + b ∨ 16 ≤ j) → w.2.1 55 j = u.2.1 55 j) ∧ Fm [(47, 5)] [49, 50, 55] [] u w) ?_ ?_ (by omega) 0 rfl ⟨h7, fun j hj => ⟨rfl, rfl⟩, fun j hj => absurd hj (Nat.not_lt_zero j), fun _ _ => rfl, Fm.rf⟩
  · rintro f i w hi ⟨p7, plo, phi, p55, pf⟩
    left
    have j0 := inb_nI (show 4 * i < 32 by omega) (show 32 < 2 ^ 31 by decide)
    have j1 := inb_nI (show 4 * i + 1 < 32 by omega) (show 32 < 2 ^ 31 by decide)
    have j2 := inb_nI (show 4 * i + 2 < 32 by omega) (show 32 < 2 ^ 31 by decide)
    have j3 := inb_nI (show 4 * i + 3 < 32 by omega) (show 32 < 2 ^ 31 by decide)
    have i4 := inb_nI (show b + i < 8 by omega) (show 8 < 2 ^ 31 by decide)
    have i5 := inb_nI (show b + i < 26 by omega) (show 26 < 2 ^ 31 by decide)
    have i6 := inb_nI (show 8 + (b + i) < 26 by omega) (show 26 < 2 ^ 31 by decide)
    have e58 : ∀ x, x < 2 ^ 31 → gA w 58 (nI x) = u.2.1 58 x := fun x hx => by
      show w.2.1 58 (nI x).toNatClampNeg = _
      rw [nI_clamp hx, pf.a 58 rfl]
    obtain ⟨y1, hy1⟩ : ∃ y, y = sA w 49 (nI (b + i)) (gA w 58 (nI (4 * i))) := ⟨_, rfl⟩
    obtain ⟨y2, hy2⟩ : ∃ y, y = sA y1 50 (nI (b + i)) (gA y1 58 (nI (4 * i + 1))) := ⟨_, rfl⟩
    obtain ⟨y3, hy3⟩ : ∃ y, y = sA y2 55 (nI (b + i)) (gA y2 58 (nI (4 * i + 2))) := ⟨_, rfl⟩
    obtain ⟨y4, hy4⟩ : ∃ y, y = sA y3 55 (nI (8 + (b + i))) (gA y3 58 (nI (4 * i + 3))) := ⟨_, rfl⟩
    have p1 : gI y1 47 5 = nI (b + i) := by rw [hy1]; exact p7
    have p2 : gI y2 47 5 = nI (b + i) := by rw [hy2]; exact p1
    have p3 : gI y3 47 5 = nI (b + i) := by rw [hy3]; exact p2
    have p4 : gI y4 47 5 = nI (b + i) := by rw [hy4]; exact p3
    have est : fX12_things_21 (f + 1) (nI i) w = fX12_things_21 f (nI (i + 1)) (sI y4 47 5 (nI (b + i) + 1)) := by
      rw [fX12_things_21, show gI w 47 23 = nI K from (pf.i 47 23 rfl).trans h23, if_neg (nI_ge hi (by omega)), show (4 : Int32) * nI i = nI (4 * i) from pk_mul 4 i, gd_t j0, p7, gd_t i4, nxs, ← hy1, nI_1, gd_t j1, p1, gd_t i4, nxs, ← hy2, show nI (4 * i) + 2 = nI (4 * i + 2) from nI_add (4 * i) 2, gd_t j2, p2, gd_t i5, nxs, ← hy3, show nI (4 * i) + 3 = nI (4 * i + 3) from nI_add (4 * i) 3, gd_t j3, p3, show (8 : Int32) + nI (b + i) = nI (8 + (b + i)) from nI_add 8 (b + i), gd_t i6, nxs, ← hy4, p4, nxs, nI_1]
    have r49 : (sI y4 47 5 (nI (b + i) + 1)).2.1 49 = upd (w.2.1 49) (b + i) (u.2.1 58 (4 * i)) := by
      rw [hy4, hy3, hy2, hy1]
      show upd (w.2.1 49) (nI (b + i)).toNatClampNeg (gA w 58 (nI (4 * i))) = _
      rw [nI_clamp (by omega), e58 _ (by omega)]
    have r50 : (sI y4 47 5 (nI (b + i) + 1)).2.1 50 = upd (w.2.1 50) (b + i) (u.2.1 58 (4 * i + 1)) := by
      rw [hy4, hy3, hy2, hy1]
      show upd (w.2.1 50) (nI (b + i)).toNatClampNeg (gA w 58 (nI (4 * i + 1))) = _
      rw [nI_clamp (by omega), e58 _ (by omega)]
    have r55 : (sI y4 47 5 (nI (b + i) + 1)).2.1 55 = upd (upd (w.2.1 55) (b + i) (u.2.1 58 (4 * i + 2))) (8 + (b + i)) (u.2.1 58 (4 * i + 3)) := by
      rw [hy4, hy3, hy2, hy1]
      show upd (upd (w.2.1 55) (nI (b + i)).toNatClampNeg (gA w 58 (nI (4 * i + 2)))) (nI (8 + (b + i))).toNatClampNeg (gA w 58 (nI (4 * i + 3))) = _
      rw [nI_clamp (by omega), nI_clamp (by omega), e58 _ (by omega), e58 _ (by omega)]
    refine ⟨_, ⟨?_, fun j hj => ?_, fun j hj => ?_, fun j hj => ?_, ?_⟩, est⟩
    · show nI (b + i) + 1 = _
      rw [nI_1]; rfl
    · rw [r49, r50, pk_un (by omega), pk_un (by omega)]; exact plo j hj
    · rw [r49, r50, r55]
      by_cases q : j = i
      · subst q; rw [pk_us, pk_us, pk_us, pk_un (show b + j ≠ 8 + (b + j) by omega), pk_us]; exact ⟨rfl, rfl, rfl, rfl⟩
      · have q2 := phi j (by omega)
        rw [pk_un (by omega), pk_un (by omega), pk_un (show b + j ≠ 8 + (b + i) by omega), pk_un (show b + j ≠ b + i by omega), pk_un (show 8 + (b + j) ≠ 8 + (b + i) by omega), pk_un (show 8 + (b + j) ≠ b + i by omega)]; exact q2
    · rw [r55, pk_un (by omega), pk_un (by omega)]; exact p55 j hj
    · rw [hy4, hy3, hy2, hy1]; exact ((((pf.sA rfl).sA rfl).sA rfl).sA rfl).sI rfl
  · rintro f w ⟨p7, plo, phi, p55, pf⟩
    have p23 : gI w 47 23 = nI K := (pf.i 47 23 rfl).trans h23
    rw [fX12_things_21, p23, if_pos (nI_le (Nat.le_refl _) (by omega)), isNew_1 p23 hK (by omega), oBs]
    exact ⟨w, rfl, p7, plo, phi, p55, pf⟩
def thRun (n : Nat) (c : Nat → Nat) (R C b : Nat) : Nat × Nat × Bool := runL (thS n 47 c R C) (fun q => htB n 47 c q 59) (8 - b) 0
theorem TwM_t {R C nt np nr K : Nat} (h : TwM R C nt np nr u) (hnp : np ≤ 8) (hnt : nt + K ≤ 8) (e24 : v.2.1 24 = u.2.1 24) (e43 : v.1 4 3 = u.1 4 3) (e44 : v.1 4 4 = u.1 4 4) (elo : ∀ j, j < nt → v.2.1 22 j = u.2.1 22 j ∧ v.2.1 23 j = u.2.1 23 j) (ehi : ∀ j, j < K → (∃ a : Nat, a < R * C ∧ v.2.1 22 (nt + j) = nI a) ∧ (∃ a : Nat, a < 5 ∧ v.2.1 23 (nt + j) = nI a) ∧ v.2.1 55 (nt + j) = v.2.1 22 (nt + j) ∧ v.2.1 55 (8 + (nt + j)) = v.2.1 23 (nt + j)) (mlo : ∀ j, (j < nt ∨ 8 ≤ j ∧ j < 8 + nt ∨ 16 ≤ j) → v.2.1 55 j = u.2.1 55 j) : TwM R C (nt + K) np nr v := by
  obtain ⟨⟨q1, q2, q3, q4⟩, p1, p2, p3, p4⟩ := h
  unfold TwM
  rw [e24, e43, e44]
  refine ⟨⟨fun t ht => ?_, fun t ht => ?_, fun p hp => ?_, q4⟩, fun t ht => ?_, fun p hp => ?_, ?_, ?_⟩
  · rw [cM22 (by omega)]
    by_cases q : t < nt
    · have := q1 t q
      rw [cM22 (by omega)] at this
      rw [(elo t q).1]; exact this
    · obtain ⟨i, rfl⟩ : ∃ i, t = nt + i := ⟨t - nt, (by omega)⟩
      exact (ehi i (by omega)).1
  · rw [cM23 (by omega)]
    by_cases q : t < nt
    · have := q2 t q
      rw [cM23 (by omega)] at this
      rw [(elo t q).2]; exact this
    · obtain ⟨i, rfl⟩ : ∃ i, t = nt + i := ⟨t - nt, (by omega)⟩
      exact (ehi i (by omega)).2.1
  · have := q3 p hp
    rw [cM24 (by omega)] at this ⊢; exact this
  · rw [cM22 (by omega), cM23 (by omega)]
    by_cases q : t < nt
    · have := p1 t q
      rw [cM22 (by omega), cM23 (by omega)] at this
      rw [(elo t q).1, (elo t q).2, mlo t (by omega), mlo (8 + t) (by omega)]; exact this
    · obtain ⟨i, rfl⟩ : ∃ i, t = nt + i := ⟨t - nt, (by omega)⟩
      exact ⟨(ehi i (by omega)).2.2.1.symm, (ehi i (by omega)).2.2.2.symm⟩
  · have := p2 p hp
    rw [cM24 (by omega)] at this ⊢
    rw [mlo (16 + p) (by omega)]; exact this
  · rw [mlo 24 (by omega)]; exact p3
  · rw [mlo 25 (by omega)]; exact p4
theorem st_3 : St_3 Inv := by
  intro k u hk hI
  obtain ⟨n, c, hn, hc, hxc, hxm⟩ := tx_of hI
  have ht : Tok n 47 c := ⟨hn, by decide, hc⟩
  have hI' := hI
  obtain ⟨R, C, nt, np, nr, hD⟩ := hI'
  obtain ⟨⟨hR1, hR6, hC1, hC6, hnt, hnp, hnr⟩, ⟨d1, d2, d3, d4, d5, d6, d7, d8, d9, d10⟩, htx, hrow, hmom, hrest⟩ := id hD
  by_cases h0 : n = 0
  · subst h0
    have ec : fX11_things u = some (0, u) := by
      unfold fX11_things fX7_isEmpty
      rw [show gI u 1 1 = 0 from hxc.1, if_pos rfl, oBs, if_neg (by decide)]
    obtain ⟨v, e1, z23, z18, f1⟩ := readsL_0 (u := sI u 47 0 0) (what := 0) ht hxm
    have em : fX12_things u = some (0, v) := by
      unfold fX12_things
      rw [nxs, show (47 : Int32) = nI 47 from rfl, e1, oBs, if_pos (show (0 : Int32) ≤ 0 by decide), show FU = 4095 + 1 from rfl, fX12_things_21, z23, if_pos (show (0 : Int32) ≤ 0 by decide), isNew_0 z23, oBs, sI_same (u := v) rfl, sI_same (u := v) (Int32.add_zero _)]
    refine ⟨0, u, v, ec, em, Inv_gone hI ((((Fm.rf.sI rfl : Fg u (sI u 47 0 0))).trans (f1.mono rfl rfl rfl))) ((f1.i 1 1 rfl).trans hxc.1) z18⟩
  · have hn0 : 0 < n := Nat.pos_of_ne_zero h0
    obtain ⟨u2, e2, r2, f2⟩ := open_c (mo := 47) hxc
    obtain ⟨w3, e3, hy, hno, hlo, f3⟩ := things_c (R := R) (C := C) (b := nt) ht r2 ((f2.i 3 0 rfl).trans d1) ((f2.i 3 1 rfl).trans d3) ((f2.i 3 2 rfl).trans d5) hR6 hC6 hnt
    have ecl : fX11_things u = fX11_arrived (anV n (thRun n c R C nt).2.1 (thRun n c R C nt).2.2 (nI (thRun n c R C nt).1)) w3 := by
      unfold fX11_things fX7_isEmpty
      rw [show gI u 1 1 = nI n from hxc.1, if_neg (show ¬ nI n = 0 from fun q => by have := congrArg Int32.toInt q; rw [nI_toInt (by omega)] at this; have h4 : (0 : Int32).toInt = 0 := rfl; omega), oBs, if_pos rfl, show (47 : Int32) = nI 47 from rfl, e2, oVs, e3, oBs]
      unfold thRun fX11_arrived
      rw [show fX7_clear w3 = some (sI w3 1 1 0) from rfl, oVs]
      by_cases q : anV n (runL (thS n 47 c R C) (fun q => htB n 47 c q 59) (8 - nt) 0).2.1 (runL (thS n 47 c R C) (fun q => htB n 47 c q 59) (8 - nt) 0).2.2 (nI (runL (thS n 47 c R C) (fun q => htB n 47 c q 59) (8 - nt) 0).1) ≤ 0
      · rw [if_pos q]; rfl
      · rw [if_neg q]; rfl
    have fuw : Fm ((2, 1) :: (2, 2) :: (2, 3) :: (3, 2) :: []) [16, 17, 22, 23] [] u w3 := (f2.mono rfl rfl rfl).trans (f3.mono rfl rfl rfl)
    have hlo' : ∀ j, j < nt → w3.2.1 16 j = u.2.1 16 j ∧ w3.2.1 17 j = u.2.1 17 j ∧ w3.2.1 22 j = u.2.1 22 j ∧ w3.2.1 23 j = u.2.1 23 j := fun j hj => by
      have := hlo j hj
      rw [f2.a 16 rfl, f2.a 17 rfl, f2.a 22 rfl, f2.a 23 rfl] at this
      exact this
    -- the model reads
    have rd : ∀ w4 : US, Fm ((1, 1) :: (7, 2) :: (7, 3) :: (2, 1) :: (2, 2) :: (2, 3) :: (3, 2) :: []) [16, 17, 22, 23] [] u w4 → ∃ w5, fX12_readsLines 0 47 (sI w4 47 0 0) = some (anV n (thRun n c R C nt).2.1 (thRun n c R C nt).2.2 0, w5) ∧ FinM n 47 c (thRun n c R C nt) (fun i w => ThM n 47 c R C (w.2.1 58) i) (fun w => Fm [(47, 0), (47, 18), (47, 19), (47, 20), (47, 21), (47, 23)] [58] [] w4 w ∧ gI w 47 18 = 0) w5 := by
      intro w4 f4
      have hx4 : (sI w4 47 0 0).1 47 18 = nI n ∧ RowN n ((sI w4 47 0 0).2.1 57) c := ⟨(f4.i 47 18 rfl).trans hxm.1, by rw [show (sI w4 47 0 0).2.1 57 = w4.2.1 57 from rfl, f4.a 57 rfl]; exact hxm.2⟩
      refine readsL_m (lpf := thS n 47 c R C) ht (what := 0) (8 - nt) (by omega) hn0 hx4 _ _ (fun hg hf => ⟨hg.1.trans (hf.mono rfl rfl rfl), (hf.i 47 18 rfl).trans hg.2⟩) (fun hi hf => by rw [hf.a 58 rfl]; exact hi) ?_ ?_ (fun v hf h18 => ⟨(Fm.rf.sI rfl : Fm [(47, 0), (47, 18), (47, 19), (47, 20), (47, 21), (47, 23)] [58] [] w4 (sI w4 47 0 0)).trans (hf.mono rfl rfl rfl), h18⟩) (fun v j hj => absurd hj (Nat.not_lt_zero j))
      · rintro w h23 ⟨hg, _⟩
        unfold fX12_readsLine
        rw [if_pos rfl]
        unfold fX12_readsThing
        rw [show gI w 47 5 = nI nt from (hg.i 47 5 rfl).trans ((f4.i 47 5 rfl).trans d6), h23, if_pos (show nI nt + nI (8 - nt) = 8 by rw [nI_add, show nt + (8 - nt) = 8 by omega]; rfl), oBs, gd_t (show isB 0 = true by decide)]
      · rintro i w hi h23 hr hx ⟨hg, h18⟩
        obtain ⟨v, e5, r5, t5, lo5, hi5, f5⟩ := thing_m ht (R := R) (C := C) (b := nt) (i := i) hr ((hg.i 47 3 rfl).trans ((f4.i 47 3 rfl).trans d2)) ((hg.i 47 4 rfl).trans ((f4.i 47 4 rfl).trans d4)) ((hg.i 47 5 rfl).trans ((f4.i 47 5 rfl).trans d6)) h23 hR1 hR6 hC1 hC6 (by omega)
        refine ⟨v, e5, r5, t5, fun hk j hj => ?_, hg.trans (f5.mono rfl rfl rfl), (f5.i 47 18 rfl).trans h18⟩
        by_cases q : j = i
        · subst q; exact hi5 hk
        · rw [lo5 (4 * j) (by omega), lo5 (4 * j + 1) (by omega), lo5 (4 * j + 2) (by omega), lo5 (4 * j + 3) (by omega)]; exact hx j (by omega)
    obtain ⟨t1, t2, t3, t4, t5, t6⟩ := hrow
    cases hs : ((thRun n c R C nt).2.2 && decide ((thRun n c R C nt).2.1 = n)) with
    | true =>
      have hs' := hs
      rw [Bool.and_eq_true] at hs'
      obtain ⟨K1, K2, K3⟩ := run_ok (lpf := thS n 47 c R C) (semi := fun q => htB n 47 c q 59) (cap := 8 - nt) 0 hs'.1
      obtain ⟨y1, y2⟩ := hy hs
      have av : ∀ x, anV n (thRun n c R C nt).2.1 (thRun n c R C nt).2.2 x = x := fun x => by unfold anV; rw [hs]; rfl
      have hK1 : 1 ≤ (thRun n c R C nt).1 := K1
      have hK2 : (thRun n c R C nt).1 ≤ 8 - nt := K2
      have ec : fX11_things u = some (nI (thRun n c R C nt).1, sI (sI (sI w3 1 1 0) 7 3 0) 7 2 0) := by
        rw [ecl, av]
        unfold fX11_arrived fX4_forgetAll
        rw [show fX7_clear w3 = some (sI w3 1 1 0) from rfl, oVs, if_neg (nI_nle hK1 (by omega)), nxs, nxs, oVs]
      have f4 : Fm ((1, 1) :: (7, 2) :: (7, 3) :: (2, 1) :: (2, 2) :: (2, 3) :: (3, 2) :: []) [16, 17, 22, 23] [] u (sI (sI (sI w3 1 1 0) 7 3 0) 7 2 0) := (((fuw.mono rfl rfl rfl).sI rfl).sI rfl).sI rfl
      obtain ⟨w4, hw4⟩ : ∃ w4, w4 = sI (sI (sI w3 1 1 0) 7 3 0) 7 2 0 := ⟨_, rfl⟩
      rw [← hw4] at ec f4
      obtain ⟨w5, e5, m5, x5, g5, g18⟩ := rd w4 f4
      obtain ⟨x23, x58⟩ := x5 hs'.1
      obtain ⟨w6, e6, n7, l6, h6, h55, f6⟩ := things21 (b := nt) (K := (thRun n c R C nt).1) (by omega) ((g5.i 47 5 rfl).trans ((f4.i 47 5 rfl).trans d6)) x23 hK1
      have em : fX12_things w4 = some (nI (thRun n c R C nt).1, sI (sI w6 47 30 0) 47 8 (gI w6 47 8 + 1)) := by
        unfold fX12_things
        rw [nxs, e5, oBs, av, if_pos (show (0 : Int32) ≤ 0 by decide), e6]
      refine ⟨_, w4, _, ec, em, ?_⟩
      have f46 : Fm [(47, 0), (47, 5), (47, 18), (47, 19), (47, 20), (47, 21), (47, 23)] [49, 50, 55, 58] [] w4 w6 := (g5.mono rfl rfl rfl).trans (f6.mono rfl rfl rfl)
      have fz : Fm [(1, 1), (7, 2), (7, 3), (2, 1), (2, 2), (2, 3), (3, 2), (47, 0), (47, 5), (47, 8), (47, 18), (47, 19), (47, 20), (47, 21), (47, 23), (47, 30)] [16, 17, 22, 23, 49, 50, 55, 58] [] u (sI (sI w6 47 30 0) 47 8 (gI w6 47 8 + 1)) := (((f4.mono rfl rfl rfl).trans (f46.mono rfl rfl rfl)).sI rfl).sI rfl
      have z8 : w6.1 47 8 = u.1 47 8 := (f46.i 47 8 rfl).trans (f4.i 47 8 rfl)
      have e20 : w6.2.1 16 = w3.2.1 16 ∧ w6.2.1 17 = w3.2.1 17 ∧ w6.2.1 22 = w3.2.1 22 ∧ w6.2.1 23 = w3.2.1 23 := by
        rw [f46.a 16 rfl, f46.a 17 rfl, f46.a 22 rfl, f46.a 23 rfl, hw4]; exact ⟨rfl, rfl, rfl, rfl⟩
      have e53 : ∀ j, j < nt → w6.2.1 49 j = u.2.1 49 j ∧ w6.2.1 50 j = u.2.1 50 j := fun j hj => by
        have := l6 j hj
        rw [g5.a 49 rfl, g5.a 50 rfl, f4.a 49 rfl, f4.a 50 rfl] at this
        exact this
      have e55 : ∀ j, (j < nt ∨ 8 ≤ j ∧ j < 8 + nt ∨ 16 ≤ j) → w6.2.1 55 j = u.2.1 55 j := fun j hj => by
        have := h55 j hj
        rw [g5.a 55 rfl, f4.a 55 rfl] at this
        exact this
      have w40 : w4.1 1 1 = 0 ∧ w4.1 7 3 = 0 ∧ w4.1 7 2 = 0 ∧ w4.1 3 2 = nI (nt + (thRun n c R C nt).1) := by rw [hw4]; exact ⟨rfl, rfl, rfl, y1⟩
      have z20 : ∀ j, j < nt + (thRun n c R C nt).1 → (w6.2.1 16 j = w6.2.1 49 j ∧ ∃ a : Nat, a < 8 ∧ w6.2.1 16 j = nI a) ∧ (w6.2.1 17 j = w6.2.1 50 j ∧ ∃ a : Nat, a < 10 ∧ w6.2.1 17 j = nI a) := by
        intro j hj
        rw [e20.1, e20.2.1]
        by_cases q : j < nt
        · obtain ⟨o1, o2, _⟩ := hlo' j q
          obtain ⟨o3, o4⟩ := e53 j q
          rw [o1, o2, o3, o4]
          exact ⟨t1 j q, t2 j q⟩
        · obtain ⟨i, rfl⟩ : ∃ i, j = nt + i := ⟨j - nt, (by omega)⟩
          have hi : i < (thRun n c R C nt).1 := by omega
          obtain ⟨o1, o2, _⟩ := y2 i hi
          obtain ⟨o3, o4, _⟩ := h6 i hi
          obtain ⟨o5, o6, _⟩ := x58 i hi
          have o7 := K3 i hi
          rw [Nat.zero_add] at o7
          obtain ⟨b1, b2, _⟩ := th_lt o7
          rw [o1, o2, o3, o4, o5, o6]
          exact ⟨⟨rfl, _, b1, rfl⟩, rfl, _, b2, rfl⟩
      refine Inv_new (nt' := nt + (thRun n c R C nt).1) (np' := np) (nr' := nr) hD hk (fz.mono rfl rfl rfl) ((f46.i 1 1 rfl).trans w40.1) ((f6.i 47 18 rfl).trans g18) ((f46.i 7 3 rfl).trans w40.2.1) rfl ((f46.i 7 2 rfl).trans w40.2.2.1) ?_ ⟨hR1, hR6, hC1, hC6, (by omega), hnp, hnr⟩ ⟨(f46.i 3 2 rfl).trans w40.2.2.2, n7, (fz.i 3 3 rfl).trans d7, (fz.i 47 6 rfl).trans d8, (fz.i 3 4 rfl).trans d9, (fz.i 47 7 rfl).trans d10⟩ ⟨fun j hj => (z20 j hj).1, fun j hj => (z20 j hj).2, ?_, ?_, ?_, ?_⟩ ?_
      · show gI w6 47 8 + 1 = u.1 47 8 + 1
        rw [show gI w6 47 8 = u.1 47 8 from z8]
      · rw [fz.a 18 rfl, fz.a 51 rfl]; exact t3
      · rw [fz.a 19 rfl, fz.a 52 rfl]; exact t4
      · rw [fz.a 20 rfl, fz.a 53 rfl]; exact t5
      · rw [fz.a 21 rfl, fz.a 54 rfl]; exact t6
      · refine TwM_t (K := (thRun n c R C nt).1) hmom hnp (by omega) (fz.a 24 rfl) (fz.i 4 3 rfl) (fz.i 4 4 rfl) (fun j hj => ?_) (fun j hj => ?_) e55
        · show w6.2.1 22 j = _ ∧ w6.2.1 23 j = _
          rw [e20.2.2.1, e20.2.2.2]; exact (hlo' j hj).2.2
        · show (∃ a : Nat, a < R * C ∧ w6.2.1 22 (nt + j) = nI a) ∧ (∃ a : Nat, a < 5 ∧ w6.2.1 23 (nt + j) = nI a) ∧ w6.2.1 55 (nt + j) = w6.2.1 22 (nt + j) ∧ w6.2.1 55 (8 + (nt + j)) = w6.2.1 23 (nt + j)
          rw [e20.2.2.1, e20.2.2.2]
          obtain ⟨_, _, o1, o2⟩ := y2 j hj
          obtain ⟨_, _, o3, o4⟩ := h6 j hj
          obtain ⟨_, _, o5, o6⟩ := x58 j hj
          have o7 := K3 j hj
          rw [Nat.zero_add] at o7
          obtain ⟨_, _, b1, b2⟩ := th_lt o7
          rw [o1, o2, o3, o4, o5, o6]
          exact ⟨⟨_, b1, rfl⟩, ⟨_, b2, rfl⟩, rfl, rfl⟩
    | false =>
      have av : ∀ x, anV n (thRun n c R C nt).2.1 (thRun n c R C nt).2.2 x = -1 - nI (thRun n c R C nt).2.1 := fun x => by unfold anV; rw [hs]; rfl
      have f4 : Fm ((1, 1) :: (7, 2) :: (7, 3) :: (2, 1) :: (2, 2) :: (2, 3) :: (3, 2) :: []) [16, 17, 22, 23] [] u (sI w3 1 1 0) := (fuw.mono rfl rfl rfl).sI rfl
      obtain ⟨w5, e5, m5, x5, g5, g18⟩ := rd _ f4
      have hq : (thRun n c R C nt).2.1 ≤ 80 := by have := m5.2.2; omega
      have ec : fX11_things u = some (-1 - nI (thRun n c R C nt).2.1, sI w3 1 1 0) := by
        rw [ecl, av]
        unfold fX11_arrived
        rw [show fX7_clear w3 = some (sI w3 1 1 0) from rfl, oVs, if_pos (neg_le _ hq)]
      have em : fX12_things (sI w3 1 1 0) = some (-1 - nI (thRun n c R C nt).2.1, w5) := by
        unfold fX12_things
        rw [nxs, e5, oBs, av, if_neg (neg_nle _ hq)]
      refine ⟨_, _, w5, ec, em, ?_⟩
      have fz : Fm [(1, 1), (2, 1), (2, 2), (2, 3), (3, 2), (47, 0), (47, 18), (47, 19), (47, 20), (47, 21), (47, 23)] [16, 17, 22, 23, 58] [] u w5 := ((fuw.mono rfl rfl rfl).sI rfl).trans (g5.mono rfl rfl rfl)
      refine Inv_keep hD (fz.mono rfl rfl rfl) ⟨0, (by omega), (g5.i 1 1 rfl).trans rfl, g18, fun j hj => absurd hj (Nat.not_lt_zero j)⟩ ⟨(g5.i 3 2 rfl).trans (hno hs), (fz.i 3 3 rfl).trans d7, (fz.i 3 4 rfl).trans d9⟩ ⟨fun j hj => ?_, fun j hj => ?_, ?_, ?_, ?_, ?_⟩ ?_
      · rw [fz.a 49 rfl, g5.a 16 rfl, show (sI w3 1 1 0).2.1 16 = w3.2.1 16 from rfl, (hlo' j hj).1]; exact t1 j hj
      · rw [fz.a 50 rfl, g5.a 17 rfl, show (sI w3 1 1 0).2.1 17 = w3.2.1 17 from rfl, (hlo' j hj).2.1]; exact t2 j hj
      · rw [fz.a 18 rfl, fz.a 51 rfl]; exact t3
      · rw [fz.a 19 rfl, fz.a 52 rfl]; exact t4
      · rw [fz.a 20 rfl, fz.a 53 rfl]; exact t5
      · rw [fz.a 21 rfl, fz.a 54 rfl]; exact t6
      · refine TwM_t (K := 0) hmom hnp (by omega) (fz.a 24 rfl) (fz.i 4 3 rfl) (fz.i 4 4 rfl) (fun j hj => ?_) (fun j hj => absurd hj (Nat.not_lt_zero j)) (fun j _ => by rw [fz.a 55 rfl])
        rw [g5.a 22 rfl, g5.a 23 rfl]; exact (hlo' j hj).2.2
