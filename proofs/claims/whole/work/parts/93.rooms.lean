/-! rooms -/
variable {D : DD} {m m' : MM} {e r : Nat} {u v : US} {n mo p : Nat} {c : Nat → Nat} {ok : Bool}
def stp (o : Option Nat) (s : Nat × Bool) : Nat × Bool := (sgP o s.1 s.2, sgK o s.2)
theorem dig_c (ht : Tok n mo c) {s : Nat × Bool} (h : Rc n mo c s.1 s.2 u) {k : Nat} (hk : k < 256) : ∃ v, fX5_digit (nI k) u = some (nI (sgV (sgO n mo c 48 k s.1) s.2), v) ∧ Rc n mo c (stp (sgO n mo c 48 k s.1) s).1 (stp (sgO n mo c 48 k s.1) s).2 v ∧ Fc u v := by
  obtain ⟨v, e1, h1, f1⟩ := sign_c' ht h (lo := 48) (k := k) (by decide) hk
  unfold fX5_digit
  rw [show (48 : Int32) = nI 48 from rfl, e1, oBs]
  exact ⟨v, rfl, h1, f1⟩
theorem dig0_m (ht : Tok n mo c) (h : Rm n mo c p u) {k : Nat} (hk : 1 ≤ k) (hk2 : k ≤ 10) : ∃ v, fX12_digitIn 0 (nI k - 1) u = some (hV (sgO n mo c 48 k p), v) ∧ Rm n mo c (adv (sgO n mo c 48 k p) p) v ∧ Fdm u v := by
  obtain ⟨v, e1, h1, f1⟩ := dig_m ht h (lo := 0) (k := k) hk (by omega)
  refine ⟨v, ?_, h1, f1⟩
  rw [Nat.zero_add] at e1
  rw [show (0 : Int32) = nI 0 from rfl, e1]
  cases sgO n mo c (48 + 0) k p <;> rfl
/-- the field read from a place -/
def fS1 (n mo : Nat) (c : Nat → Nat) (R : Nat) (s : Nat × Bool) : Nat × Bool := stp (sgO n mo c 48 R s.1) s
def fS2 (n mo : Nat) (c : Nat → Nat) (R C : Nat) (s : Nat × Bool) : Nat × Bool := stp (sgO n mo c 48 C (fS1 n mo c R s).1) (fS1 n mo c R s)
def fVl (n mo : Nat) (c : Nat → Nat) (R C : Nat) (s : Nat × Bool) : Nat := sgV (sgO n mo c 48 R s.1) s.2 * C + sgV (sgO n mo c 48 C (fS1 n mo c R s).1) (fS1 n mo c R s).2
theorem field_c (ht : Tok n mo c) {R C : Nat} {s : Nat × Bool} (h : Rc n mo c s.1 s.2 u) (hR : gI u 3 0 = nI R) (hC : gI u 3 1 = nI C) (hR6 : R ≤ 6) (hC6 : C ≤ 6) : ∃ v, fX8_readField u = some (nI (fVl n mo c R C s), v) ∧ Rc n mo c (fS2 n mo c R C s).1 (fS2 n mo c R C s).2 v ∧ Fc u v := by
  obtain ⟨v, e1, h1, f1⟩ := dig_c ht h (k := R) (by omega)
  obtain ⟨v2, e2, h2, f2⟩ := dig_c ht (s := fS1 n mo c R s) h1 (k := C) (by omega)
  unfold fX8_readField
  rw [hR, e1, oBs, show gI v 3 1 = nI C from (f1.i 3 1 rfl).trans hC, e2, oBs, pk_mul, nI_add]
  exact ⟨v2, rfl, h2, f1.trans f2⟩
theorem sg_y {o : Option Nat} {s : Nat × Bool} (h : (stp o s).2 = true) : s.2 = true ∧ ∃ x, o = some x ∧ sgV o s.2 = x ∧ (stp o s).1 = s.1 + 1 := by
  unfold stp sgK at h
  rw [Bool.and_eq_true] at h
  cases o with
  | none => cases h.2
  | some x => exact ⟨h.1, x, rfl, by unfold sgV; rw [h.1]; rfl, by unfold stp sgP; rw [h.1]; rfl⟩
theorem sg_f {o : Option Nat} {s : Nat × Bool} (h : s.2 = false) : stp o s = s := by
  unfold stp sgP sgK; rw [h]; exact Prod.ext rfl h.symm
theorem sg_n {s : Nat × Bool} : (stp none s).1 = s.1 ∧ (stp none s).2 = false := by
  unfold stp sgP sgK
  constructor
  · show (if (s.2 && false) = true then s.1 + 1 else s.1) = s.1
    rw [Bool.and_false, if_neg (by decide)]
  · exact Bool.and_false _
theorem f_lt {R C : Nat} {s : Nat × Bool} (h : (fS2 n mo c R C s).2 = true) : fVl n mo c R C s < R * C := by
  obtain ⟨a1, x, ex, ex2, _⟩ := sg_y h
  obtain ⟨_, y, ey, ey2, _⟩ := sg_y a1
  unfold fVl
  rw [ex2, ey2]
  obtain ⟨_, b1, b2, b3⟩ := sg_hp ex
  obtain ⟨_, d1, d2, d3⟩ := sg_hp ey
  have h1 : y < R := by omega
  have h2 : x < C := by omega
  calc y * C + x < y * C + C := by omega
    _ = (y + 1) * C := by rw [Nat.add_mul, Nat.one_mul]
    _ ≤ R * C := Nat.mul_le_mul_right C h1
theorem field_m (ht : Tok n mo c) {R C : Nat} (h : Rm n mo c p u) (hR : gI u 47 3 = nI R) (hC : gI u 47 4 = nI C) (hR1 : 1 ≤ R) (hR6 : R ≤ 6) (hC1 : 1 ≤ C) (hC6 : C ≤ 6) : ∃ v, fX12_readsField u = some (if (fS2 n mo c R C (p, true)).2 then nI (fVl n mo c R C (p, true)) else -1, v) ∧ Rm n mo c (fS2 n mo c R C (p, true)).1 v ∧ Fdm u v := by
  obtain ⟨v, e1, h1, f1⟩ := dig0_m ht h hR1 (show R ≤ 10 by omega)
  unfold fX12_readsField fX12_readsField_31
  rw [hR, e1, oBs]
  unfold fS2
  cases ho : sgO n mo c 48 R p with
  | none =>
    have e0 : fS1 n mo c R (p, true) = (p, false) := by unfold fS1; rw [show sgO n mo c 48 R (p, true).1 = none from ho]; rfl
    rw [ho] at h1
    rw [if_neg (show ¬ 0 ≤ hV none by decide), e0, sg_f (s := (p, false)) rfl, if_neg (show ¬ (0 : Int32) ≤ -1 by decide)]
    exact ⟨v, rfl, h1, f1⟩
  | some a =>
    obtain ⟨a0, a1, a2, a3⟩ := sg_hp ho
    have e0 : fS1 n mo c R (p, true) = (p + 1, true) := by unfold fS1; rw [show sgO n mo c 48 R (p, true).1 = some a from ho]; rfl
    rw [ho] at h1
    have h1' : Rm n mo c (p + 1) v := h1
    obtain ⟨v2, e2, h2, f2⟩ := dig0_m ht h1' hC1 (show C ≤ 10 by omega)
    rw [if_pos (show 0 ≤ hV (some a) from nI_pos' (by omega)), show gI v 47 4 = nI C from (f1.i 47 4 rfl).trans hC, e2, oBs, e0]
    cases ho2 : sgO n mo c 48 C (p + 1) with
    | none =>
      rw [ho2] at h2
      rw [if_neg (show ¬ 0 ≤ hV none by decide)]
      refine ⟨v2, ?_, ?_, f1.trans f2⟩
      · rfl
      · exact h2
    | some b =>
      obtain ⟨b0, b1, b2, b3⟩ := sg_hp ho2
      rw [ho2] at h2
      rw [if_pos (show 0 ≤ hV (some b) from nI_pos' (by omega)), show gI v2 47 4 = nI C from (f2.i 47 4 rfl).trans ((f1.i 47 4 rfl).trans hC)]
      refine ⟨v2, ?_, ?_, f1.trans f2⟩
      · rw [show (stp (some b) (p + 1, true)).2 = true from rfl, if_pos rfl, show hV (some a) = nI a from rfl, show hV (some b) = nI b from rfl, pk_mul, nI_add]
        have : fVl n mo c R C (p, true) = a * C + b := by
          unfold fVl
          rw [e0, show sgO n mo c 48 R (p, true).1 = some a from ho, show sgO n mo c 48 C (p + 1, true).1 = some b from ho2]; rfl
        rw [this, Nat.mul_comm C a]
      · exact h2
/-! a line of a room -/
def roS (n mo : Nat) (c : Nat → Nat) (R C : Nat) (q : Nat) : Nat × Bool := stp (sgO n mo c 48 10 (fS2 n mo c R C (q, true)).1) (fS2 n mo c R C (q, true))
def roG (n mo : Nat) (c : Nat → Nat) (R C : Nat) (q : Nat) : Nat := sgV (sgO n mo c 48 10 (fS2 n mo c R C (q, true)).1) (fS2 n mo c R C (q, true)).2
def roF (n mo : Nat) (c : Nat → Nat) (R C : Nat) (q : Nat) : Nat := fVl n mo c R C (q, true)
theorem ro_lt {R C q : Nat} (h : (roS n mo c R C q).2 = true) : roF n mo c R C q < R * C ∧ roG n mo c R C q < 10 := by
  obtain ⟨a1, x, ex, ex2, _⟩ := sg_y h
  obtain ⟨_, b1, b2, b3⟩ := sg_hp ex
  exact ⟨f_lt a1, by unfold roG; rw [ex2]; omega⟩
theorem upd_lo {f : Nat → Int32} {b i j : Nat} {x : Int32} (h : j < b) : upd f (b + i) x j = f j := pk_un (by omega)
def RoI (n mo : Nat) (c : Nat → Nat) (R C b : Nat) (f g : Nat → Int32) (i : Nat) : Prop := ∀ j, j < i → f (b + j) = nI (roF n mo c R C (stN (roS n mo c R C) j)) ∧ g (b + j) = nI (roG n mo c R C (stN (roS n mo c R C) j))
theorem rooms_c (ht : Tok n mo c) {R C b : Nat} (h0 : Rc n mo c 0 true u) (hR : gI u 3 0 = nI R) (hC : gI u 3 1 = nI C) (hb : gI u 3 4 = nI b) (hR6 : R ≤ 6) (hC6 : C ≤ 6) (hb4 : b ≤ 4) : ∃ w, fX8_readRooms u = some (anV n (runL (roS n mo c R C) (fun q => htB n mo c q 59) (4 - b) 0).2.1 (runL (roS n mo c R C) (fun q => htB n mo c q 59) (4 - b) 0).2.2 (nI (runL (roS n mo c R C) (fun q => htB n mo c q 59) (4 - b) 0).1), w) ∧ (((runL (roS n mo c R C) (fun q => htB n mo c q 59) (4 - b) 0).2.2 && decide ((runL (roS n mo c R C) (fun q => htB n mo c q 59) (4 - b) 0).2.1 = n)) = true → gI w 3 4 = nI (b + (runL (roS n mo c R C) (fun q => htB n mo c q 59) (4 - b) 0).1) ∧ RoI n mo c R C b (w.2.1 20) (w.2.1 21) (runL (roS n mo c R C) (fun q => htB n mo c q 59) (4 - b) 0).1) ∧ (((runL (roS n mo c R C) (fun q => htB n mo c q 59) (4 - b) 0).2.2 && decide ((runL (roS n mo c R C) (fun q => htB n mo c q 59) (4 - b) 0).2.1 = n)) = false → gI w 3 4 = nI b) ∧ (∀ j, j < b → w.2.1 20 j = u.2.1 20 j ∧ w.2.1 21 j = u.2.1 21 j) ∧ Fm [(2, 2), (2, 3), (3, 4)] [20, 21] [] u w := by
  have key := lines_c (lpf := roS n mo c R C) (n := n) (mo := mo) (c := c) (fun f x y w => fX8_readRooms_7 f x y w) (fun x y w => fX8_readRooms_50 x y w) 4 b (by omega) hb4 (fun i w => RoI n mo c R C b (w.2.1 20) (w.2.1 21) i) (fun w => Fm [(2, 2), (2, 3)] [20, 21] [] u w ∧ ∀ j, j < b → w.2.1 20 j = u.2.1 20 j ∧ w.2.1 21 j = u.2.1 21 j) (fun f x w => by rw [fX8_readRooms_7, if_pos rfl]) (fun f w => by rw [fX8_readRooms_7, if_neg (by decide), if_pos (show (4 : Int32) ≤ nI 4 by decide)]) (fun f i w hi hr hx hg => by
    obtain ⟨hf, hlo⟩ := hg
    have i4 := inb_nI (show b + i < 4 by omega) (show 4 < 2 ^ 31 by decide)
    obtain ⟨v1, e1, r1, f1⟩ := field_c ht (s := (stN (roS n mo c R C) i, true)) hr ((hf.i 3 0 rfl).trans hR) ((hf.i 3 1 rfl).trans hC) hR6 hC6
    have r1' : Rc n mo c (fS2 n mo c R C (stN (roS n mo c R C) i, true)).1 (fS2 n mo c R C (stN (roS n mo c R C) i, true)).2 (sA v1 20 (nI (b + i)) (nI (fVl n mo c R C (stN (roS n mo c R C) i, true)))) := r1.fm (a := []) (b := [20]) (d := []) (Fm.rf.sA rfl) rfl rfl
    obtain ⟨v2, e2, r2, f2⟩ := dig_c ht (s := fS2 n mo c R C (stN (roS n mo c R C) i, true)) r1' (k := 10) (by decide)
    have r2' : Rc n mo c (roS n mo c R C (stN (roS n mo c R C) i)).1 (roS n mo c R C (stN (roS n mo c R C) i)).2 (sA v2 21 (nI (b + i)) (nI (roG n mo c R C (stN (roS n mo c R C) i)))) := r2.fm (a := []) (b := [21]) (d := []) (Fm.rf.sA rfl) rfl rfl
    obtain ⟨v3, e3, r3, f3⟩ := more_c ht r2'
    have e20 : v3.2.1 20 = upd (w.2.1 20) (b + i) (nI (roF n mo c R C (stN (roS n mo c R C) i))) := by
      rw [f3.a 20 rfl]
      show v2.2.1 20 = _
      rw [f2.a 20 rfl]
      show upd (v1.2.1 20) (nI (b + i)).toNatClampNeg _ = _
      rw [nI_clamp (by omega), f1.a 20 rfl]; rfl
    have e21 : v3.2.1 21 = upd (w.2.1 21) (b + i) (nI (roG n mo c R C (stN (roS n mo c R C) i))) := by
      rw [f3.a 21 rfl]
      show upd (v2.2.1 21) (nI (b + i)).toNatClampNeg _ = _
      rw [nI_clamp (by omega), f2.a 21 rfl]
      show upd (v1.2.1 21) _ _ = _
      rw [f1.a 21 rfl]
    refine ⟨v3, ?_, r3, fun hk => fun j hj => ?_, ⟨?_, fun j hj => ?_⟩⟩
    · rw [fX8_readRooms_7, if_neg (by decide), if_neg (show ¬ (4 : Int32) ≤ nI (b + i) from nI_ge (b := 4) (by omega) (by omega)), e1, oBs, gd_t i4, nxs, show (10 : Int32) = nI 10 from rfl, e2, oBs, gd_t i4, nxs, show sgV (sgO n mo c 48 10 (fS2 n mo c R C (stN (roS n mo c R C) i, true)).1) (fS2 n mo c R C (stN (roS n mo c R C) i, true)).2 = roG n mo c R C (stN (roS n mo c R C) i) from rfl, e3, oBs, nI_1]
    · rw [e20, e21]
      by_cases ej : j = i
      · subst ej; rw [pk_us, pk_us]; exact ⟨rfl, rfl⟩
      · rw [pk_un (by omega), pk_un (by omega)]; exact hx j (by omega)
    · exact (((((hf.trans (f1.mono rfl rfl rfl)).sA rfl).trans (f2.mono rfl rfl rfl)).sA rfl).trans (f3.mono rfl rfl rfl))
    · rw [e20, e21, upd_lo hj, upd_lo hj]; exact hlo j hj) h0 (fun j hj => absurd hj (Nat.not_lt_zero j)) ⟨Fm.rf, fun j hj => ⟨rfl, rfl⟩⟩
  obtain ⟨last, more, w, e1, q, okq, rc, eq, han, hok, ⟨hf, hlo⟩, hl9⟩ := key
  generalize hRR : runL (roS n mo c R C) (fun q => htB n mo c q 59) (4 - b) 0 = RR at eq han hok
  obtain ⟨w1, d1, rd, fd⟩ := dem_c ht.1 rc (!more)
  obtain ⟨w2, a2, fa⟩ := answer_c ht.1 rd (nI last - nI b)
  have eb1 : gI w1 3 4 = nI b := (fd.i 3 4 rfl).trans ((hf.i 3 4 rfl).trans hb)
  have eb2 : gI w2 3 4 = nI b := (fa.i 3 4 rfl).trans eb1
  have e50 : fX8_readRooms_50 (nI last) (bI more) w = some (anV n q (okq && !more) (nI last - nI b), sI w2 3 4 (nI b + (if (0 : Int32) < anV n q (okq && !more) (nI last - nI b) then anV n q (okq && !more) (nI last - nI b) else 0))) := by
    unfold fX8_readRooms_50 fX8_readRooms_60
    cases more with
    | false =>
      rw [if_pos (show bI false = 0 from rfl), show (1 : Int32) = bI (!false) from rfl, d1, oBs, eb1, a2, oBs, eb2, nxs]
    | true =>
      rw [if_neg (show ¬ bI true = 0 by decide), show fX5_demand 0 w = fX5_demand (bI (!true)) w from rfl, d1, oBs, eb1, a2, oBs, eb2, nxs]
  have hfull : Fm [(2, 2), (2, 3), (3, 4)] [20, 21] [] u w2 := ((hf.mono rfl rfl rfl).trans (fd.mono rfl rfl rfl)).trans (fa.mono rfl rfl rfl)
  have rows : w2.2.1 20 = w.2.1 20 ∧ w2.2.1 21 = w.2.1 21 := ⟨(fa.a 20 rfl).trans (fd.a 20 rfl), (fa.a 21 rfl).trans (fd.a 21 rfl)⟩
  have eread : fX8_readRooms u = some (anV n q (okq && !more) (nI last - nI b), sI w2 3 4 (nI b + (if (0 : Int32) < anV n q (okq && !more) (nI last - nI b) then anV n q (okq && !more) (nI last - nI b) else 0))) := by
    unfold fX8_readRooms
    rw [hb]
    exact e1.trans e50
  cases hs : (RR.2.2 && decide (RR.2.1 = n)) with
  | true =>
    rw [Bool.and_eq_true] at hs
    obtain ⟨l1, l2⟩ := hok hs.1
    have hRm : nI last - nI b = nI RR.1 := by rw [l1, pk_sub (by omega), Nat.add_sub_cancel_left]
    have hv : anV n q (okq && !more) (nI last - nI b) = nI RR.1 := by
      rw [han, hRm]; unfold anV; rw [hs.1, eq, hs.2]; rfl
    have hv2 : anV n RR.2.1 RR.2.2 (nI RR.1) = nI RR.1 := by unfold anV; rw [hs.1, hs.2]; rfl
    have hadd : nI b + (if (0 : Int32) < nI RR.1 then nI RR.1 else 0) = nI (b + RR.1) := by
      by_cases hz : RR.1 = 0
      · rw [hz]; exact ad0 b
      · rw [if_pos (show (0 : Int32) < nI RR.1 from nI_lt (a := 0) (by omega) (by omega)), nI_add]
    refine ⟨sI w2 3 4 (nI (b + RR.1)), (by rw [eread, hv, hv2, hadd]), (fun _ => ⟨rfl, ?_⟩), (fun h => by cases h), (fun j hj => ?_), hfull.sI rfl⟩
    · show RoI n mo c R C b (w2.2.1 20) (w2.2.1 21) RR.1
      rw [rows.1, rows.2]; exact l2
    · show w2.2.1 20 j = _ ∧ w2.2.1 21 j = _
      rw [rows.1, rows.2]; exact hlo j hj
  | false =>
    have hv : anV n q (okq && !more) (nI last - nI b) = -1 - nI q := by
      rw [han]; unfold anV; rw [eq, hs]; rfl
    have hv2 : anV n RR.2.1 RR.2.2 (nI RR.1) = -1 - nI q := by unfold anV; rw [hs, eq]; rfl
    have hqle : q ≤ 80 := by have := rc.2.2.2; have := ht.1; omega
    have hneg : ¬ (0 : Int32) < -1 - nI q := n_lt.mpr (neg_le q hqle)
    refine ⟨sI w2 3 4 (nI b), (by rw [eread, hv, hv2, if_neg hneg, ad0]), (fun h => by cases h), (fun _ => rfl), (fun j hj => ?_), hfull.sI rfl⟩
    show w2.2.1 20 j = _ ∧ w2.2.1 21 j = _
    rw [rows.1, rows.2]; exact hlo j hj
