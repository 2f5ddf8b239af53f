/-! rooms -/
variable {D : DD} {m m' : MM} {e r : Nat} {u v : US} {n mo p : Nat} {c : Nat → Nat} {ok : Bool}
def stp (o : Option Nat) (s : Nat × Bool) : Nat × Bool := (sgP o s.1 s.2, sgK o s.2)
theorem dig_c (ht : Tok n mo c) {s : Nat × Bool} (h : Rc n mo c s.1 s.2 u) {k : Nat} (hk : k < 256) : ∃ v, fX5_digit (nI k) u = some (nI (sgV (sgO n mo c 48 k s.1) s.2), v) ∧ Rc n mo c (stp (sgO n mo c 48 k s.1) s).1 (stp (sgO n mo c 48 k s.1) s).2 v ∧ Fc u v := by
  obtain ⟨v, e1, h1, f1⟩ := sign_c' ht h (lo := 48) (k := k) (by decide) hk
  unfold fX5_digit
  rw [show (48 : Int32) = nI 48 from rfl, e1, oBs]
  exact ⟨v, rfl, h1, f1⟩
theorem dig0_m (ht : Tok n mo c) (h : Rm n mo c p u) {k : Nat} (hk : 1 ≤ k) (hk2 : k ≤ 10) : ∃ v, fX12_digitIn 0 (nI k - 1) u = some (hV (sgO n mo c 48 k p), v) ∧ Rm n mo c (adv (sgO n mo c 48 k p) p) v ∧ Fdm u v := by
  obtain ⟨v, e1, h1, f1⟩ := dig_m ht h (lo := 0) (k := k) hk (by omega)
  refine ⟨v, ?_, h1, f1⟩
  rw [Nat.zero_add] at e1
  rw [show (0 : Int32) = nI 0 from rfl, e1]
  cases sgO n mo c (48 + 0) k p <;> rfl
/-- the field read from a place -/
def fS1 (n mo : Nat) (c : Nat → Nat) (R : Nat) (s : Nat × Bool) : Nat × Bool := stp (sgO n mo c 48 R s.1) s
def fS2 (n mo : Nat) (c : Nat → Nat) (R C : Nat) (s : Nat × Bool) : Nat × Bool := stp (sgO n mo c 48 C (fS1 n mo c R s).1) (fS1 n mo c R s)
def fVl (n mo : Nat) (c : Nat → Nat) (R C : Nat) (s : Nat × Bool) : Nat := sgV (sgO n mo c 48 R s.1) s.2 * C + sgV (sgO n mo c 48 C (fS1 n mo c R s).1) (fS1 n mo c R s).2
theorem field_c (ht : Tok n mo c) {R C : Nat} {s : Nat × Bool} (h : Rc n mo c s.1 s.2 u) (hR : gI u 3 0 = nI R) (hC : gI u 3 1 = nI C) (hR6 : R ≤ 6) (hC6 : C ≤ 6) : ∃ v, fX8_readField u = some (nI (fVl n mo c R C s), v) ∧ Rc n mo c (fS2 n mo c R C s).1 (fS2 n mo c R C s).2 v ∧ Fc u v := by
  obtain ⟨v, e1, h1, f1⟩ := dig_c ht h (k := R) (by omega)
  obtain ⟨v2, e2, h2, f2⟩ := dig_c ht (s := fS1 n mo c R s) h1 (k := C) (by omega)
  unfold fX8_readField
  rw [hR, e1, oBs, show gI v 3 1 = nI C from (f1.i 3 1 rfl).trans hC, e2, oBs, pk_mul, nI_add]
  exact ⟨v2, rfl, h2, f1.trans f2⟩
theorem sg_y {o : Option Nat} {s : Nat × Bool} (h : (stp o s).2 = true) : s.2 = true ∧ ∃ x, o = some x ∧ sgV o s.2 = x ∧ (stp o s).1 = s.1 + 1 := by
  unfold stp sgK at h
  rw [Bool.and_eq_true] at h
  cases o with
  | none => cases h.2
  | some x => exact ⟨h.1, x, rfl, by unfold sgV; rw [h.1]; rfl, by unfold stp sgP; rw [h.1]; rfl⟩
theorem sg_f {o : Option Nat} {s : Nat × Bool} (h : s.2 = false) : stp o s = s := by
  unfold stp sgP sgK; rw [h]; exact Prod.ext rfl h.symm
theorem sg_n {s : Nat × Bool} : (stp none s).1 = s.1 ∧ (stp none s).2 = false := by
  unfold stp sgP sgK
  constructor
  · show (if (s.2 && false) = true then s.1 + 1 else s.1) = s.1
    rw [Bool.and_false, if_neg (by decide)]
  · exact Bool.and_false _
theorem f_lt {R C : Nat} {s : Nat × Bool} (h : (fS2 n mo c R C s).2 = true) : fVl n mo c R C s < R * C := by
  obtain ⟨a1, x, ex, ex2, _⟩ := sg_y h
  obtain ⟨_, y, ey, ey2, _⟩ := sg_y a1
  unfold fVl
  rw [ex2, ey2]
  obtain ⟨_, b1, b2, b3⟩ := sg_hp ex
  obtain ⟨_, d1, d2, d3⟩ := sg_hp ey
  have h1 : y < R := by omega
  have h2 : x < C := by omega
  calc y * C + x < y * C + C := by omega
    _ = (y + 1) * C := by rw [Nat.add_mul, Nat.one_mul]
    _ ≤ R * C := Nat.mul_le_mul_right C h1
theorem field_m (ht : Tok n mo c) {R C : Nat} (h : Rm n mo c p u) (hR : gI u 47 3 = nI R) (hC : gI u 47 4 = nI C) (hR1 : 1 ≤ R) (hR6 : R ≤ 6) (hC1 : 1 ≤ C) (hC6 : C ≤ 6) : ∃ v, fX12_readsField u = some (if (fS2 n mo c R C (p, true)).2 then nI (fVl n mo c R C (p, true)) else -1, v) ∧ Rm n mo c (fS2 n mo c R C (p, true)).1 v ∧ Fdm u v := by
  obtain ⟨v, e1, h1, f1⟩ := dig0_m ht h hR1 (show R ≤ 10 by omega)
  unfold fX12_readsField fX12_readsField_31
  rw [hR, e1, oBs]
  unfold fS2
  cases ho : sgO n mo c 48 R p with
  | none =>
    have e0 : fS1 n mo c R (p, true) = (p, false) := by unfold fS1; rw [show sgO n mo c 48 R (p, true).1 = none from ho]; rfl
    rw [ho] at h1
    rw [if_neg (show ¬ 0 ≤ hV none by decide), e0, sg_f (s := (p, false)) rfl, if_neg (show ¬ (0 : Int32) ≤ -1 by decide)]
    exact ⟨v, rfl, h1, f1⟩
  | some a =>
    obtain ⟨a0, a1, a2, a3⟩ := sg_hp ho
    have e0 : fS1 n mo c R (p, true) = (p + 1, true) := by unfold fS1; rw [show sgO n mo c 48 R (p, true).1 = some a from ho]; rfl
    rw [ho] at h1
    have h1' : Rm n mo c (p + 1) v := h1
    obtain ⟨v2, e2, h2, f2⟩ := dig0_m ht h1' hC1 (show C ≤ 10 by omega)
    rw [if_pos (show 0 ≤ hV (some a) from nI_pos' (by omega)), show gI v 47 4 = nI C from (f1.i 47 4 rfl).trans hC, e2, oBs, e0]
    cases ho2 : sgO n mo c 48 C (p + 1) with
    | none =>
      rw [ho2] at h2
      rw [if_neg (show ¬ 0 ≤ hV none by decide)]
      refine ⟨v2, ?_, ?_, f1.trans f2⟩
      · rfl
      · exact h2
    | some b =>
      obtain ⟨b0, b1, b2, b3⟩ := sg_hp ho2
      rw [ho2] at h2
      rw [if_pos (show 0 ≤ hV (some b) from nI_pos' (by omega)), show gI v2 47 4 = nI C from (f2.i 47 4 rfl).trans ((f1.i 47 4 rfl).trans hC)]
      refine ⟨v2, ?_, ?_, f1.trans f2⟩
      · rw [show (stp (some b) (p + 1, true)).2 = true from rfl, if_pos rfl, show hV (some a) = nI a from rfl, show hV (some b) = nI b from rfl, pk_mul, nI_add]
        have : fVl n mo c R C (p, true) = a * C + b := by
          unfold fVl
          rw [e0, show sgO n mo c 48 R (p, true).1 = some a from ho, show sgO n mo c 48 C (p + 1, true).1 = some b from ho2]; rfl
        rw [this, Nat.mul_comm C a]
      · exact h2
/-! a line of a room -/
def roS (n mo : Nat) (c : Nat → Nat) (R C : Nat) (q : Nat) : Nat × Bool := stp (sgO n mo c 48 10 (fS2 n mo c R C (q, true)).1) (fS2 n mo c R C (q, true))
def roG (n mo : Nat) (c : Nat → Nat) (R C : Nat) (q : Nat) : Nat := sgV (sgO n mo c 48 10 (fS2 n mo c R C (q, true)).1) (fS2 n mo c R C (q, true)).2
def roF (n mo : Nat) (c : Nat → Nat) (R C : Nat) (q : Nat) : Nat := fVl n mo c R C (q, true)
theorem ro_lt {R C q : Nat} (h : (roS n mo c R C q).2 = true) : roF n mo c R C q < R * C ∧ roG n mo c R C q < 10 := by
  obtain ⟨a1, x, ex, ex2, _⟩ := sg_y h
  obtain ⟨_, b1, b2, b3⟩ := sg_hp ex
  exact ⟨f_lt a1, by unfold roG; rw [ex2]; omega⟩
theorem upd_lo {f : Nat → Int32} {b i j : Nat} {x : Int32} (h : j < b) : upd f (b + i) x j = f j := pk_un (by omega)
def RoI (n mo : Nat) (c : Nat → Nat) (R C b : Nat) (f g : Nat → Int32) (i : Nat) : Prop := ∀ j, j < i → f (b + j) = nI (roF n mo c R C (stN (roS n mo c R C) j)) ∧ g (b + j) = nI (roG n mo c R C (stN (roS n mo c R C) j))
theorem rooms_c (ht : Tok n mo c) {R C b : Nat} (h0 : Rc n mo c 0 true u) (hR : gI u 3 0 = nI R) (hC : gI u 3 1 = nI C) (hb : gI u 3 4 = nI b) (hR6 : R ≤ 6) (hC6 : C ≤ 6) (hb4 : b ≤ 4) : ∃ w, fX8_readRooms u = some (anV n (runL (roS n mo c R C) (fun q => htB n mo c q 59) (4 - b) 0).2.1 (runL (roS n mo c R C) (fun q => htB n mo c q 59) (4 - b) 0).2.2 (nI (runL (roS n mo c R C) (fun q => htB n mo c q 59) (4 - b) 0).1), w) ∧ (((runL (roS n mo c R C) (fun q => htB n mo c q 59) (4 - b) 0).2.2 && decide ((runL (roS n mo c R C) (fun q => htB n mo c q 59) (4 - b) 0).2.1 = n)) = true → gI w 3 4 = nI (b + (runL (roS n mo c R C) (fun q => htB n mo c q 59) (4 - b) 0).1) ∧ RoI n mo c R C b (w.2.1 20) (w.2.1 21) (runL (roS n mo c R C) (fun q => htB n mo c q 59) (4 - b) 0).1) ∧ (((runL (roS n mo c R C) (fun q => htB n mo c q 59) (4 - b) 0).2.2 && decide ((runL (roS n mo c R C) (fun q => htB n mo c q 59) (4 - b) 0).2.1 = n)) = false → gI w 3 4 = nI b) ∧ (∀ j, j < b → w.2.1 20 j = u.2.1 20 j ∧ w.2.1 21 j = u.2.1 21 j) ∧ Fm [(2, 2), (2, 3), (3, 4)] [20, 21] [] u w := by
  have key := lines_c (lpf := roS n mo c R C) (n := n) (mo := mo) (c := c) (fun f x y w => fX8_readRooms_7 f x y w) (fun x y w => fX8_readRooms_50 x y w) 4 b (by omega) hb4 (fun i w => RoI n mo c R C b (w.2.1 20) (w.2.1 21) i) (fun w => Fm [(2, 2), (2, 3)] [20, 21] [] u w ∧ ∀ j, j < b → w.2.1 20 j = u.2.1 20 j ∧ w.2.1 21 j = u.2.1 21 j) (fun f x w => by rw [fX8_readRooms_7, if_pos rfl]) (fun f w => by rw [fX8_readRooms_7, if_neg (by decide), if_pos (show (4 : Int32) ≤ nI 4 by decide)]) (fun f i w hi hr hx hg => by
    obtain ⟨hf, hlo⟩ := hg
    have i4 := inb_nI (show b + i < 4 by omega) (show 4 < 2 ^ 31 by decide)
    obtain ⟨v1, e1, r1, f1⟩ := field_c ht (s := (stN (roS n mo c R C) i, true)) hr ((hf.i 3 0 rfl).trans hR) ((hf.i 3 1 rfl).trans hC) hR6 hC6
    have r1' : Rc n mo c (fS2 n mo c R C (stN (roS n mo c R C) i, true)).1 (fS2 n mo c R C (stN (roS n mo c R C) i, true)).2 (sA v1 20 (nI (b + i)) (nI (fVl n mo c R C (stN (roS n mo c R C) i, true)))) := r1.fm (a := []) (b := [20]) (d := []) (Fm.rf.sA rfl) rfl rfl
    obtain ⟨v2, e2, r2, f2⟩ := dig_c ht (s := fS2 n mo c R C (stN (roS n mo c R C) i, true)) r1' (k := 10) (by decide)
    have r2' : Rc n mo c (roS n mo c R C (stN (roS n mo c R C) i)).1 (roS n mo c R C (stN (roS n mo c R C) i)).2 (sA v2 21 (nI (b + i)) (nI (roG n mo c R C (stN (roS n mo c R C) i)))) := r2.fm (a := []) (b := [21]) (d := []) (Fm.rf.sA rfl) rfl rfl
    obtain ⟨v3, e3, r3, f3⟩ := more_c ht r2'
    have e20 : v3.2.1 20 = upd (w.2.1 20) (b + i) (nI (roF n mo c R C (stN (roS n mo c R C) i))) := by
      rw [f3.a 20 rfl]
      show v2.2.1 20 = _
      rw [f2.a 20 rfl]
      show upd (v1.2.1 20) (nI (b + i)).toNatClampNeg _ = _
      rw [nI_clamp (by omega), f1.a 20 rfl]; rfl
    have e21 : v3.2.1 21 = upd (w.2.1 21) (b + i) (nI (roG n mo c R C (stN (roS n mo c R C) i))) := by
      rw [f3.a 21 rfl]
      show upd (v2.2.1 21) (nI (b + i)).toNatClampNeg _ = _
      rw [nI_clamp (by omega), f2.a 21 rfl]
      show upd (v1.2.1 21) _ _ = _
      rw [f1.a 21 rfl]
    refine ⟨v3, ?_, r3, fun hk => fun j hj => ?_, ⟨?_, fun j hj => ?_⟩⟩
    · rw [fX8_readRooms_7, if_neg (by decide), if_neg (show ¬ (4 : Int32) ≤ nI (b + i) from nI_ge (b := 4) (by omega) (by omega)), e1, oBs, gd_t i4, nxs, show (10 : Int32) = nI 10 from rfl, e2, oBs, gd_t i4, nxs, show sgV (sgO n mo c 48 10 (fS2 n mo c R C (stN (roS n mo c R C) i, true)).1) (fS2 n mo c R C (stN (roS n mo c R C) i, true)).2 = roG n mo c R C (stN (roS n mo c R C) i) from rfl, e3, oBs, nI_1]
    · rw [e20, e21]
      by_cases ej : j = i
      · subst ej; rw [pk_us, pk_us]; exact ⟨rfl, rfl⟩
      · rw [pk_un (by omega), pk_un (by omega)]; exact hx j (by omega)
    · exact (((((hf.trans (f1.mono rfl rfl rfl)).sA rfl).trans (f2.mono rfl rfl rfl)).sA rfl).trans (f3.mono rfl rfl rfl))
    · rw [e20, e21, upd_lo hj, upd_lo hj]; exact hlo j hj) h0 (fun j hj => absurd hj (Nat.not_lt_zero j)) ⟨Fm.rf, fun j hj => ⟨rfl, rfl⟩⟩
  obtain ⟨last, more, w, e1, q, okq, rc, eq, han, hok, ⟨hf, hlo⟩, hl9⟩ := key
  generalize hRR : runL (roS n mo c R C) (fun q => htB n mo c q 59) (4 - b) 0 = RR at eq han hok
  obtain ⟨w1, d1, rd, fd⟩ := dem_c ht.1 rc (!more)
  obtain ⟨w2, a2, fa⟩ := answer_c ht.1 rd (nI last - nI b)
  have eb1 : gI w1 3 4 = nI b := (fd.i 3 4 rfl).trans ((hf.i 3 4 rfl).trans hb)
  have eb2 : gI w2 3 4 = nI b := (fa.i 3 4 rfl).trans eb1
  have e50 : fX8_readRooms_50 (nI last) (bI more) w = some (anV n q (okq && !more) (nI last - nI b), sI w2 3 4 (nI b + (if (0 : Int32) < anV n q (okq && !more) (nI last - nI b) then anV n q (okq && !more) (nI last - nI b) else 0))) := by
    unfold fX8_readRooms_50 fX8_readRooms_60
    cases more with
    | false =>
      rw [if_pos (show bI false = 0 from rfl), show (1 : Int32) = bI (!false) from rfl, d1, oBs, eb1, a2, oBs, eb2, nxs]
    | true =>
      rw [if_neg (show ¬ bI true = 0 by decide), show fX5_demand 0 w = fX5_demand (bI (!true)) w from rfl, d1, oBs, eb1, a2, oBs, eb2, nxs]
  have hfull : Fm [(2, 2), (2, 3), (3, 4)] [20, 21] [] u w2 := ((hf.mono rfl rfl rfl).trans (fd.mono rfl rfl rfl)).trans (fa.mono rfl rfl rfl)
  have rows : w2.2.1 20 = w.2.1 20 ∧ w2.2.1 21 = w.2.1 21 := ⟨(fa.a 20 rfl).trans (fd.a 20 rfl), (fa.a 21 rfl).trans (fd.a 21 rfl)⟩
  have eread : fX8_readRooms u = some (anV n q (okq && !more) (nI last - nI b), sI w2 3 4 (nI b + (if (0 : Int32) < anV n q (okq && !more) (nI last - nI b) then anV n q (okq && !more) (nI last - nI b) else 0))) := by
    unfold fX8_readRooms
    rw [hb]
    exact e1.trans e50
  cases hs : (RR.2.2 && decide (RR.2.1 = n)) with
  | true =>
    rw [Bool.and_eq_true] at hs
    obtain ⟨l1, l2⟩ := hok hs.1
    have hRm : nI last - nI b = nI RR.1 := by rw [l1, pk_sub (by omega), Nat.add_sub_cancel_left]
    have hv : anV n q (okq && !more) (nI last - nI b) = nI RR.1 := by
      rw [han, hRm]; unfold anV; rw [hs.1, eq, hs.2]; rfl
    have hv2 : anV n RR.2.1 RR.2.2 (nI RR.1) = nI RR.1 := by unfold anV; rw [hs.1, hs.2]; rfl
    have hadd : nI b + (if (0 : Int32) < nI RR.1 then nI RR.1 else 0) = nI (b + RR.1) := by
      by_cases hz : RR.1 = 0
      · rw [hz]; exact ad0 b
      · rw [if_pos (show (0 : Int32) < nI RR.1 from nI_lt (a := 0) (by omega) (by omega)), nI_add]
    refine ⟨sI w2 3 4 (nI (b + RR.1)), (by rw [eread, hv, hv2, hadd]), (fun _ => ⟨rfl, ?_⟩), (fun h => by cases h), (fun j hj => ?_), hfull.sI rfl⟩
    · show RoI n mo c R C b (w2.2.1 20) (w2.2.1 21) RR.1
      rw [rows.1, rows.2]; exact l2
    · show w2.2.1 20 j = _ ∧ w2.2.1 21 j = _
      rw [rows.1, rows.2]; exact hlo j hj
  | false =>
    have hv : anV n q (okq && !more) (nI last - nI b) = -1 - nI q := by
      rw [han]; unfold anV; rw [eq, hs]; rfl
    have hv2 : anV n RR.2.1 RR.2.2 (nI RR.1) = -1 - nI q := by unfold anV; rw [hs, eq]; rfl
    have hqle : q ≤ 80 := by have := rc.2.2.2; have := ht.1; omega
    have hneg : ¬ (0 : Int32) < -1 - nI q := n_lt.mpr (neg_le q hqle)
    refine ⟨sI w2 3 4 (nI b), (by rw [eread, hv, hv2, if_neg hneg, ad0]), (fun h => by cases h), (fun _ => rfl), (fun j hj => ?_), hfull.sI rfl⟩
    show w2.2.1 20 j = _ ∧ w2.2.1 21 j = _
    rw [rows.1, rows.2]; exact hlo j hj
/-! rooms: the model -/
def RoM (n mo : Nat) (c : Nat → Nat) (R C : Nat) (f : Nat → Int32) (i : Nat) : Prop := ∀ j, j < i → f (2 * j) = nI (roF n mo c R C (stN (roS n mo c R C) j)) ∧ f (2 * j + 1) = nI (roG n mo c R C (stN (roS n mo c R C) j))
theorem hV_neg : hV none < 0 := by decide
theorem adv_stp {o : Option Nat} {q : Nat} : adv o q = (stp o (q, true)).1 := by cases o <;> rfl
theorem room57 {i : Nat} (hi : i < 4) {o : Option Nat} (ho : ∀ x, o = some x → x < 10) {w : US} : ∃ v, fX12_readsRoom_57 (nI (2 * i)) (nI (2 * i + 1)) (hV o) w = some (bI o.isSome, v) ∧ v = sI (sA w 58 (nI (2 * i + 1)) (hV o)) 47 23 (gI w 47 23 + 1) := by
  unfold fX12_readsRoom_57
  have i1 := inb_nI (show 2 * i + 1 < 32 by omega) (show 32 < 2 ^ 31 by decide)
  rw [gd_t i1, nxs, nxs, nI_1, gd_t i1]
  have eg : gA (sI (sA w 58 (nI (2 * i + 1)) (hV o)) 47 23 (gI (sA w 58 (nI (2 * i + 1)) (hV o)) 47 23 + 1)) 58 (nI (2 * i + 1)) = hV o := by
    show upd (w.2.1 58) (nI (2 * i + 1)).toNatClampNeg (hV o) (nI (2 * i + 1)).toNatClampNeg = hV o
    rw [pk_us]
  rw [eg]
  cases o with
  | none => rw [if_pos hV_neg]; exact ⟨_, rfl, rfl⟩
  | some x => rw [if_neg (show ¬ hV (some x) < 0 from nI_pos (n := x) (by have := ho x rfl; omega))]; exact ⟨_, rfl, rfl⟩
theorem room_m (ht : Tok n mo c) {R C b i q : Nat} {w : US} (h : Rm n mo c q w) (hR : gI w 47 3 = nI R) (hC : gI w 47 4 = nI C) (hb : gI w 47 7 = nI b) (h23 : gI w 47 23 = nI i) (hR1 : 1 ≤ R) (hR6 : R ≤ 6) (hC1 : 1 ≤ C) (hC6 : C ≤ 6) (hbi : b + i < 4) : ∃ v, fX12_readsLine 2 w = some (bI (roS n mo c R C q).2, v) ∧ Rm n mo c (roS n mo c R C q).1 v ∧ gI v 47 23 = nI (i + 1) ∧ (∀ j, j < 2 * i → v.2.1 58 j = w.2.1 58 j) ∧ ((roS n mo c R C q).2 = true → v.2.1 58 (2 * i) = nI (roF n mo c R C q) ∧ v.2.1 58 (2 * i + 1) = nI (roG n mo c R C q)) ∧ Fm [(47, 19), (47, 23)] [58] [] w v := by
  obtain ⟨v1, e1, m1, f1⟩ := field_m ht h hR hC hR1 hR6 hC1 hC6
  have i0 := inb_nI (show 2 * i < 32 by omega) (show 32 < 2 ^ 31 by decide)
  have e2i : (2 : Int32) * nI i = nI (2 * i) := pk_mul 2 i
  have hne : ¬ nI b + nI i = 4 := by rw [nI_add]; exact fun x => (by have := congrArg Int32.toInt x; rw [nI_toInt (by omega)] at this; have h4 : (4 : Int32).toInt = 4 := rfl; omega)
  unfold fX12_readsLine
  rw [if_neg (by decide), if_neg (by decide)]
  unfold fX12_readsRoom
  rw [hb, h23, if_neg hne, e1, oBs, e2i, gd_t i0, nxs, gd_t i0, nI_1]
  have eg : gA (sA v1 58 (nI (2 * i)) (if (fS2 n mo c R C (q, true)).2 = true then nI (fVl n mo c R C (q, true)) else -1)) 58 (nI (2 * i)) = (if (fS2 n mo c R C (q, true)).2 = true then nI (fVl n mo c R C (q, true)) else -1) := by
    show upd (v1.2.1 58) (nI (2 * i)).toNatClampNeg _ (nI (2 * i)).toNatClampNeg = _
    rw [pk_us]
  rw [eg]
  have m1' : Rm n mo c (fS2 n mo c R C (q, true)).1 (sA v1 58 (nI (2 * i)) (if (fS2 n mo c R C (q, true)).2 = true then nI (fVl n mo c R C (q, true)) else -1)) := m1.fm (a := []) (b := [58]) (d := []) (Fm.rf.sA rfl) rfl rfl
  cases hk : (fS2 n mo c R C (q, true)).2 with
  | false =>
    rw [hk] at m1'
    rw [if_neg (show ¬ false = true by decide), if_neg (show ¬ (0 : Int32) ≤ -1 by decide)]
    rw [if_neg (show ¬ false = true by decide)] at m1'
    obtain ⟨v, e3, ev⟩ := room57 (i := i) (by omega) (o := none) (fun x hx => by cases hx) (w := sA v1 58 (nI (2 * i)) (-1))
    have es : roS n mo c R C q = fS2 n mo c R C (q, true) := sg_f hk
    rw [show (-1 : Int32) = hV none from rfl] at e3 ⊢
    rw [e3, oBs, gd_t (isB_bI _), es, hk]
    refine ⟨v, rfl, ?_, ?_, fun j hj => ?_, (fun x => by cases x), ?_⟩
    · rw [ev]; exact m1'.fm (a := [(47, 23)]) (b := [58]) (d := []) ((Fm.rf.sA rfl).sI rfl) rfl rfl
    · rw [ev]
      show gI v1 47 23 + 1 = _
      rw [show gI v1 47 23 = nI i from (f1.i 47 23 rfl).trans h23, nI_1]
    · rw [ev]
      show upd (upd (v1.2.1 58) (nI (2 * i)).toNatClampNeg _) (nI (2 * i + 1)).toNatClampNeg _ j = _
      rw [nI_clamp (by omega), nI_clamp (by omega), pk_un (by omega), pk_un (by omega), f1.a 58 rfl]
    · rw [ev]; exact (((f1.mono rfl rfl rfl).sA rfl).sA rfl).sI rfl
  | true =>
    rw [hk, if_pos rfl] at m1'
    rw [if_pos rfl]
    have hlt := f_lt (n := n) (mo := mo) (c := c) (R := R) (C := C) (s := (q, true)) hk
    have h36 : R * C ≤ 36 := Nat.mul_le_mul hR6 hC6
    rw [if_pos (nI_pos' (n := fVl n mo c R C (q, true)) (by omega))]
    obtain ⟨v2, e2, m2, f2⟩ := num1_m ht m1'
    rw [e2, oBs]
    have e23 : (fS2 n mo c R C (q, true)) = ((fS2 n mo c R C (q, true)).1, true) := Prod.ext rfl hk
    obtain ⟨v, e3, ev⟩ := room57 (i := i) (by omega) (o := sgO n mo c 48 10 (fS2 n mo c R C (q, true)).1) (fun x hx => by obtain ⟨_, b1, b2, b3⟩ := sg_hp hx; omega) (w := v2)
    rw [e3, oBs, gd_t (isB_bI _)]
    have es : (roS n mo c R C q).2 = (sgO n mo c 48 10 (fS2 n mo c R C (q, true)).1).isSome := by
      unfold roS
      show sgK _ (fS2 n mo c R C (q, true)).2 = _
      rw [hk]; unfold sgK; rw [Bool.true_and]
    have es1 : (roS n mo c R C q).1 = adv (sgO n mo c 48 10 (fS2 n mo c R C (q, true)).1) (fS2 n mo c R C (q, true)).1 := by
      unfold roS
      show sgP _ (fS2 n mo c R C (q, true)).1 (fS2 n mo c R C (q, true)).2 = _
      rw [hk]; cases sgO n mo c 48 10 (fS2 n mo c R C (q, true)).1 <;> rfl
    have e58 : v.2.1 58 = upd (upd (w.2.1 58) (2 * i) (nI (fVl n mo c R C (q, true)))) (2 * i + 1) (hV (sgO n mo c 48 10 (fS2 n mo c R C (q, true)).1)) := by
      rw [ev]
      show upd (v2.2.1 58) (nI (2 * i + 1)).toNatClampNeg _ = _
      rw [nI_clamp (by omega), f2.a 58 rfl]
      show upd (upd (v1.2.1 58) (nI (2 * i)).toNatClampNeg _) _ _ = _
      rw [nI_clamp (by omega), f1.a 58 rfl]
    refine ⟨v, by rw [es], ?_, ?_, fun j hj => ?_, fun hx => ?_, ?_⟩
    · rw [ev, es1]; exact m2.fm (a := [(47, 23)]) (b := [58]) (d := []) ((Fm.rf.sA rfl).sI rfl) rfl rfl
    · rw [ev]
      show gI v2 47 23 + 1 = _
      rw [show gI v2 47 23 = nI i from (f2.i 47 23 rfl).trans ((f1.i 47 23 rfl).trans h23), nI_1]
    · rw [e58, pk_un (by omega), pk_un (by omega)]
    · rw [e58]
      obtain ⟨_, x, ex, ex2, _⟩ := sg_y hx
      constructor
      · rw [pk_un (by omega), pk_us]; rfl
      · rw [pk_us]
        unfold roG
        rw [ex2, ex]; rfl
    · rw [ev]; exact ((((f1.mono rfl rfl rfl).sA rfl).trans (f2.mono rfl rfl rfl)).sA rfl).sI rfl
/-! the town is new: the past is forgotten -/
def newI : List (Nat × Nat) := (7, 2) :: (7, 3) :: (47, 30) :: (47, 8) :: (1, 1) :: (47, 18) :: (3, 2) :: (3, 3) :: (3, 4) :: (47, 5) :: (47, 6) :: (47, 7) :: (4, 3) :: scrI
def newA : List Nat := 16 :: 17 :: 18 :: 19 :: 20 :: 21 :: 22 :: 23 :: 24 :: 49 :: 50 :: 51 :: 52 :: 53 :: 54 :: 55 :: scrA
def TwD (nt np nr : Nat) (v : US) : Prop := v.1 3 2 = nI nt ∧ v.1 47 5 = nI nt ∧ v.1 3 3 = nI np ∧ v.1 47 6 = nI np ∧ v.1 3 4 = nI nr ∧ v.1 47 7 = nI nr
def TwR (R C nt np nr : Nat) (v : US) : Prop := IRow nt 8 (v.2.1 16) (v.2.1 49) ∧ IRow nt 10 (v.2.1 17) (v.2.1 50) ∧ IRow np 10 (v.2.1 18) (v.2.1 51) ∧ IRow np 256 (v.2.1 19) (v.2.1 52) ∧ IRow nr (R * C) (v.2.1 20) (v.2.1 53) ∧ IRow nr 10 (v.2.1 21) (v.2.1 54)
def TwM (R C nt np nr : Nat) (v : US) : Prop := MomOK R C nt np nr (cMom (v.2.1 22) (v.2.1 23) (v.2.1 24) (v.1 4 3) (v.1 4 4)) ∧ MomEq nt np (cMom (v.2.1 22) (v.2.1 23) (v.2.1 24) (v.1 4 3) (v.1 4 4)) (v.2.1 55)
theorem Inv_new {k R C nt np nr nt' np' nr' : Nat} (h : InvD k u R C nt np nr) (hk : k ≤ 4000) (f : Fm newI newA scrJ u v) (e1 : v.1 1 1 = 0) (e2 : v.1 47 18 = 0) (e3 : v.1 7 3 = 0) (e4 : v.1 47 30 = 0) (e5 : v.1 7 2 = 0) (e6 : v.1 47 8 = u.1 47 8 + 1)
    (g1 : IDim R C nt' np' nr') (g2 : TwD nt' np' nr' v) (g3 : TwR R C nt' np' nr' v) (g4 : TwM R C nt' np' nr' v) : Inv (k + 1) v := by
  obtain ⟨h1, h2, h3, h4, h5, h6, h7, ⟨⟨cc, kb, q3, ec, hkb, ekb, q4⟩, hh⟩, h9, h10⟩ := h
  obtain ⟨a1, a2, a3, a4, a5⟩ := h2
  obtain ⟨b1, b2, b3, b4, b5, b6⟩ := g2
  refine ⟨R, C, nt', np', nr', g1, ⟨(f.i 3 0 rfl).trans a1, (f.i 47 3 rfl).trans a2, (f.i 3 1 rfl).trans a3, (f.i 47 4 rfl).trans a4, b1, b2, b3, b4, b5, b6⟩, ⟨0, (by omega), e1, e2, fun j hj => absurd hj (Nat.not_lt_zero j)⟩, g3, g4, ?_, ⟨0, (by omega), e3, e4, fun j hj => absurd hj (Nat.not_lt_zero j)⟩, ⟨⟨cc + 1, 0, (by omega), ?_, (by omega), e5, fun i hi => ?_⟩, ?_⟩, ?_, ?_⟩
  · rw [f.2.2.2, f.i 13 2 rfl, f.i 14 2 rfl, f.i 47 26 rfl, f.a 43 rfl, f.a 45 rfl, f.a 59 rfl]; exact h6
  · rw [e6, ec, nI_1]
  · obtain ⟨t1, ⟨d, t2, t3⟩, t4, t5⟩ := q4 i hi
    rw [f.a 82 rfl, f.a 83 rfl]
    refine ⟨t1, ⟨d, (by omega), t3⟩, ⟨fun h => by simp at h, fun h => ?_⟩, fun h => by simp at h⟩
    have hq := h.2
    rw [t3, e6, ec, nI_1] at hq
    have := congrArg Int32.toInt hq
    rw [nI_toInt (by omega), nI_toInt (by omega)] at this
    omega
  · rw [f.i 4 4 rfl, f.a 31 rfl, f.a 32 rfl]; exact IHr_mono hh
  · rw [f.i 8 1 rfl, f.i 47 1 rfl, f.j 33 rfl, f.j 48 rfl]; exact h9
  · rw [f.i 11 3 rfl, f.i 47 43 rfl, f.a 36 rfl, f.a 37 rfl, f.a 38 rfl, f.a 74 rfl, f.a 75 rfl, f.a 76 rfl]; exact h10
def keepI : List (Nat × Nat) := (1, 1) :: (47, 18) :: (3, 2) :: (3, 3) :: (3, 4) :: scrI
theorem Inv_keep {k R C nt np nr : Nat} (h : InvD k u R C nt np nr) (f : Fm keepI newA scrJ u v) (hx : ITx (v.1 1 1) (v.1 47 18) (v.2.1 15) (v.2.1 57)) (g2 : v.1 3 2 = nI nt ∧ v.1 3 3 = nI np ∧ v.1 3 4 = nI nr) (g3 : TwR R C nt np nr v) (g4 : TwM R C nt np nr v) : Inv (k + 1) v := by
  obtain ⟨h1, h2, h3, h4, h5, h6, h7, h8, h9, h10⟩ := h
  obtain ⟨a1, a2, a3, a4, a5, a6, a7, a8, a9, a10⟩ := h2
  refine ⟨R, C, nt, np, nr, h1, ⟨(f.i 3 0 rfl).trans a1, (f.i 47 3 rfl).trans a2, (f.i 3 1 rfl).trans a3, (f.i 47 4 rfl).trans a4, g2.1, (f.i 47 5 rfl).trans a6, g2.2.1, (f.i 47 6 rfl).trans a8, g2.2.2, (f.i 47 7 rfl).trans a10⟩, hx, g3, g4, ?_, ?_, ?_, ?_, ?_⟩
  · rw [f.2.2.2, f.i 13 2 rfl, f.i 14 2 rfl, f.i 47 26 rfl, f.a 43 rfl, f.a 45 rfl, f.a 59 rfl]; exact h6
  · rw [f.i 7 3 rfl, f.i 47 30 rfl, f.a 31 rfl, f.a 63 rfl]; exact h7
  · rw [f.i 7 2 rfl, f.i 47 8 rfl, f.a 32 rfl, f.a 82 rfl, f.a 83 rfl, f.a 84 rfl, f.i 4 4 rfl, f.a 31 rfl]; exact IKept_mono h8
  · rw [f.i 8 1 rfl, f.i 47 1 rfl, f.j 33 rfl, f.j 48 rfl]; exact h9
  · rw [f.i 11 3 rfl, f.i 47 43 rfl, f.a 36 rfl, f.a 37 rfl, f.a 38 rfl, f.a 74 rfl, f.a 75 rfl, f.a 76 rfl]; exact h10
theorem isNew_0 {w : US} (h : gI w 47 23 = 0) : fX12_isNew w = some (0, sI (sI w 47 30 (gI w 47 30)) 47 8 (gI w 47 8 + 0)) := by
  unfold fX12_isNew fX12_isNew_16 fX12_isNew_36 fX12_flag
  rw [h, if_pos (show (0 : Int32) ≤ 0 by decide), nxs, show gI (sI w 47 30 (gI w 47 30)) 47 23 = 0 from h, if_pos (show (0 : Int32) ≤ 0 by decide), if_pos rfl, oBs, nxs]
  rw [show gI (sI (sI w 47 30 (gI w 47 30)) 47 8 (gI (sI w 47 30 (gI w 47 30)) 47 8 + 0)) 47 23 = 0 from h]; rfl
theorem isNew_1 {w : US} {K : Nat} (h : gI w 47 23 = nI K) (hK : 0 < K) (hK2 : K ≤ 8) : fX12_isNew w = some (nI K, sI (sI w 47 30 0) 47 8 (gI w 47 8 + 1)) := by
  unfold fX12_isNew fX12_isNew_16 fX12_isNew_36 fX12_flag
  rw [h, if_neg (nI_nle hK (by omega)), nxs, show gI (sI w 47 30 0) 47 23 = nI K from h, if_neg (nI_nle hK (by omega)), if_neg (show ¬ (1 : Int32) = 0 by decide), oBs, nxs]
  rw [show gI (sI (sI w 47 30 0) 47 8 (gI (sI w 47 30 0) 47 8 + 1)) 47 23 = nI K from h]; rfl
theorem rooms21 {b K : Nat} (hb : b + K ≤ 4) (h7 : gI u 47 7 = nI b) (h23 : gI u 47 23 = nI K) (hK : 0 < K) : ∃ w, fX12_rooms_21 FU 0 u = some (nI K, sI (sI w 47 30 0) 47 8 (gI w 47 8 + 1)) ∧ gI w 47 7 = nI (b + K) ∧ (∀ j, j < b → w.2.1 53 j = u.2.1 53 j ∧ w.2.1 54 j = u.2.1 54 j) ∧ (∀ j, j < K → w.2.1 53 (b + j) = u.2.1 58 (2 * j) ∧ w.2.1 54 (b + j) = u.2.1 58 (2 * j + 1)) ∧ Fm [(47, 7)] [53, 54] [] u w := by
  refine lpE (fun f (z : Int32) w => fX12_rooms_21 f z w) K (fun i => nI i) (fun i w => gI w 47 7 = nI (b + i) ∧ (∀ j, j < b → w.2.1 53 j = u.2.1 53 j ∧ w.2.1 54 j = u.2.1 54 j) ∧ (∀ j, j < i → w.2.1 53 (b + j) = u.2.1 58 (2 * j) ∧ w.2.1 54 (b + j) = u.2.1 58 (2 * j + 1)) ∧ Fm [(47, 7)] [53, 54] [] u w) (fun o => ∃ w, o = some (nI K, sI (sI w 47 30 0) 47 8 (gI w 47 8 + 1)) ∧ gI w 47 7 = nI (b + K) ∧ (∀ j, j < b → w.2.1 53 j = u.2.1 53 j ∧ w.2.1 54 j = u.2.1 54 j) ∧ (∀ j, j < K → w.2.1 53 (b + j) = u.2.1 58 (2 * j) ∧ w.2.1 54 (b + j) = u.2.1 58 (2 * j + 1)) ∧ Fm [(47, 7)] [53, 54] [] u w) ?_ ?_ (by omega) 0 rfl ⟨h7, fun j hj => ⟨rfl, rfl⟩, fun j hj => absurd hj (Nat.not_lt_zero j), Fm.rf⟩
  · rintro f i w hi ⟨p7, plo, phi, pf⟩
    left
    have i0 := inb_nI (show 2 * i < 32 by omega) (show 32 < 2 ^ 31 by decide)
    have i1 := inb_nI (show 2 * i + 1 < 32 by omega) (show 32 < 2 ^ 31 by decide)
    have i4 := inb_nI (show b + i < 4 by omega) (show 4 < 2 ^ 31 by decide)
    have e58 : ∀ x, gA w 58 x = gA u 58 x := fun x => congrFun (pf.a 58 rfl) _
    rw [fX12_rooms_21, show gI w 47 23 = nI K from (pf.i 47 23 rfl).trans h23, if_neg (nI_ge hi (by omega)), show (2 : Int32) * nI i = nI (2 * i) from pk_mul 2 i, gd_t i0, p7, gd_t i4, nxs, nI_1, gd_t i1, show gI (sA w 53 (nI (b + i)) (gA w 58 (nI (2 * i)))) 47 7 = nI (b + i) from p7, gd_t i4, nxs, nxs, nI_1]
    refine ⟨_, ⟨?_, fun j hj => ⟨?_, ?_⟩, fun j hj => ⟨?_, ?_⟩, ((pf.sA rfl).sA rfl).sI rfl⟩, rfl⟩
    · show gI w 47 7 + 1 = _
      rw [p7, nI_1]; rfl
    · show upd (w.2.1 53) (nI (b + i)).toNatClampNeg _ j = _
      rw [nI_clamp (by omega), pk_un (by omega)]; exact (plo j hj).1
    · show upd (w.2.1 54) (nI (b + i)).toNatClampNeg _ j = _
      rw [nI_clamp (by omega), pk_un (by omega)]; exact (plo j hj).2
    · show upd (w.2.1 53) (nI (b + i)).toNatClampNeg _ (b + j) = _
      rw [nI_clamp (by omega)]
      by_cases q : j = i
      · subst q; rw [pk_us, e58]
        show u.2.1 58 (nI (2 * j)).toNatClampNeg = _
        rw [nI_clamp (by omega)]
      · rw [pk_un (by omega)]; exact (phi j (by omega)).1
    · show upd (w.2.1 54) (nI (b + i)).toNatClampNeg (gA w 58 (nI (2 * i + 1))) (b + j) = _
      rw [nI_clamp (by omega)]
      by_cases q : j = i
      · subst q; rw [pk_us, e58]
        show u.2.1 58 (nI (2 * j + 1)).toNatClampNeg = _
        rw [nI_clamp (by omega)]
      · rw [pk_un (by omega)]; exact (phi j (by omega)).2
  · rintro f w ⟨p7, plo, phi, pf⟩
    have p23 : gI w 47 23 = nI K := (pf.i 47 23 rfl).trans h23
    rw [fX12_rooms_21, p23, if_pos (nI_le (Nat.le_refl _) (by omega)), isNew_1 p23 hK (by omega), oBs]
    exact ⟨w, rfl, p7, plo, phi, pf⟩
/-! rooms: both sides -/
variable {lpf : Nat → Nat × Bool} {semi : Nat → Bool}
theorem run_ok {cap : Nat} : ∀ i, (runL lpf semi cap (stN lpf i)).2.2 = true → 1 ≤ (runL lpf semi cap (stN lpf i)).1 ∧ (runL lpf semi cap (stN lpf i)).1 ≤ cap ∧ ∀ j, j < (runL lpf semi cap (stN lpf i)).1 → (lpf (stN lpf (i + j))).2 = true := by
  induction cap with
  | zero => intro i h; cases h
  | succ f ih =>
    intro i h
    cases hk : (lpf (stN lpf i)).2 with
    | false => rw [run_no hk] at h; cases h
    | true =>
      cases hs : semi (lpf (stN lpf i)).1 with
      | false =>
        rw [run_end hk hs]
        refine ⟨Nat.le_refl 1, Nat.succ_le_succ (Nat.zero_le f), fun j hj => ?_⟩
        have : j = 0 := Nat.lt_one_iff.mp hj
        subst this; exact hk
      | true =>
        rw [run_go hk hs] at h ⊢
        have hh := ih (i + 1) h
        refine ⟨Nat.succ_le_succ (Nat.zero_le _), Nat.succ_le_succ hh.2.1, fun j hj => ?_⟩
        cases j with
        | zero => exact hk
        | succ j =>
          have := hh.2.2 j (Nat.lt_of_succ_lt_succ hj)
          rw [show i + (j + 1) = i + 1 + j by omega]; exact this
theorem sI_same {i k : Nat} {x : Int32} (h : x = gI u i k) : sI u i k x = u := by
  subst h
  unfold sI gI
  refine Prod.ext (funext fun a => funext fun b => ?_) rfl
  show (if a = i then (if b = k then u.1 i k else u.1 a b) else u.1 a b) = u.1 a b
  by_cases q : a = i
  · rw [if_pos q]
    by_cases q2 : b = k
    · rw [if_pos q2, q, q2]
    · rw [if_neg q2]
  · rw [if_neg q]
theorem readsL_0 (ht : Tok 0 mo c) {what : Int32} (hx : u.1 47 18 = nI 0 ∧ RowN 0 (u.2.1 57) c) : ∃ v, fX12_readsLines what (nI mo) u = some (0, v) ∧ gI v 47 23 = 0 ∧ gI v 47 18 = 0 ∧ Fm [(47, 18), (47, 19), (47, 20), (47, 21), (47, 23)] [] [] u v := by
  obtain ⟨v, e1, m1, z1, z2, f1⟩ := begins_m ht hx
  have m1' : Rm 0 mo c 0 (sI v 47 23 0) := m1.fm (a := [(47, 23)]) (b := []) (d := []) (Fm.rf.sI rfl) rfl rfl
  refine ⟨sI v 47 23 0, ?_, rfl, z1, (f1.mono rfl rfl rfl).sI rfl⟩
  unfold fX12_readsLines
  rw [e1, oBs, nxs, if_pos (show nI 0 ≤ 0 by decide), show FU = 4095 + 1 from rfl, fX12_readsLines_25, if_pos rfl, show (1 : Int32) = bI true from rfl, fault_m ht m1', oBs]
  rfl
theorem readsL_m (ht : Tok n mo c) {what : Int32} (cap : Nat) (hcap : cap ≤ 8) (hn0 : 0 < n) (hx : u.1 47 18 = nI n ∧ RowN n (u.2.1 57) c) (Ix : Nat → US → Prop) (G : US → Prop) (hGd : ∀ {w v}, G w → Fdm w v → G v) (hId : ∀ {i w v}, Ix i w → Fdm w v → Ix i v)
    (hB : ∀ w, gI w 47 23 = nI cap → G w → fX12_readsLine what w = some (0, w))
    (hC : ∀ i w, i < cap → gI w 47 23 = nI i → Rm n mo c (stN lpf i) w → Ix i w → G w → ∃ v, fX12_readsLine what w = some (bI (lpf (stN lpf i)).2, v) ∧ Rm n mo c (lpf (stN lpf i)).1 v ∧ gI v 47 23 = nI (i + 1) ∧ ((lpf (stN lpf i)).2 = true → Ix (i + 1) v) ∧ G v)
    (hG : ∀ v, Fm [(47, 18), (47, 19), (47, 20), (47, 21), (47, 23)] [] [] u v → gI v 47 18 = 0 → G v) (hI : ∀ v, Ix 0 v) : ∃ w, fX12_readsLines what (nI mo) u = some (anV n (runL lpf (fun q => htB n mo c q 59) cap 0).2.1 (runL lpf (fun q => htB n mo c q 59) cap 0).2.2 0, w) ∧ FinM n mo c (runL lpf (fun q => htB n mo c q 59) cap 0) Ix G w := by
  obtain ⟨v, e1, m1, z1, z2, f1⟩ := begins_m ht hx
  have m1' : Rm n mo c 0 (sI v 47 23 0) := m1.fm (a := [(47, 23)]) (b := []) (d := []) (Fm.rf.sI rfl) rfl rfl
  unfold fX12_readsLines
  rw [e1, oBs, nxs, if_neg (nI_nle hn0 (by have := ht.1; omega))]
  exact lines_m ht cap hcap hn0 Ix G hGd hId hB hC m1' rfl (hI _) (hG _ ((f1.mono rfl rfl rfl).sI rfl) z1)
theorem neg_nle (p : Nat) (hp : p ≤ 80) : ¬ (0 : Int32) ≤ -1 - nI p := by
  rw [fa_le, fb_subI (by rw [nI_toInt (by omega)]; have : (-1 : Int32).toInt = -1 := rfl; omega) (by rw [nI_toInt (by omega)]; have : (-1 : Int32).toInt = -1 := rfl; omega), nI_toInt (by omega)]
  have : (-1 : Int32).toInt = -1 := rfl
  have : (0 : Int32).toInt = 0 := rfl
  omega
def roRun (n : Nat) (c : Nat → Nat) (R C b : Nat) : Nat × Nat × Bool := runL (roS n 15 c R C) (fun q => htB n 15 c q 59) (4 - b) 0
theorem st_5 : St_5 Inv := by
  intro k u hk hI
  obtain ⟨n, c, hn, hc, hxc, hxm⟩ := tx_of hI
  have ht : Tok n 15 c := ⟨hn, by decide, hc⟩
  have hI' := hI
  obtain ⟨R, C, nt, np, nr, hD⟩ := hI'
  obtain ⟨⟨hR1, hR6, hC1, hC6, hnt, hnp, hnr⟩, ⟨d1, d2, d3, d4, d5, d6, d7, d8, d9, d10⟩, htx, hrow, hmom, hrest⟩ := id hD
  by_cases h0 : n = 0
  · subst h0
    have ec : fX11_rooms u = some (0, u) := by
      unfold fX11_rooms fX7_isEmpty
      rw [show gI u 1 1 = 0 from hxc.1, if_pos rfl, oBs, if_neg (by decide)]
    obtain ⟨v, e1, z23, z18, f1⟩ := readsL_0 (u := sI u 47 0 0) (what := 2) ht hxm
    have em : fX12_rooms u = some (0, v) := by
      unfold fX12_rooms
      rw [nxs, show (15 : Int32) = nI 15 from rfl, e1, oBs, if_pos (show (0 : Int32) ≤ 0 by decide), show FU = 4095 + 1 from rfl, fX12_rooms_21, z23, if_pos (show (0 : Int32) ≤ 0 by decide), isNew_0 z23, oBs, sI_same (u := v) rfl, sI_same (u := v) (Int32.add_zero _)]
    refine ⟨0, u, v, ec, em, Inv_gone hI ((((Fm.rf.sI rfl : Fg u (sI u 47 0 0))).trans (f1.mono rfl rfl rfl))) ((f1.i 1 1 rfl).trans hxc.1) z18⟩
  · have hn0 : 0 < n := Nat.pos_of_ne_zero h0
    obtain ⟨u2, e2, r2, f2⟩ := open_c (mo := 15) hxc
    obtain ⟨w3, e3, hy, hno, hlo, f3⟩ := rooms_c (R := R) (C := C) (b := nr) ht r2 ((f2.i 3 0 rfl).trans d1) ((f2.i 3 1 rfl).trans d3) ((f2.i 3 4 rfl).trans d9) hR6 hC6 hnr
    have ecl : fX11_rooms u = fX11_arrived (anV n (roRun n c R C nr).2.1 (roRun n c R C nr).2.2 (nI (roRun n c R C nr).1)) w3 := by
      unfold fX11_rooms fX7_isEmpty
      rw [show gI u 1 1 = nI n from hxc.1, if_neg (show ¬ nI n = 0 from fun q => by have := congrArg Int32.toInt q; rw [nI_toInt (by omega)] at this; have h4 : (0 : Int32).toInt = 0 := rfl; omega), oBs, if_pos rfl, show (15 : Int32) = nI 15 from rfl, e2, oVs, e3, oBs]
      unfold roRun fX11_arrived
      rw [show fX7_clear w3 = some (sI w3 1 1 0) from rfl, oVs]
      by_cases q : anV n (runL (roS n 15 c R C) (fun q => htB n 15 c q 59) (4 - nr) 0).2.1 (runL (roS n 15 c R C) (fun q => htB n 15 c q 59) (4 - nr) 0).2.2 (nI (runL (roS n 15 c R C) (fun q => htB n 15 c q 59) (4 - nr) 0).1) ≤ 0
      · rw [if_pos q]; rfl
      · rw [if_neg q]; rfl
    have fuw : Fm ((2, 1) :: (2, 2) :: (2, 3) :: (3, 4) :: []) [20, 21] [] u w3 := (f2.mono rfl rfl rfl).trans (f3.mono rfl rfl rfl)
    have hlo' : ∀ j, j < nr → w3.2.1 20 j = u.2.1 20 j ∧ w3.2.1 21 j = u.2.1 21 j := fun j hj => by
      have := hlo j hj
      rw [f2.a 20 rfl, f2.a 21 rfl] at this
      exact this
    -- the model reads
    have rd : ∀ w4 : US, Fm ((1, 1) :: (7, 2) :: (7, 3) :: (2, 1) :: (2, 2) :: (2, 3) :: (3, 4) :: []) [20, 21] [] u w4 → ∃ w5, fX12_readsLines 2 15 (sI w4 47 0 0) = some (anV n (roRun n c R C nr).2.1 (roRun n c R C nr).2.2 0, w5) ∧ FinM n 15 c (roRun n c R C nr) (fun i w => RoM n 15 c R C (w.2.1 58) i) (fun w => Fm [(47, 0), (47, 18), (47, 19), (47, 20), (47, 21), (47, 23)] [58] [] w4 w ∧ gI w 47 18 = 0) w5 := by
      intro w4 f4
      have hx4 : (sI w4 47 0 0).1 47 18 = nI n ∧ RowN n ((sI w4 47 0 0).2.1 57) c := ⟨(f4.i 47 18 rfl).trans hxm.1, by rw [show (sI w4 47 0 0).2.1 57 = w4.2.1 57 from rfl, f4.a 57 rfl]; exact hxm.2⟩
      refine readsL_m (lpf := roS n 15 c R C) ht (what := 2) (4 - nr) (by omega) hn0 hx4 _ _ (fun hg hf => ⟨hg.1.trans (hf.mono rfl rfl rfl), (hf.i 47 18 rfl).trans hg.2⟩) (fun hi hf => by rw [hf.a 58 rfl]; exact hi) ?_ ?_ (fun v hf h18 => ⟨(Fm.rf.sI rfl : Fm [(47, 0), (47, 18), (47, 19), (47, 20), (47, 21), (47, 23)] [58] [] w4 (sI w4 47 0 0)).trans (hf.mono rfl rfl rfl), h18⟩) (fun v j hj => absurd hj (Nat.not_lt_zero j))
      · rintro w h23 ⟨hg, _⟩
        unfold fX12_readsLine
        rw [if_neg (by decide), if_neg (by decide)]
        unfold fX12_readsRoom
        rw [show gI w 47 7 = nI nr from (hg.i 47 7 rfl).trans ((f4.i 47 7 rfl).trans d10), h23, if_pos (show nI nr + nI (4 - nr) = 4 by rw [nI_add, show nr + (4 - nr) = 4 by omega]; rfl), oBs, gd_t (show isB 0 = true by decide)]
      · rintro i w hi h23 hr hx ⟨hg, h18⟩
        obtain ⟨v, e5, r5, t5, lo5, hi5, f5⟩ := room_m ht (R := R) (C := C) (b := nr) (i := i) hr ((hg.i 47 3 rfl).trans ((f4.i 47 3 rfl).trans d2)) ((hg.i 47 4 rfl).trans ((f4.i 47 4 rfl).trans d4)) ((hg.i 47 7 rfl).trans ((f4.i 47 7 rfl).trans d10)) h23 hR1 hR6 hC1 hC6 (by omega)
        refine ⟨v, e5, r5, t5, fun hk j hj => ?_, hg.trans (f5.mono rfl rfl rfl), (f5.i 47 18 rfl).trans h18⟩
        by_cases q : j = i
        · subst q; exact hi5 hk
        · rw [lo5 (2 * j) (by omega), lo5 (2 * j + 1) (by omega)]; exact hx j (by omega)
    obtain ⟨t1, t2, t3, t4, t5, t6⟩ := hrow
    cases hs : ((roRun n c R C nr).2.2 && decide ((roRun n c R C nr).2.1 = n)) with
    | true =>
      have hs' := hs
      rw [Bool.and_eq_true] at hs'
      obtain ⟨K1, K2, K3⟩ := run_ok (lpf := roS n 15 c R C) (semi := fun q => htB n 15 c q 59) (cap := 4 - nr) 0 hs'.1
      obtain ⟨y1, y2⟩ := hy hs
      have av : ∀ x, anV n (roRun n c R C nr).2.1 (roRun n c R C nr).2.2 x = x := fun x => by unfold anV; rw [hs]; rfl
      have hK1 : 1 ≤ (roRun n c R C nr).1 := K1
      have hK2 : (roRun n c R C nr).1 ≤ 4 - nr := K2
      have ec : fX11_rooms u = some (nI (roRun n c R C nr).1, sI (sI (sI w3 1 1 0) 7 3 0) 7 2 0) := by
        rw [ecl, av]
        unfold fX11_arrived fX4_forgetAll
        rw [show fX7_clear w3 = some (sI w3 1 1 0) from rfl, oVs, if_neg (nI_nle hK1 (by omega)), nxs, nxs, oVs]
      have f4 : Fm ((1, 1) :: (7, 2) :: (7, 3) :: (2, 1) :: (2, 2) :: (2, 3) :: (3, 4) :: []) [20, 21] [] u (sI (sI (sI w3 1 1 0) 7 3 0) 7 2 0) := (((fuw.mono rfl rfl rfl).sI rfl).sI rfl).sI rfl
      obtain ⟨w4, hw4⟩ : ∃ w4, w4 = sI (sI (sI w3 1 1 0) 7 3 0) 7 2 0 := ⟨_, rfl⟩
      rw [← hw4] at ec f4
      obtain ⟨w5, e5, m5, x5, g5, g18⟩ := rd w4 f4
      obtain ⟨x23, x58⟩ := x5 hs'.1
      obtain ⟨w6, e6, n7, l6, h6, f6⟩ := rooms21 (b := nr) (K := (roRun n c R C nr).1) (by omega) ((g5.i 47 7 rfl).trans ((f4.i 47 7 rfl).trans d10)) x23 hK1
      have em : fX12_rooms w4 = some (nI (roRun n c R C nr).1, sI (sI w6 47 30 0) 47 8 (gI w6 47 8 + 1)) := by
        unfold fX12_rooms
        rw [nxs, e5, oBs, av, if_pos (show (0 : Int32) ≤ 0 by decide), e6]
      refine ⟨_, w4, _, ec, em, ?_⟩
      have f46 : Fm [(47, 0), (47, 7), (47, 18), (47, 19), (47, 20), (47, 21), (47, 23)] [53, 54, 58] [] w4 w6 := (g5.mono rfl rfl rfl).trans (f6.mono rfl rfl rfl)
      have fz : Fm [(1, 1), (7, 2), (7, 3), (2, 1), (2, 2), (2, 3), (3, 4), (47, 0), (47, 7), (47, 8), (47, 18), (47, 19), (47, 20), (47, 21), (47, 23), (47, 30)] [20, 21, 53, 54, 58] [] u (sI (sI w6 47 30 0) 47 8 (gI w6 47 8 + 1)) := (((f4.mono rfl rfl rfl).trans (f46.mono rfl rfl rfl)).sI rfl).sI rfl
      have z8 : w6.1 47 8 = u.1 47 8 := (f46.i 47 8 rfl).trans (f4.i 47 8 rfl)
      have e20 : w6.2.1 20 = w3.2.1 20 ∧ w6.2.1 21 = w3.2.1 21 := by
        rw [f46.a 20 rfl, f46.a 21 rfl, hw4]; exact ⟨rfl, rfl⟩
      have e53 : ∀ j, j < nr → w6.2.1 53 j = u.2.1 53 j ∧ w6.2.1 54 j = u.2.1 54 j := fun j hj => by
        have := l6 j hj
        rw [g5.a 53 rfl, g5.a 54 rfl, f4.a 53 rfl, f4.a 54 rfl] at this
        exact this
      have w40 : w4.1 1 1 = 0 ∧ w4.1 7 3 = 0 ∧ w4.1 7 2 = 0 ∧ w4.1 3 4 = nI (nr + (roRun n c R C nr).1) := by rw [hw4]; exact ⟨rfl, rfl, rfl, y1⟩
      have z20 : ∀ j, j < nr + (roRun n c R C nr).1 → (w6.2.1 20 j = w6.2.1 53 j ∧ ∃ a : Nat, a < R * C ∧ w6.2.1 20 j = nI a) ∧ (w6.2.1 21 j = w6.2.1 54 j ∧ ∃ a : Nat, a < 10 ∧ w6.2.1 21 j = nI a) := by
        intro j hj
        rw [e20.1, e20.2]
        by_cases q : j < nr
        · obtain ⟨o1, o2⟩ := hlo' j q
          obtain ⟨o3, o4⟩ := e53 j q
          rw [o1, o2, o3, o4]
          exact ⟨t5 j q, t6 j q⟩
        · obtain ⟨i, rfl⟩ : ∃ i, j = nr + i := ⟨j - nr, (by omega)⟩
          have hi : i < (roRun n c R C nr).1 := by omega
          obtain ⟨o1, o2⟩ := y2 i hi
          obtain ⟨o3, o4⟩ := h6 i hi
          obtain ⟨o5, o6⟩ := x58 i hi
          have o7 := K3 i hi
          rw [Nat.zero_add] at o7
          obtain ⟨b1, b2⟩ := ro_lt o7
          rw [o1, o2, o3, o4, o5, o6]
          exact ⟨⟨rfl, _, b1, rfl⟩, rfl, _, b2, rfl⟩
      obtain ⟨⟨q1, q2, q3, q4⟩, q5⟩ := hmom
      refine Inv_new (nt' := nt) (np' := np) (nr' := nr + (roRun n c R C nr).1) hD hk (fz.mono rfl rfl rfl) ((f46.i 1 1 rfl).trans w40.1) ((f6.i 47 18 rfl).trans g18) ((f46.i 7 3 rfl).trans w40.2.1) rfl ((f46.i 7 2 rfl).trans w40.2.2.1) ?_ ⟨hR1, hR6, hC1, hC6, hnt, hnp, (by omega)⟩ ⟨(fz.i 3 2 rfl).trans d5, (fz.i 47 5 rfl).trans d6, (fz.i 3 3 rfl).trans d7, (fz.i 47 6 rfl).trans d8, (f46.i 3 4 rfl).trans w40.2.2.2, n7⟩ ⟨?_, ?_, ?_, ?_, fun j hj => (z20 j hj).1, fun j hj => (z20 j hj).2⟩ ?_
      · show gI w6 47 8 + 1 = u.1 47 8 + 1
        rw [show gI w6 47 8 = u.1 47 8 from z8]
      · rw [fz.a 16 rfl, fz.a 49 rfl]; exact t1
      · rw [fz.a 17 rfl, fz.a 50 rfl]; exact t2
      · rw [fz.a 18 rfl, fz.a 51 rfl]; exact t3
      · rw [fz.a 19 rfl, fz.a 52 rfl]; exact t4
      · unfold TwM
        rw [fz.a 22 rfl, fz.a 23 rfl, fz.a 24 rfl, fz.a 55 rfl, fz.i 4 3 rfl, fz.i 4 4 rfl]
        refine ⟨⟨q1, q2, fun p hp => ?_, q4⟩, q5⟩
        rcases q3 p hp with h | ⟨a, h1, h2⟩
        · exact Or.inl h
        · exact Or.inr ⟨a, (by omega), h2⟩
    | false =>
      have av : ∀ x, anV n (roRun n c R C nr).2.1 (roRun n c R C nr).2.2 x = -1 - nI (roRun n c R C nr).2.1 := fun x => by unfold anV; rw [hs]; rfl
      have f4 : Fm ((1, 1) :: (7, 2) :: (7, 3) :: (2, 1) :: (2, 2) :: (2, 3) :: (3, 4) :: []) [20, 21] [] u (sI w3 1 1 0) := (fuw.mono rfl rfl rfl).sI rfl
      obtain ⟨w5, e5, m5, x5, g5, g18⟩ := rd _ f4
      have hq : (roRun n c R C nr).2.1 ≤ 80 := by have := m5.2.2; omega
      have ec : fX11_rooms u = some (-1 - nI (roRun n c R C nr).2.1, sI w3 1 1 0) := by
        rw [ecl, av]
        unfold fX11_arrived
        rw [show fX7_clear w3 = some (sI w3 1 1 0) from rfl, oVs, if_pos (neg_le _ hq)]
      have em : fX12_rooms (sI w3 1 1 0) = some (-1 - nI (roRun n c R C nr).2.1, w5) := by
        unfold fX12_rooms
        rw [nxs, e5, oBs, av, if_neg (neg_nle _ hq)]
      refine ⟨_, _, w5, ec, em, ?_⟩
      have fz : Fm [(1, 1), (2, 1), (2, 2), (2, 3), (3, 4), (47, 0), (47, 18), (47, 19), (47, 20), (47, 21), (47, 23)] [20, 21, 58] [] u w5 := ((fuw.mono rfl rfl rfl).sI rfl).trans (g5.mono rfl rfl rfl)
      refine Inv_keep hD (fz.mono rfl rfl rfl) ⟨0, (by omega), (g5.i 1 1 rfl).trans rfl, g18, fun j hj => absurd hj (Nat.not_lt_zero j)⟩ ⟨(fz.i 3 2 rfl).trans d5, (fz.i 3 3 rfl).trans d7, (g5.i 3 4 rfl).trans (hno hs)⟩ ⟨?_, ?_, ?_, ?_, fun j hj => ?_, fun j hj => ?_⟩ ?_
      · rw [fz.a 16 rfl, fz.a 49 rfl]; exact t1
      · rw [fz.a 17 rfl, fz.a 50 rfl]; exact t2
      · rw [fz.a 18 rfl, fz.a 51 rfl]; exact t3
      · rw [fz.a 19 rfl, fz.a 52 rfl]; exact t4
      · rw [fz.a 53 rfl, g5.a 20 rfl, show (sI w3 1 1 0).2.1 20 = w3.2.1 20 from rfl, (hlo' j hj).1]; exact t5 j hj
      · rw [fz.a 54 rfl, g5.a 21 rfl, show (sI w3 1 1 0).2.1 21 = w3.2.1 21 from rfl, (hlo' j hj).2]; exact t6 j hj
      · unfold TwM
        rw [fz.a 22 rfl, fz.a 23 rfl, fz.a 24 rfl, fz.a 55 rfl, fz.i 4 3 rfl, fz.i 4 4 rfl]; exact hmom
