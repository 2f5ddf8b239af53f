/-! reading the text on both sides -/
variable {D : DD} {m m' : MM} {e r : Nat} {u v : US} {n mo p : Nat} {c : Nat → Nat} {ok : Bool}
def Tok (n mo : Nat) (c : Nat → Nat) : Prop := n ≤ 80 ∧ mo ≤ 80 ∧ ∀ j, j < n → c j < 256
def Rc (n mo : Nat) (c : Nat → Nat) (p : Nat) (ok : Bool) (u : US) : Prop := (u.1 1 1 = nI n ∧ RowN n (u.2.1 15) c ∧ u.1 2 1 = nI mo) ∧ u.1 2 2 = nI p ∧ u.1 2 3 = (if ok then -1 else nI p) ∧ p ≤ min n mo
def Rm (n mo : Nat) (c : Nat → Nat) (p : Nat) (u : US) : Prop := (RowN n (u.2.1 57) c ∧ u.1 47 20 = nI (min n mo)) ∧ u.1 47 19 = nI p ∧ p ≤ min n mo
abbrev Fc (u v : US) : Prop := Fm [(2, 2), (2, 3)] [] [] u v
abbrev Fdm (u v : US) : Prop := Fm [(47, 19)] [] [] u v
theorem Rc.fm {a : List (Nat × Nat)} {b d : List Nat} (h : Rc n mo c p ok u) (f : Fm a b d u v) (q : [(1, 1), (2, 1), (2, 2), (2, 3)].all (fun x => !a.contains x) = true) (q2 : b.contains 15 = false) : Rc n mo c p ok v := by
  simp only [List.all_cons, List.all_nil, Bool.and_true, Bool.and_eq_true, Bool.not_eq_true'] at q
  obtain ⟨a0, a1, a2, a3⟩ := q
  unfold Rc
  rw [f.i 1 1 a0, f.i 2 1 a1, f.i 2 2 a2, f.i 2 3 a3, f.a 15 q2]; exact h
theorem Rm.fm {a : List (Nat × Nat)} {b d : List Nat} (h : Rm n mo c p u) (f : Fm a b d u v) (q : [(47, 19), (47, 20)].all (fun x => !a.contains x) = true) (q2 : b.contains 57 = false) : Rm n mo c p v := by
  simp only [List.all_cons, List.all_nil, Bool.and_true, Bool.and_eq_true, Bool.not_eq_true'] at q
  obtain ⟨a0, a1⟩ := q
  unfold Rm
  rw [f.i 47 19 a0, f.i 47 20 a1, f.a 57 q2]; exact h
def pkV (n mo : Nat) (c : Nat → Nat) (p : Nat) (ok : Bool) : Int32 := if ok = true ∧ p < min n mo then nI (c p) else -1
theorem pk_y (h : p < min n mo) : pkV n mo c p true = nI (c p) := if_pos ⟨rfl, h⟩
theorem pk_n (h : ¬ p < min n mo) : pkV n mo c p ok = -1 := if_neg (fun w => h w.2)
theorem pk_f : pkV n mo c p false = -1 := if_neg (fun w => absurd w.1 (by decide))
theorem peek_c (ht : Tok n mo c) (h : Rc n mo c p ok u) : fX5_peek u = some (pkV n mo c p ok, u) := by
  obtain ⟨t1, t2, t3⟩ := ht
  obtain ⟨⟨h1, h2, h3⟩, h4, h5, h6⟩ := h
  have e33 : fX5_peek_33 u = some (-1, u) := rfl
  have e38 : fX5_peek_38 0 u = gd (inb (gI u 2 2) 80) (some (gA u 15 (gI u 2 2), u)) := rfl
  unfold fX5_peek
  rw [e33, e38, show gI u 2 3 = _ from h5, show gI u 2 1 = _ from h3, show gI u 2 2 = _ from h4, show gI u 1 1 = _ from h1]
  cases ok with
  | false =>
    rw [if_neg (show ¬ (if false = true then (-1 : Int32) else nI p) = -1 by rw [if_neg (by decide)]; exact n31 (by omega)), pk_f]
  | true =>
    rw [if_pos (show (if true = true then (-1 : Int32) else nI p) = -1 by rw [if_pos rfl])]
    by_cases q1 : p < mo
    · rw [if_neg (nI_ge q1 (by omega))]
      by_cases q2 : p < n
      · rw [if_pos (nI_lt q2 (by omega)), gdi (show p < 80 by omega) (by omega), pk_y (by omega)]
        have : gA u 15 (nI p) = nI (c p) := by show u.2.1 15 (nI p).toNatClampNeg = _; rw [nI_clamp (by omega)]; exact h2 p q2
        rw [this]
      · rw [if_neg (nI_nlt (by omega) (by omega)), pk_n (by omega)]
    · rw [if_pos (nI_le (by omega) (by omega)), pk_n (by omega)]
theorem dem_c (hn : n ≤ 80) (h : Rc n mo c p ok u) (b : Bool) : ∃ v, fX5_demand (bI b) u = some (bI (ok && b), v) ∧ Rc n mo c p (ok && b) v ∧ Fc u v := by
  have h' := h
  obtain ⟨⟨h1, h2, h3⟩, h4, h5, h6⟩ := h'
  unfold fX5_demand fX5_demand_20
  cases ok with
  | false =>
    have hne : ¬ gI u 2 3 = -1 := by rw [show gI u 2 3 = _ from h5, if_neg (by decide)]; exact n31 (by omega)
    rw [if_neg hne, if_neg hne, ite_self]
    exact ⟨u, rfl, h, Fm.rf⟩
  | true =>
    have he : gI u 2 3 = -1 := by rw [show gI u 2 3 = _ from h5, if_pos rfl]
    rw [if_pos he, if_pos he]
    cases b with
    | true =>
      rw [if_neg (show ¬ bI true = 0 by decide)]
      exact ⟨u, rfl, h, Fm.rf⟩
    | false =>
      rw [if_pos (show bI false = 0 from rfl), nxs, show gI (sI u 2 3 (gI u 2 2)) 2 3 = nI p from h4, if_neg (n31 (by omega))]
      exact ⟨_, rfl, ⟨⟨h1, h2, h3⟩, h4, h4, h6⟩, Fm.rf.sI rfl⟩
def htB (n mo : Nat) (c : Nat → Nat) (p s : Nat) : Bool := decide (p < min n mo) && decide (c p = s)
theorem Rc.up (h : Rc n mo c p true u) (hp : p < min n mo) : Rc n mo c (p + 1) true (sI u 2 2 (nI (p + 1))) := by
  obtain ⟨⟨h1, h2, h3⟩, h4, h5, h6⟩ := h
  exact ⟨⟨h1, h2, h3⟩, rfl, h5, hp⟩
theorem pass_c (ht : Tok n mo c) (h : Rc n mo c p ok u) {s : Nat} (hs : s < 256) : ∃ v, fX5_passes (nI s) u = some (bI (ok && htB n mo c p s), v) ∧ Rc n mo c (if (ok && htB n mo c p s) = true then p + 1 else p) ok v ∧ Fc u v := by
  have hc := ht.2.2
  have h4 := h.2.1
  have hns : ¬ (-1 : Int32) = nI s := fun w => n31 hs w.symm
  unfold fX5_passes
  rw [peek_c ht h, oBs]
  unfold htB
  cases ok with
  | false =>
    rw [pk_f, if_neg hns]
    exact ⟨u, rfl, h, Fm.rf⟩
  | true =>
    by_cases q : p < min n mo
    · have := hc p (by omega)
      rw [pk_y q]
      by_cases q2 : c p = s
      · rw [if_pos (by rw [q2]), show gI u 2 2 = nI p from h4, nI_1, nxs, decide_eq_true q, decide_eq_true q2]
        exact ⟨_, rfl, h.up q, Fm.rf.sI rfl⟩
      · rw [if_neg (fun w => q2 ((nI_eq (by omega) (by omega)).mp w)), decide_eq_true q, decide_eq_false q2]
        exact ⟨u, rfl, h, Fm.rf⟩
    · rw [pk_n q, if_neg hns, decide_eq_false q]
      exact ⟨u, rfl, h, Fm.rf⟩
/-- the sign here, counted from a first one -/
def sgO (n mo : Nat) (c : Nat → Nat) (lo k p : Nat) : Option Nat := if p < min n mo ∧ lo ≤ c p ∧ c p < lo + k then some (c p - lo) else none
def sgV (o : Option Nat) (ok : Bool) : Nat := if ok then o.getD 0 else 0
def sgP (o : Option Nat) (p : Nat) (ok : Bool) : Nat := if (ok && o.isSome) then p + 1 else p
def sgK (o : Option Nat) (ok : Bool) : Bool := ok && o.isSome
theorem sg22 (hn : n ≤ 80) (h : Rc n mo c p ok u) (x y z : Int32) (b : Bool) (hb : (ok && b) = true → p < min n mo) : ∃ v, fX5_signFrom_22 x y z (bI b) u = some (if (ok && b) then z else 0, v) ∧ Rc n mo c (if (ok && b) then p + 1 else p) (ok && b) v ∧ Fc u v := by
  obtain ⟨v, e1, h1, f1⟩ := dem_c hn h b
  unfold fX5_signFrom_22
  rw [e1, oBs]
  cases q : (ok && b) with
  | false =>
    rw [q] at h1
    rw [if_pos (show bI false = 0 from rfl), if_neg (by decide), if_neg (by decide)]
    exact ⟨v, rfl, h1, f1⟩
  | true =>
    rw [q] at h1
    rw [if_neg (show ¬ bI true = 0 by decide), show gI v 2 2 = nI p from h1.2.1, nI_1, nxs, if_pos rfl, if_pos rfl]
    exact ⟨_, rfl, h1.up (hb q), f1.sI rfl⟩
theorem subI {a b : Nat} (ha : a < 2 ^ 30) (hb : b < 2 ^ 30) : (nI a - nI b).toInt = (a : Int) - b := pk_sub_toInt ha hb
theorem sign_c' (ht : Tok n mo c) (h : Rc n mo c p ok u) {lo k : Nat} (hlo : lo < 256) (hk : k < 256) : ∃ v, fX5_signFrom (nI lo) (nI k) u = some (nI (sgV (sgO n mo c lo k p) ok), v) ∧ Rc n mo c (sgP (sgO n mo c lo k p) p ok) (sgK (sgO n mo c lo k p) ok) v ∧ Fc u v := by
  have hc := ht.2.2
  have hn := ht.1
  unfold fX5_signFrom fX5_signFrom_21
  rw [peek_c ht h, oBs]
  have no : ∀ (z : Int32), sgK (sgO n mo c lo k p) ok = false → ∃ v, fX5_signFrom_22 (nI lo) (nI k) z 0 u = some (nI (sgV (sgO n mo c lo k p) ok), v) ∧ Rc n mo c (sgP (sgO n mo c lo k p) p ok) (sgK (sgO n mo c lo k p) ok) v ∧ Fc u v := fun z hz => by
    obtain ⟨v, e1, h1, f1⟩ := sg22 hn h (nI lo) (nI k) z false (fun w => by rw [Bool.and_false] at w; cases w)
    rw [Bool.and_false, if_neg (by decide)] at e1
    rw [Bool.and_false, if_neg (by decide)] at h1
    refine ⟨v, ?_, ?_, f1⟩
    · rw [show (0 : Int32) = bI false from rfl, e1]
      unfold sgV sgK at *
      cases ok with
      | false => rfl
      | true =>
        rw [Bool.true_and] at hz
        cases ho : sgO n mo c lo k p with
        | none => rfl
        | some y => rw [ho] at hz; cases hz
    · unfold sgP
      rw [show (ok && (sgO n mo c lo k p).isSome) = false from hz, if_neg (by decide), hz]; exact h1
  by_cases hp : ok = true ∧ p < min n mo
  · obtain ⟨rfl, hp⟩ := hp
    have hcp := hc p (by omega)
    have ev : pkV n mo c p true = nI (c p) := if_pos ⟨rfl, hp⟩
    rw [ev]
    have hs := subI (a := c p) (b := lo) (by omega) (by omega)
    by_cases q1 : c p < lo
    · rw [if_pos (pk_sneg (by omega) q1)]
      exact no _ (by unfold sgK sgO; rw [if_neg (fun w => by omega)]; rfl)
    · rw [pk_sub (by omega), if_neg (nI_pos (by omega))]
      by_cases q2 : c p < lo + k
      · rw [if_neg (nI_ge (show c p - lo < k by omega) (by omega))]
        have eo : sgO n mo c lo k p = some (c p - lo) := if_pos ⟨hp, by omega, q2⟩
        obtain ⟨v, e1, h1, f1⟩ := sg22 hn h (nI lo) (nI k) (nI (c p - lo)) true (fun _ => hp)
        rw [eo]
        exact ⟨v, e1, h1, f1⟩
      · rw [if_pos (nI_le (show k ≤ c p - lo by omega) (by omega))]
        exact no _ (by unfold sgK sgO; rw [if_neg (fun w => by omega)]; rfl)
  · have ev : pkV n mo c p ok = -1 := if_neg hp
    rw [ev]
    have hlt : (-1 : Int32) - nI lo < 0 := by
      rw [fa_lt, fb_subI (by rw [nI_toInt (by omega)]; have : (-1 : Int32).toInt = -1 := rfl; omega) (by rw [nI_toInt (by omega)]; have : (-1 : Int32).toInt = -1 := rfl; omega), nI_toInt (by omega)]
      have : (-1 : Int32).toInt = -1 := rfl
      have : (0 : Int32).toInt = 0 := rfl
      omega
    rw [if_pos hlt]
    refine no _ ?_
    unfold sgK sgO
    cases ok with
    | false => rfl
    | true => rw [if_neg (fun w => hp ⟨rfl, w.1⟩)]; rfl
/-! the end of reading -/
def anV (n p : Nat) (ok : Bool) (x : Int32) : Int32 := if (ok && decide (p = n)) then x else -1 - nI p
theorem answer_c (hn : n ≤ 80) (h : Rc n mo c p ok u) (x : Int32) : ∃ v, fX5_answer x u = some (anV n p ok x, v) ∧ Fc u v := by
  have hle := h.2.2.2
  unfold fX5_answer fX5_firstFault fX5_firstFault_20
  rw [show gI u 2 2 = nI p from h.2.1, show gI u 1 1 = nI n from h.1.1]
  have key : ∀ b : Bool, b = decide (p = n) → ∃ v, (oB (oB (fX5_demand (bI b) u) fun r1 u1 => some (gI u1 2 3, u1)) fun r1 u1 => (if r1 = (-1) then some (x, u1) else some ((-1) - r1, u1))) = some (anV n p ok x, v) ∧ Fc u v := fun b hb => by
    obtain ⟨v, e1, h1, f1⟩ := dem_c hn h b
    rw [e1, oBs, oBs, show gI v 2 3 = _ from h1.2.2.1]
    unfold anV
    rw [← hb]
    cases (ok && b) with
    | true => exact ⟨v, rfl, f1⟩
    | false =>
      rw [if_neg (show ¬ false = true by decide), if_neg (n31 (by omega)), if_neg (show ¬ false = true by decide)]
      exact ⟨v, rfl, f1⟩
  by_cases q : p < n
  · rw [if_pos (nI_lt q (by omega))]
    exact key false (decide_eq_false (by omega)).symm
  · rw [if_neg (nI_nlt (by omega) (by omega))]
    exact key true (decide_eq_true (by omega)).symm
theorem fault_m (ht : Tok n mo c) (h : Rm n mo c p u) (ok : Bool) : fX12_faultOf (nI n) (nI mo) (bI ok) u = some (anV n p ok 0, u) := by
  obtain ⟨t1, t2, t3⟩ := ht
  obtain ⟨⟨h1, h2⟩, h3, h4⟩ := h
  unfold fX12_faultOf fX12_faultOf_19 fX12_faultOf_20 fX12_faultOf_44 anV
  rw [show gI u 47 19 = nI p from h3, show gI u 47 20 = _ from h2]
  cases ok with
  | false =>
    rw [if_pos (show bI false = 0 from rfl), if_pos rfl, if_pos rfl, Bool.false_and, if_neg (show ¬ false = true by decide)]
    by_cases q : n ≤ mo
    · rw [if_pos (nI_le q (by omega))]
    · rw [if_neg (nI_ge (show mo < n by omega) (by omega))]
      by_cases q2 : p < mo
      · rw [if_pos (nI_lt q2 (by omega))]
      · rw [if_neg (nI_nlt (by omega) (by omega)), show p = mo by omega]
  | true =>
    rw [if_neg (show ¬ bI true = 0 by decide), Bool.true_and]
    by_cases qT : p = min n mo
    · rw [if_pos (by rw [qT]), if_neg (show ¬ (1 : Int32) = 0 by decide), if_neg (show ¬ (1 : Int32) = 0 by decide)]
      by_cases q : n ≤ mo
      · rw [if_pos (nI_le q (by omega)), decide_eq_true (by omega), if_pos rfl]
      · rw [if_neg (nI_ge (show mo < n by omega) (by omega)), decide_eq_false (by omega), if_neg (show ¬ false = true by decide), show p = mo by omega]
    · rw [if_neg (fun w => qT ((nI_eq (by omega) (by omega)).mp w)), if_pos rfl, if_pos rfl, decide_eq_false (by omega), if_neg (show ¬ false = true by decide)]
      by_cases q : n ≤ mo
      · rw [if_pos (nI_le q (by omega))]
      · rw [if_neg (nI_ge (show mo < n by omega) (by omega)), if_pos (nI_lt (show p < mo by omega) (by omega))]
theorem open_c (hx : u.1 1 1 = nI n ∧ RowN n (u.2.1 15) c) : ∃ v, fX5_open (nI mo) u = some v ∧ Rc n mo c 0 true v ∧ Fm [(2, 1), (2, 2), (2, 3)] [] [] u v := ⟨_, rfl, ⟨⟨hx.1, hx.2, rfl⟩, rfl, rfl, Nat.zero_le _⟩, ((Fm.rf.sI rfl).sI rfl).sI rfl⟩
theorem begins_m (ht : Tok n mo c) (hx : u.1 47 18 = nI n ∧ RowN n (u.2.1 57) c) : ∃ v, fX12_begins (nI mo) u = some (nI n, v) ∧ Rm n mo c 0 v ∧ gI v 47 18 = 0 ∧ gI v 47 21 = 0 ∧ Fm [(47, 18), (47, 19), (47, 20), (47, 21)] [] [] u v := by
  unfold fX12_begins
  rw [show gI u 47 18 = nI n from hx.1, nxs, nxs, nxs, nxs]
  have e : (if nI mo < nI n then nI mo else nI n) = nI (min n mo) := by
    have := ht.1
    have := ht.2.1
    by_cases q : mo < n
    · rw [if_pos (nI_lt q (by omega)), Nat.min_eq_right (by omega)]
    · rw [if_neg (nI_nlt (by omega) (by omega)), Nat.min_eq_left (by omega)]
  rw [e]
  exact ⟨_, rfl, ⟨⟨hx.2, rfl⟩, rfl, Nat.zero_le _⟩, rfl, rfl, (((Fm.rf.sI rfl).sI rfl).sI rfl).sI rfl⟩
/-! the model's pieces -/
theorem Rm.up (h : Rm n mo c p u) (hp : p < min n mo) : Rm n mo c (p + 1) (sI u 47 19 (nI (p + 1))) := ⟨h.1, rfl, hp⟩
theorem Rm.same (h : Rm n mo c p u) : Rm n mo c p (sI u 47 19 (nI p)) := ⟨h.1, rfl, h.2.2⟩
theorem Rm.g (h : Rm n mo c p u) (hn : n ≤ 80) (hp : p < n) : gA u 57 (nI p) = nI (c p) := by
  show u.2.1 57 (nI p).toNatClampNeg = _
  rw [nI_clamp (by omega)]; exact h.1.1 p hp
theorem tsign_m (ht : Tok n mo c) (h : Rm n mo c p u) {s : Nat} (hs : s < 256) : ∃ v, fX12_takesSign (nI s) u = some (bI (htB n mo c p s), v) ∧ Rm n mo c (if htB n mo c p s = true then p + 1 else p) v ∧ Fdm u v := by
  have hc := ht.2.2
  have hn := ht.1
  unfold fX12_takesSign fX12_takesSign_28 fX12_takesSign_29 htB
  rw [show gI u 47 20 = _ from h.1.2, show gI u 47 19 = nI p from h.2.1]
  have e0 : nI p + 0 = nI p := ad0 p
  have hle := h.2.2
  by_cases q : p < min n mo
  · have := hc p (by omega)
    rw [if_neg (nI_ge q (by omega)), gdi (show p < 80 by omega) (by omega), h.g hn (by omega), decide_eq_true q, Bool.true_and]
    by_cases q2 : c p = s
    · rw [if_pos (by rw [q2]), decide_eq_true q2, show fX12_flag 1 u = some (1, u) from rfl, oBs, nxs, nI_1, gd_t (show isB 1 = true from rfl)]
      exact ⟨_, rfl, h.up q, Fm.rf.sI rfl⟩
    · rw [if_neg (fun w => q2 ((nI_eq (by omega) (by omega)).mp w)), decide_eq_false q2, show fX12_flag 0 u = some (0, u) from rfl, oBs, nxs, e0, gd_t (show isB 0 = true from rfl)]
      exact ⟨_, rfl, h.same, Fm.rf.sI rfl⟩
  · rw [if_pos (nI_le (by omega) (by omega)), decide_eq_false q, Bool.false_and, show fX12_flag 0 u = some (0, u) from rfl, oBs, nxs, e0, gd_t (show isB 0 = true from rfl)]
    exact ⟨_, rfl, h.same, Fm.rf.sI rfl⟩
def strL : List (List Nat) := [[97, 98, 99, 100, 101, 102, 103, 104], [117, 114, 100, 108, 115], [107, 115, 108, 104, 110, 116], [60, 62, 61], [43, 45], [42, 47], [104, 112, 111, 98, 99]]
theorem strB : ∀ j : Nat, j < 7 → ∀ k : Nat, k < 8 → k < lenS.getD j 0 → (bytS.getD j []).getD k 0 = nI ((strL.getD j []).getD k 0) ∧ (strL.getD j []).getD k 0 < 256 := by decide +kernel
theorem strN : ∀ j : Nat, j < 7 → 1 ≤ lenS.getD j 0 ∧ lenS.getD j 0 ≤ 8 := by decide +kernel
def ixO (j x : Nat) : Option Nat := fsN (fun k => decide ((strL.getD j []).getD k 0 = x)) (lenS.getD j 0)
def amO (n mo : Nat) (c : Nat → Nat) (j p : Nat) : Option Nat := if p < min n mo then ixO j (c p) else none
theorem ix_lt {j x k : Nat} (h : ixO j x = some k) : k < lenS.getD j 0 := (fs_lt h).1
theorem am_lt (hj : r < 7) {k : Nat} (h : amO n mo c r p = some k) : k < 8 := by
  unfold amO at h
  split at h
  · have := ix_lt h; have := (strN r hj).2; omega
  · cases h
theorem among_m (ht : Tok n mo c) (h : Rm n mo c p u) {j : Nat} (hj : j < 7) : fX12_among (100 + j) u = some (hV (amO n mo c j p), u) := by
  have hc := ht.2.2
  have hn := ht.1
  obtain ⟨l1, l2⟩ := strN j hj
  unfold fX12_among
  rw [gd_t (show isStr (100 + j) = true by unfold isStr; simp; omega)]
  by_cases q : p < min n mo
  · have hcp := hc p (by omega)
    have ea : amO n mo c j p = ixO j (c p) := if_pos q
    rw [ea]
    refine lpE (fun f (z : Int32) w => fX12_among_2 (100 + j) f z w) (lenS.getD j 0) (fun i => nI i) (fun i w => fsN (fun k => decide ((strL.getD j []).getD k 0 = c p)) i = none ∧ w = u) (fun o => o = some (hV (ixO j (c p)), u)) ?_ ?_ (by omega) 0 rfl ⟨rfl, rfl⟩
    · rintro f i w hi ⟨hq, rfl⟩
      obtain ⟨s1, s2⟩ := strB j hj i (by omega) hi
      rw [fX12_among_2, Nat.add_sub_cancel_left, if_neg (nI_ge hi (by omega)), show gI w 47 20 = _ from h.1.2, show gI w 47 19 = nI p from h.2.1, if_neg (nI_ge q (by omega)), gdi hi (by omega), gdi (show p < 80 by omega) (by omega), nI_clamp (by omega), s1, h.g hn (by omega), nI_1]
      by_cases q2 : (strL.getD j []).getD i 0 = c p
      · right
        rw [if_pos (by rw [q2]), show ixO j (c p) = some i from fs_yN (p := fun k => decide ((strL.getD j []).getD k 0 = c p)) hq (decide_eq_true q2) hi]; rfl
      · left
        rw [if_neg (fun w1 => q2 ((nI_eq (by omega) (by omega)).mp w1))]
        exact ⟨w, ⟨fs_n (p := fun k => decide ((strL.getD j []).getD k 0 = c p)) hq (decide_eq_false q2), rfl⟩, rfl⟩
    · rintro f w ⟨hq, rfl⟩
      rw [fX12_among_2, Nat.add_sub_cancel_left, if_pos (nI_le (Nat.le_refl _) (by omega)), show ixO j (c p) = none from hq]; rfl
  · have ea : amO n mo c j p = none := if_neg q
    have hle := h.2.2
    rw [ea, FU_s, fX12_among_2, Nat.add_sub_cancel_left, if_neg (nI_nle (show 0 < lenS.getD j 0 by omega) (by omega)), show gI u 47 20 = _ from h.1.2, show gI u 47 19 = nI p from h.2.1, if_pos (nI_le (by omega) (by omega))]; rfl
theorem takes_m (ht : Tok n mo c) (h : Rm n mo c p u) {j : Nat} (hj : j < 7) : ∃ v, fX12_takesOf (100 + j) u = some (hV (amO n mo c j p), v) ∧ Rm n mo c (if (amO n mo c j p).isSome = true then p + 1 else p) v ∧ Fdm u v := by
  unfold fX12_takesOf fX12_takesOf_20
  rw [gd_t (show isStr (100 + j) = true by unfold isStr; simp; omega), among_m ht h hj, oBs, show gI u 47 19 = nI p from h.2.1, show fX12_flag 0 u = some (0, u) from rfl, show fX12_flag 1 u = some (1, u) from rfl, oBs, oBs, nxs, nxs, nI_1, ad0]
  cases ho : amO n mo c j p with
  | none =>
    rw [if_pos (show hV none < 0 by decide)]
    exact ⟨_, rfl, h.same, Fm.rf.sI rfl⟩
  | some k =>
    have hk := am_lt hj ho
    have hp : p < min n mo := by
      unfold amO at ho
      split at ho
      · assumption
      · cases ho
    rw [if_neg (show ¬ hV (some k) < 0 from nI_pos (by omega))]
    exact ⟨_, rfl, h.up hp, Fm.rf.sI rfl⟩
theorem kind_ix : ∀ x : Nat, x < 256 → ixO 0 x = if 97 ≤ x ∧ x < 105 then some (x - 97) else none := by decide +kernel
theorem am_sg (ht : Tok n mo c) : amO n mo c 0 p = sgO n mo c 97 8 p := by
  unfold amO sgO
  by_cases q : p < min n mo
  · rw [if_pos q, kind_ix _ (ht.2.2 p (by omega))]
    by_cases q2 : 97 ≤ c p ∧ c p < 105
    · rw [if_pos q2, if_pos ⟨q, q2⟩]
    · rw [if_neg q2, if_neg (fun w => q2 w.2)]
  · rw [if_neg q, if_neg (fun w => q w.1)]
