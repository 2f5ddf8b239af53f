/-! rule: the model reads -/
variable {D : DD} {m m' : MM} {e r : Nat} {u v w : US} {n mo p : Nat} {c : Nat → Nat} {ok : Bool}
abbrev FRm (u v : US) : Prop := Fm [(47, 19), (47, 21), (47, 27)] [60] [] u v
/-- the codes written so far -/
def Md (L : List Int32) (u : US) : Prop := gI u 47 27 = nI L.length ∧ L.length ≤ 80 ∧ codL (u.2.1 60) L.length = L
theorem Md.fd {L : List Int32} (h : Md L u) (f : Fdm u v) : Md L v := ⟨(f.i 47 27 rfl).trans h.1, h.2.1, by rw [f.a 60 rfl]; exact h.2.2⟩
/-- how many codes stand, never more than signs read -/
def Mn (q : Nat) (u : US) : Prop := ∃ a : Nat, a ≤ q ∧ gI u 47 27 = nI a
theorem codes_m {L : List Int32} (h : Md L u) (hl : L.length < 80) (x : Int32) (hr : Rm n mo c p u) : ∃ v, fX12_codes x u = some v ∧ Md (L ++ [x]) v ∧ Rm n mo c p v ∧ gI v 47 21 = gI u 47 21 ∧ FRm u v := by
  obtain ⟨h1, h2, h3⟩ := h
  have i1 := inb_nI hl (show 80 < 2 ^ 31 by decide)
  unfold fX12_codes
  rw [h1, gd_t i1, nxs, nxs]
  refine ⟨_, rfl, ⟨?_, ?_, ?_⟩, ?_, rfl, (Fm.rf.sA rfl).sI rfl⟩
  · show gI u 47 27 + 1 = _
    rw [h1, nI_1, List.length_append]; rfl
  · rw [List.length_append]; exact hl
  · show codL (upd (u.2.1 60) (nI L.length).toNatClampNeg x) (L ++ [x]).length = _
    rw [nI_clamp (by omega), List.length_append]; exact cod_upd h3
  · exact hr.fm (a := [(47, 27)]) (b := [60]) (d := []) ((Fm.rf.sA rfl).sI rfl) rfl rfl
theorem codes_n {q : Nat} (h : Mn q u) (hq : q < 80) (x : Int32) (hr : Rm n mo c p u) : ∃ v, fX12_codes x u = some v ∧ Mn (q + 1) v ∧ Rm n mo c p v ∧ gI v 47 21 = gI u 47 21 ∧ FRm u v := by
  obtain ⟨a, h1, h2⟩ := h
  have i1 := inb_nI (show a < 80 by omega) (show 80 < 2 ^ 31 by decide)
  unfold fX12_codes
  rw [h2, gd_t i1, nxs, nxs]
  refine ⟨_, rfl, ⟨a + 1, (by omega), ?_⟩, ?_, rfl, (Fm.rf.sA rfl).sI rfl⟩
  · show gI u 47 27 + 1 = _
    rw [h2, nI_1]
  · exact hr.fm (a := [(47, 27)]) (b := [60]) (d := []) ((Fm.rf.sA rfl).sI rfl) rfl rfl
/-- what the model has after a reading -/
def MR (n mo : Nat) (c : Nat → Nat) (L : List Int32) (r : RuR) (u : US) (o : Option (Int32 × US)) : Prop := ∃ v, o = some (bI r.2.1, v) ∧ Rm n mo c r.1 v ∧ FRm u v ∧ Mn r.1 v ∧ (r.2.1 = true → Md (L ++ r.2.2.2) v ∧ gI v 47 21 = gI u 47 21)
theorem Mn.fd {q : Nat} (h : Mn q u) (f : Fdm u v) : Mn q v := by
  obtain ⟨a, h1, h2⟩ := h
  exact ⟨a, h1, (f.i 47 27 rfl).trans h2⟩
theorem Mn.mono {q q' : Nat} (h : Mn q u) (hq : q ≤ q') : Mn q' u := by
  obtain ⟨a, h1, h2⟩ := h
  exact ⟨a, (by omega), h2⟩
theorem Md.mn {L : List Int32} {q : Nat} (h : Md L u) (hl : L.length ≤ q) : Mn q u := ⟨_, hl, h.1⟩
theorem num3_m (ht : Tok n mo c) (h : Rm n mo c p u) (hd : isd n mo c p = true) : ∃ v, fX12_number 3 u = some (nI (nuV c p (nuL n mo c p)), v) ∧ Rm n mo c (p + nuL n mo c p) v ∧ Fdm u v := by
  have step : ∀ (f k : Nat) (w : US), k < 3 → Rm n mo c (p + k) w → Fdm u w → isd n mo c (p + k) = true → ∃ w', fX12_number_13 3 (f + 1) (nI (nuV c p k)) (nI k) w = fX12_number_13 3 f (nI (nuV c p (k + 1))) (nI (k + 1)) w' ∧ Rm n mo c (p + (k + 1)) w' ∧ Fdm u w' := by
    intro f k w hk hr hf hi
    obtain ⟨a0, a1, a2⟩ := isd_hp hi
    have hn := ht.1
    have ip := inb_nI (show p + k < 80 by omega) (show 80 < 2 ^ 31 by decide)
    have e19 : gI w 47 19 = nI (p + k) := hr.2.1
    refine ⟨sI w 47 19 (nI (p + (k + 1))), ?_, ⟨hr.1, rfl, a0⟩, hf.sI rfl⟩
    have eA : gA w 57 (nI (p + k)) = nI (c (p + k)) := by
      show w.2.1 57 (nI (p + k)).toNatClampNeg = _
      rw [nI_clamp (by omega)]; exact hr.1.1 (p + k) (by omega)
    rw [fX12_number_13, if_neg (show ¬ (3 : Int32) ≤ nI k from nI_ge (b := 3) hk (by omega)), isDig_m ht hr, oBs, show (sgO n mo c 48 10 (p + k)).isSome = true from hi, if_neg (show ¬ bI true = 0 by decide), e19, gd_t ip, nxs, nI_1, nI_1, eA, show (10 : Int32) = nI 10 from rfl, pk_mul, nI_add, show (48 : Int32) = nI 48 from rfl, pk_sub (show 48 ≤ 10 * nuV c p k + c (p + k) by omega), show 10 * nuV c p k + c (p + k) - 48 = nuV c p (k + 1) from by show _ = nuV c p k * 10 + (c (p + k) - 48); omega]; rfl
  have stop : ∀ (f k : Nat) (w : US), k ≤ 3 → Rm n mo c (p + k) w → (k = 3 ∨ isd n mo c (p + k) = false) → fX12_number_13 3 (f + 1) (nI (nuV c p k)) (nI k) w = some (nI (nuV c p k), w) := by
    intro f k w hk hr hi
    rw [fX12_number_13]
    by_cases q : k = 3
    · rw [if_pos (show (3 : Int32) ≤ nI k by rw [q]; decide)]
    · rw [if_neg (show ¬ (3 : Int32) ≤ nI k from nI_ge (b := 3) (by omega) (by omega)), isDig_m ht hr, oBs, show (sgO n mo c 48 10 (p + k)).isSome = false from hi.resolve_left q, if_pos (show bI false = 0 from rfl)]
  unfold fX12_number
  rw [isDig_m ht h, oBs, show (sgO n mo c 48 10 p).isSome = true from hd, if_neg (show ¬ bI true = 0 by decide), show FU = 4092 + 1 + 1 + 1 + 1 from rfl]
  obtain ⟨w1, e1, r1, f1⟩ := step (4092 + 1 + 1 + 1) 0 u (by omega) h Fm.rf hd
  rw [show fX12_number_13 3 (4092 + 1 + 1 + 1 + 1) 0 0 u = fX12_number_13 3 (4092 + 1 + 1 + 1 + 1) (nI (nuV c p 0)) (nI 0) u from rfl, e1]
  unfold nuL
  cases q1 : isd n mo c (p + 1) with
  | false => rw [if_neg (by decide)]; exact ⟨w1, stop _ 1 w1 (by omega) r1 (Or.inr q1), r1, f1⟩
  | true =>
    rw [if_pos rfl]
    obtain ⟨w2, e2, r2, f2⟩ := step (4092 + 1 + 1) 1 w1 (by omega) r1 f1 q1
    rw [e2]
    cases q2 : isd n mo c (p + 2) with
    | false => rw [if_neg (by decide)]; exact ⟨w2, stop _ 2 w2 (by omega) r2 (Or.inr q2), r2, f2⟩
    | true =>
      rw [if_pos rfl]
      obtain ⟨w3, e3, r3, f3⟩ := step (4092 + 1) 2 w2 (by omega) r2 f2 q2
      rw [e3]
      exact ⟨w3, stop _ 3 w3 (by omega) r3 (Or.inl rfl), r3, f3⟩
/-- a term that begins with no minus -/
theorem opd_m (ht : Tok n mo c) (hM : min n mo ≤ 40) {gR : Int32 → US → Option (Int32 × US)} {gT : US → Option (Int32 × US)} {pc : Nat → RuR} {d : Nat} (hd : d ≤ 4) (hpc : ∀ q, q ≤ min n mo → Gd (min n mo) q (pc q)) (hg : d < 4 → ∀ (q : Nat) (L : List Int32) (w : US), q ≤ min n mo → Rm n mo c q w → Md L w → L.length ≤ q → gI w 47 21 = nI (d + 1) → MR n mo c L (pc q) w (gR 0 w)) {L : List Int32} (h : Rm n mo c p u) (hL : Md L u) (hl : L.length ≤ p) (h21 : gI u 47 21 = nI d) (hno : htB n mo c p 45 = false) : MR n mo c L (opR n mo c pc d p) u (GX12_readsTerm gR gT u) := by
  obtain ⟨v1, e1, r1, f1⟩ := tsign_m ht h (s := 45) (by decide)
  rw [hno] at e1 r1
  rw [if_neg (by decide)] at r1
  have hp : p ≤ min n mo := h.2.2
  unfold GX12_readsTerm
  rw [show (45 : Int32) = nI 45 from rfl, e1, oBs, if_pos (show bI false = 0 from rfl), isDig_m ht r1, oBs]
  unfold opR
  have d40 : isd n mo c p = true → htB n mo c p 40 = false := fun w => by
    obtain ⟨_, a1, a2⟩ := isd_hp w
    unfold htB
    rw [decide_eq_false (show ¬ c p = 40 by omega), Bool.and_false]
  cases q2 : isd n mo c p with
  | true =>
    rw [d40 q2, if_neg (by decide), if_pos rfl, show (sgO n mo c 48 10 p).isSome = true from q2, if_neg (show ¬ bI true = 0 by decide)]
    obtain ⟨a1, a2, a3, a4⟩ := nu_hp q2
    obtain ⟨v2, e2, r2, f2⟩ := num3_m ht r1 q2
    obtain ⟨v3, e3, c3, r3, t3, f3⟩ := codes_m ((hL.fd f1).fd f2) (by omega) (nI (nuV c p (nuL n mo c p))) r2
    rw [e2, oBs, e3, oVs]
    refine ⟨v3, rfl, r3, ((f1.mono rfl rfl rfl).trans (f2.mono rfl rfl rfl)).trans f3, c3.mn ?_, fun _ => ⟨c3, ?_⟩⟩
    · rw [List.length_append]
      show L.length + 1 ≤ p + nuL n mo c p
      omega
    · rw [t3, show gI v2 47 21 = gI v1 47 21 from f2.i 47 21 rfl]; exact f1.i 47 21 rfl
  | false =>
    obtain ⟨v2, e2, r2, f2⟩ := takes_m ht r1 (j := 2) (by decide)
    have f12 : FRm u v2 := (f1.mono rfl rfl rfl).trans (f2.mono rfl rfl rfl)
    have L2 : Md L v2 := (hL.fd f1).fd f2
    have t2 : gI v2 47 21 = nI d := (f2.i 47 21 rfl).trans ((f1.i 47 21 rfl).trans h21)
    rw [if_neg (show ¬ false = true by decide), show (sgO n mo c 48 10 p).isSome = false from q2, if_pos (show bI false = 0 from rfl), show fX12_takesOf 102 v1 = fX12_takesOf (100 + 2) v1 from rfl, e2, oBs]
    cases ho : amO n mo c 2 p with
    | some j =>
      have hpl := am_p ho
      have hj : j < 6 := by
        have ho' := ho
        unfold amO at ho'
        rw [if_pos hpl] at ho'
        exact (fs_lt ho').1
      have h40 : htB n mo c p 40 = false := by
        cases w : htB n mo c p 40 with
        | false => rfl
        | true =>
          have := am_so ho
          rw [ht_eq w] at this
          exact absurd this (by decide)
      rw [ho] at r2
      rw [h40, if_neg (show ¬ false = true by decide), if_neg (show ¬ hV (some j) < 0 from nI_pos (n := j) (by omega)), show (1000 : Int32) + hV (some j) = nI (1000 + j) from nI_add 1000 j]
      obtain ⟨v3, e3, c3, r3, t3, f3⟩ := codes_m L2 (by omega) (nI (1000 + j)) r2
      rw [e3, oVs]
      refine ⟨v3, rfl, r3, f12.trans f3, c3.mn ?_, fun _ => ⟨c3, ?_⟩⟩
      · rw [List.length_append]
        show L.length + 1 ≤ p + 1
        omega
      · rw [t3, t2, h21]
    | none =>
      rw [ho] at r2
      have r2' : Rm n mo c p v2 := r2
      rw [if_pos hV_neg, t2]
      by_cases q4 : d = 4
      · subst q4
        rw [if_pos (show nI 4 = 4 from rfl)]
        cases w : htB n mo c p 40 with
        | true => rw [if_pos rfl, if_pos (Nat.le_refl 4)]; exact ⟨v2, rfl, r2', f12, L2.mn hl, fun h => by cases h⟩
        | false => rw [if_neg (by decide)]; exact ⟨v2, rfl, r2', f12, L2.mn hl, fun h => by cases h⟩
      · obtain ⟨v3, e3, r3, f3⟩ := tsign_m ht r2' (s := 40) (by decide)
        rw [if_neg (show ¬ nI d = 4 from fun x => by have := congrArg Int32.toInt x; rw [nI_toInt (by omega)] at this; have h4 : (4 : Int32).toInt = 4 := rfl; omega), show (40 : Int32) = nI 40 from rfl, e3, oBs]
        cases w : htB n mo c p 40 with
        | false =>
          rw [w, if_neg (show ¬ false = true by decide)] at r3
          rw [if_pos (show bI false = 0 from rfl), if_neg (show ¬ false = true by decide)]
          exact ⟨v3, rfl, r3, f12.trans (f3.mono rfl rfl rfl), (L2.fd f3).mn hl, fun h => by cases h⟩
        | true =>
          have hpl := ht_lt w
          rw [w, if_pos rfl] at r3
          rw [if_neg (show ¬ bI true = 0 by decide), if_pos rfl, if_neg (show ¬ 4 ≤ d by omega), nxs, show gI v3 47 21 = nI d from (f3.i 47 21 rfl).trans t2, nI_1]
          obtain ⟨y, hy⟩ : ∃ y, y = sI v3 47 21 (nI (d + 1)) := ⟨_, rfl⟩
          have ry : Rm n mo c (p + 1) y := by rw [hy]; exact r3.fm (a := [(47, 21)]) (b := []) (d := []) (Fm.rf.sI rfl) rfl rfl
          have Ly : Md L y := by rw [hy]; exact (show Md L v3 from L2.fd f3)
          have fy : FRm u y := by rw [hy]; exact (f12.trans (f3.mono rfl rfl rfl)).sI rfl
          have ty : gI y 47 21 = nI (d + 1) := by rw [hy]; rfl
          obtain ⟨v4, e4, r4, f4, n4, c4⟩ := hg (by omega) (p + 1) L y hpl ry Ly (by omega) ty
          rw [← hy, e4, oBs]
          cases hb : (pc (p + 1)).2.1 with
          | false =>
            rw [if_pos (show bI false = 0 from rfl), Bool.false_and, if_neg (show ¬ false = true by decide)]
            exact ⟨v4, rfl, r4, fy.trans f4, n4, fun h => by cases h⟩
          | true =>
            obtain ⟨m4, t4⟩ := c4 hb
            obtain ⟨v5, e5, r5, f5⟩ := tsign_m ht r4 (s := 41) (by decide)
            rw [if_neg (show ¬ bI true = 0 by decide), Bool.true_and, show (41 : Int32) = nI 41 from rfl, e5, oBs]
            cases w2 : htB n mo c (pc (p + 1)).1 41 with
            | false =>
              rw [w2, if_neg (show ¬ false = true by decide)] at r5
              rw [if_pos (show bI false = 0 from rfl), if_neg (show ¬ false = true by decide)]
              exact ⟨v5, rfl, r5, (fy.trans f4).trans (f5.mono rfl rfl rfl), n4.fd f5, fun h => by cases h⟩
            | true =>
              rw [w2, if_pos rfl] at r5
              rw [if_neg (show ¬ bI true = 0 by decide), if_pos rfl, nxs]
              refine ⟨_, rfl, ?_, ((fy.trans f4).trans (f5.mono rfl rfl rfl)).sI rfl, ?_, fun _ => ⟨?_, ?_⟩⟩
              · exact r5.fm (a := [(47, 21)]) (b := []) (d := []) (Fm.rf.sI rfl) rfl rfl
              · obtain ⟨a, a1, a2⟩ := n4.fd f5
                exact ⟨a, Nat.le_succ_of_le a1, a2⟩
              · exact (show Md (L ++ (pc (p + 1)).2.2.2) v5 from m4.fd f5)
              · show gI v5 47 21 - 1 = _
                rw [show gI v5 47 21 = nI (d + 1) from (f5.i 47 21 rfl).trans (t4.trans ty), h21, show (1 : Int32) = nI 1 from rfl, pk_sub (show 1 ≤ d + 1 by omega)]; rfl
