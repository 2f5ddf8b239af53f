/-! rule: the model reads -/
variable {D : DD} {m m' : MM} {e r : Nat} {u v w : US} {n mo p : Nat} {c : Nat → Nat} {ok : Bool}
abbrev FRm (u v : US) : Prop := Fm [(47, 19), (47, 21), (47, 27)] [60] [] u v
/-- the codes written so far -/
def Md (L : List Int32) (u : US) : Prop := gI u 47 27 = nI L.length ∧ L.length ≤ 80 ∧ codL (u.2.1 60) L.length = L
theorem Md.fd {L : List Int32} (h : Md L u) (f : Fdm u v) : Md L v := ⟨(f.i 47 27 rfl).trans h.1, h.2.1, by rw [f.a 60 rfl]; exact h.2.2⟩
/-- how many codes stand, never more than signs read -/
def Mn (q : Nat) (u : US) : Prop := ∃ a : Nat, a ≤ q ∧ gI u 47 27 = nI a
theorem codes_m {L : List Int32} (h : Md L u) (hl : L.length < 80) (x : Int32) (hr : Rm n mo c p u) : ∃ v, fX12_codes x u = some v ∧ Md (L ++ [x]) v ∧ Rm n mo c p v ∧ gI v 47 21 = gI u 47 21 ∧ FRm u v := by
  obtain ⟨h1, h2, h3⟩ := h
  have i1 := inb_nI hl (show 80 < 2 ^ 31 by decide)
  unfold fX12_codes
  rw [h1, gd_t i1, nxs, nxs]
  refine ⟨_, rfl, ⟨?_, ?_, ?_⟩, ?_, rfl, (Fm.rf.sA rfl).sI rfl⟩
  · show gI u 47 27 + 1 = _
    rw [h1, nI_1, List.length_append]; rfl
  · rw [List.length_append]; exact hl
  · show codL (upd (u.2.1 60) (nI L.length).toNatClampNeg x) (L ++ [x]).length = _
    rw [nI_clamp (by omega), List.length_append]; exact cod_upd h3
  · exact hr.fm (a := [(47, 27)]) (b := [60]) (d := []) ((Fm.rf.sA rfl).sI rfl) rfl rfl
theorem codes_n {q : Nat} (h : Mn q u) (hq : q < 80) (x : Int32) (hr : Rm n mo c p u) : ∃ v, fX12_codes x u = some v ∧ Mn (q + 1) v ∧ Rm n mo c p v ∧ gI v 47 21 = gI u 47 21 ∧ FRm u v := by
  obtain ⟨a, h1, h2⟩ := h
  have i1 := inb_nI (show a < 80 by omega) (show 80 < 2 ^ 31 by decide)
  unfold fX12_codes
  rw [h2, gd_t i1, nxs, nxs]
  refine ⟨_, rfl, ⟨a + 1, (by omega), ?_⟩, ?_, rfl, (Fm.rf.sA rfl).sI rfl⟩
  · show gI u 47 27 + 1 = _
    rw [h2, nI_1]
  · exact hr.fm (a := [(47, 27)]) (b := [60]) (d := []) ((Fm.rf.sA rfl).sI rfl) rfl rfl
/-- what the model has after a reading -/
def MR (n mo : Nat) (c : Nat → Nat) (p : Nat) (L : List Int32) (r : RuR) (u : US) (o : Option (Int32 × US)) : Prop := ∃ v, o = some (bI r.2.1, v) ∧ Rm n mo c r.1 v ∧ FRm u v ∧ Mn (r.1 + L.length - p) v ∧ (r.2.1 = true → Md (L ++ r.2.2.2) v ∧ gI v 47 21 = gI u 47 21)
theorem Mn.fd {q : Nat} (h : Mn q u) (f : Fdm u v) : Mn q v := by
  obtain ⟨a, h1, h2⟩ := h
  exact ⟨a, h1, (f.i 47 27 rfl).trans h2⟩
theorem Mn.mono {q q' : Nat} (h : Mn q u) (hq : q ≤ q') : Mn q' u := by
  obtain ⟨a, h1, h2⟩ := h
  exact ⟨a, (by omega), h2⟩
theorem Md.mn {L : List Int32} {q : Nat} (h : Md L u) (hl : L.length ≤ q) : Mn q u := ⟨_, hl, h.1⟩
theorem num3_m (ht : Tok n mo c) (h : Rm n mo c p u) (hd : isd n mo c p = true) : ∃ v, fX12_number 3 u = some (nI (nuV c p (nuL n mo c p)), v) ∧ Rm n mo c (p + nuL n mo c p) v ∧ Fdm u v := by
  have step : ∀ (f k : Nat) (w : US), k < 3 → Rm n mo c (p + k) w → Fdm u w → isd n mo c (p + k) = true → ∃ w', fX12_number_13 3 (f + 1) (nI (nuV c p k)) (nI k) w = fX12_number_13 3 f (nI (nuV c p (k + 1))) (nI (k + 1)) w' ∧ Rm n mo c (p + (k + 1)) w' ∧ Fdm u w' := by
    intro f k w hk hr hf hi
    obtain ⟨a0, a1, a2⟩ := isd_hp hi
    have hn := ht.1
    have ip := inb_nI (show p + k < 80 by omega) (show 80 < 2 ^ 31 by decide)
    have e19 : gI w 47 19 = nI (p + k) := hr.2.1
    refine ⟨sI w 47 19 (nI (p + (k + 1))), ?_, ⟨hr.1, rfl, a0⟩, hf.sI rfl⟩
    have eA : gA w 57 (nI (p + k)) = nI (c (p + k)) := by
      show w.2.1 57 (nI (p + k)).toNatClampNeg = _
      rw [nI_clamp (by omega)]; exact hr.1.1 (p + k) (by omega)
    rw [fX12_number_13, if_neg (show ¬ (3 : Int32) ≤ nI k from nI_ge (b := 3) hk (by omega)), isDig_m ht hr, oBs, show (sgO n mo c 48 10 (p + k)).isSome = true from hi, if_neg (show ¬ bI true = 0 by decide), e19, gd_t ip, nxs, nI_1, nI_1, eA, show (10 : Int32) = nI 10 from rfl, pk_mul, nI_add, show (48 : Int32) = nI 48 from rfl, pk_sub (show 48 ≤ 10 * nuV c p k + c (p + k) by omega), show 10 * nuV c p k + c (p + k) - 48 = nuV c p (k + 1) from by show _ = nuV c p k * 10 + (c (p + k) - 48); omega]; rfl
  have stop : ∀ (f k : Nat) (w : US), k ≤ 3 → Rm n mo c (p + k) w → (k = 3 ∨ isd n mo c (p + k) = false) → fX12_number_13 3 (f + 1) (nI (nuV c p k)) (nI k) w = some (nI (nuV c p k), w) := by
    intro f k w hk hr hi
    rw [fX12_number_13]
    by_cases q : k = 3
    · rw [if_pos (show (3 : Int32) ≤ nI k by rw [q]; decide)]
    · rw [if_neg (show ¬ (3 : Int32) ≤ nI k from nI_ge (b := 3) (by omega) (by omega)), isDig_m ht hr, oBs, show (sgO n mo c 48 10 (p + k)).isSome = false from hi.resolve_left q, if_pos (show bI false = 0 from rfl)]
  unfold fX12_number
  rw [isDig_m ht h, oBs, show (sgO n mo c 48 10 p).isSome = true from hd, if_neg (show ¬ bI true = 0 by decide), show FU = 4092 + 1 + 1 + 1 + 1 from rfl]
  obtain ⟨w1, e1, r1, f1⟩ := step (4092 + 1 + 1 + 1) 0 u (by omega) h Fm.rf hd
  rw [show fX12_number_13 3 (4092 + 1 + 1 + 1 + 1) 0 0 u = fX12_number_13 3 (4092 + 1 + 1 + 1 + 1) (nI (nuV c p 0)) (nI 0) u from rfl, e1]
  unfold nuL
  cases q1 : isd n mo c (p + 1) with
  | false => rw [if_neg (by decide)]; exact ⟨w1, stop _ 1 w1 (by omega) r1 (Or.inr q1), r1, f1⟩
  | true =>
    rw [if_pos rfl]
    obtain ⟨w2, e2, r2, f2⟩ := step (4092 + 1 + 1) 1 w1 (by omega) r1 f1 q1
    rw [e2]
    cases q2 : isd n mo c (p + 2) with
    | false => rw [if_neg (by decide)]; exact ⟨w2, stop _ 2 w2 (by omega) r2 (Or.inr q2), r2, f2⟩
    | true =>
      rw [if_pos rfl]
      obtain ⟨w3, e3, r3, f3⟩ := step (4092 + 1) 2 w2 (by omega) r2 f2 q2
      rw [e3]
      exact ⟨w3, stop _ 3 w3 (by omega) r3 (Or.inl rfl), r3, f3⟩
/-- a term that begins with no minus -/
theorem opd_m (ht : Tok n mo c) (hM : min n mo ≤ 40) {gR : Int32 → US → Option (Int32 × US)} {gT : US → Option (Int32 × US)} {pc : Nat → RuR} {d : Nat} (hd : d ≤ 4) (hpc : ∀ q, q ≤ min n mo → Gd (min n mo) q (pc q)) (hg : d < 4 → ∀ (q : Nat) (L : List Int32) (w : US), p < q → q ≤ min n mo → Rm n mo c q w → Md L w → L.length ≤ q → gI w 47 21 = nI (d + 1) → MR n mo c q L (pc q) w (gR 0 w)) {L : List Int32} (h : Rm n mo c p u) (hL : Md L u) (hl : L.length ≤ p) (h21 : gI u 47 21 = nI d) (hno : htB n mo c p 45 = false) : MR n mo c p L (opR n mo c pc d p) u (GX12_readsTerm gR gT u) := by
  obtain ⟨v1, e1, r1, f1⟩ := tsign_m ht h (s := 45) (by decide)
  rw [hno] at e1 r1
  rw [if_neg (by decide)] at r1
  have hp : p ≤ min n mo := h.2.2
  unfold GX12_readsTerm
  rw [show (45 : Int32) = nI 45 from rfl, e1, oBs, if_pos (show bI false = 0 from rfl), isDig_m ht r1, oBs]
  unfold opR
  have d40 : isd n mo c p = true → htB n mo c p 40 = false := fun w => by
    obtain ⟨_, a1, a2⟩ := isd_hp w
    unfold htB
    rw [decide_eq_false (show ¬ c p = 40 by omega), Bool.and_false]
  cases q2 : isd n mo c p with
  | true =>
    rw [d40 q2, if_neg (by decide), if_pos rfl, show (sgO n mo c 48 10 p).isSome = true from q2, if_neg (show ¬ bI true = 0 by decide)]
    obtain ⟨a1, a2, a3, a4⟩ := nu_hp q2
    obtain ⟨v2, e2, r2, f2⟩ := num3_m ht r1 q2
    obtain ⟨v3, e3, c3, r3, t3, f3⟩ := codes_m ((hL.fd f1).fd f2) (by omega) (nI (nuV c p (nuL n mo c p))) r2
    rw [e2, oBs, e3, oVs]
    refine ⟨v3, rfl, r3, ((f1.mono rfl rfl rfl).trans (f2.mono rfl rfl rfl)).trans f3, c3.mn ?_, fun _ => ⟨c3, ?_⟩⟩
    · rw [List.length_append]
      show L.length + 1 ≤ p + nuL n mo c p + L.length - p
      omega
    · rw [t3, show gI v2 47 21 = gI v1 47 21 from f2.i 47 21 rfl]; exact f1.i 47 21 rfl
  | false =>
    obtain ⟨v2, e2, r2, f2⟩ := takes_m ht r1 (j := 2) (by decide)
    have f12 : FRm u v2 := (f1.mono rfl rfl rfl).trans (f2.mono rfl rfl rfl)
    have L2 : Md L v2 := (hL.fd f1).fd f2
    have t2 : gI v2 47 21 = nI d := (f2.i 47 21 rfl).trans ((f1.i 47 21 rfl).trans h21)
    rw [if_neg (show ¬ false = true by decide), show (sgO n mo c 48 10 p).isSome = false from q2, if_pos (show bI false = 0 from rfl), show fX12_takesOf 102 v1 = fX12_takesOf (100 + 2) v1 from rfl, e2, oBs]
    cases ho : amO n mo c 2 p with
    | some j =>
      have hpl := am_p ho
      have hj : j < 6 := by
        have ho' := ho
        unfold amO at ho'
        rw [if_pos hpl] at ho'
        exact (fs_lt ho').1
      have h40 : htB n mo c p 40 = false := by
        cases w : htB n mo c p 40 with
        | false => rfl
        | true =>
          have := am_so ho
          rw [ht_eq w] at this
          exact absurd this (by decide)
      rw [ho] at r2
      rw [h40, if_neg (show ¬ false = true by decide), if_neg (show ¬ hV (some j) < 0 from nI_pos (n := j) (by omega)), show (1000 : Int32) + hV (some j) = nI (1000 + j) from nI_add 1000 j]
      obtain ⟨v3, e3, c3, r3, t3, f3⟩ := codes_m L2 (by omega) (nI (1000 + j)) r2
      rw [e3, oVs]
      refine ⟨v3, rfl, r3, f12.trans f3, c3.mn ?_, fun _ => ⟨c3, ?_⟩⟩
      · rw [List.length_append]
        show L.length + 1 ≤ p + 1 + L.length - p
        omega
      · rw [t3, t2, h21]
    | none =>
      rw [ho] at r2
      have r2' : Rm n mo c p v2 := r2
      rw [if_pos hV_neg, t2]
      by_cases q4 : d = 4
      · subst q4
        rw [if_pos (show nI 4 = 4 from rfl)]
        cases w : htB n mo c p 40 with
        | true => rw [if_pos rfl, if_pos (Nat.le_refl 4)]; exact ⟨v2, rfl, r2', f12, L2.mn (show L.length ≤ p + L.length - p by omega), fun h => by cases h⟩
        | false => rw [if_neg (by decide)]; exact ⟨v2, rfl, r2', f12, L2.mn (show L.length ≤ p + L.length - p by omega), fun h => by cases h⟩
      · obtain ⟨v3, e3, r3, f3⟩ := tsign_m ht r2' (s := 40) (by decide)
        rw [if_neg (show ¬ nI d = 4 from fun x => by have := congrArg Int32.toInt x; rw [nI_toInt (by omega)] at this; have h4 : (4 : Int32).toInt = 4 := rfl; omega), show (40 : Int32) = nI 40 from rfl, e3, oBs]
        cases w : htB n mo c p 40 with
        | false =>
          rw [w, if_neg (show ¬ false = true by decide)] at r3
          rw [if_pos (show bI false = 0 from rfl), if_neg (show ¬ false = true by decide)]
          exact ⟨v3, rfl, r3, f12.trans (f3.mono rfl rfl rfl), (L2.fd f3).mn (show L.length ≤ p + L.length - p by omega), fun h => by cases h⟩
        | true =>
          have hpl := ht_lt w
          rw [w, if_pos rfl] at r3
          rw [if_neg (show ¬ bI true = 0 by decide), if_pos rfl, if_neg (show ¬ 4 ≤ d by omega), nxs, show gI v3 47 21 = nI d from (f3.i 47 21 rfl).trans t2, nI_1]
          obtain ⟨y, hy⟩ : ∃ y, y = sI v3 47 21 (nI (d + 1)) := ⟨_, rfl⟩
          have ry : Rm n mo c (p + 1) y := by rw [hy]; exact r3.fm (a := [(47, 21)]) (b := []) (d := []) (Fm.rf.sI rfl) rfl rfl
          have Ly : Md L y := by rw [hy]; exact (show Md L v3 from L2.fd f3)
          have fy : FRm u y := by rw [hy]; exact (f12.trans (f3.mono rfl rfl rfl)).sI rfl
          have ty : gI y 47 21 = nI (d + 1) := by rw [hy]; rfl
          obtain ⟨v4, e4, r4, f4, n4, c4⟩ := hg (by omega) (p + 1) L y (by omega) hpl ry Ly (by omega) ty
          rw [← hy, e4, oBs]
          cases hb : (pc (p + 1)).2.1 with
          | false =>
            rw [if_pos (show bI false = 0 from rfl), Bool.false_and, if_neg (show ¬ false = true by decide)]
            exact ⟨v4, rfl, r4, fy.trans f4, n4.mono (show (pc (p + 1)).1 + L.length - (p + 1) ≤ (pc (p + 1)).1 + L.length - p by omega), fun h => by cases h⟩
          | true =>
            obtain ⟨m4, t4⟩ := c4 hb
            obtain ⟨v5, e5, r5, f5⟩ := tsign_m ht r4 (s := 41) (by decide)
            rw [if_neg (show ¬ bI true = 0 by decide), Bool.true_and, show (41 : Int32) = nI 41 from rfl, e5, oBs]
            cases w2 : htB n mo c (pc (p + 1)).1 41 with
            | false =>
              rw [w2, if_neg (show ¬ false = true by decide)] at r5
              rw [if_pos (show bI false = 0 from rfl), if_neg (show ¬ false = true by decide)]
              exact ⟨v5, rfl, r5, (fy.trans f4).trans (f5.mono rfl rfl rfl), (n4.fd f5).mono (show (pc (p + 1)).1 + L.length - (p + 1) ≤ (pc (p + 1)).1 + L.length - p by omega), fun h => by cases h⟩
            | true =>
              rw [w2, if_pos rfl] at r5
              rw [if_neg (show ¬ bI true = 0 by decide), if_pos rfl, nxs]
              refine ⟨_, rfl, ?_, ((fy.trans f4).trans (f5.mono rfl rfl rfl)).sI rfl, ?_, fun _ => ⟨?_, ?_⟩⟩
              · exact r5.fm (a := [(47, 21)]) (b := []) (d := []) (Fm.rf.sI rfl) rfl rfl
              · obtain ⟨a, a1, a2⟩ := n4.fd f5
                exact ⟨a, by
                  show a ≤ (pc (p + 1)).1 + 1 + L.length - p
                  omega, a2⟩
              · exact (show Md (L ++ (pc (p + 1)).2.2.2) v5 from m4.fd f5)
              · show gI v5 47 21 - 1 = _
                rw [show gI v5 47 21 = nI (d + 1) from (f5.i 47 21 rfl).trans (t4.trans ty), h21, show (1 : Int32) = nI 1 from rfl, pk_sub (show 1 ≤ d + 1 by omega)]; rfl
/-- how many minus signs stand doesn't hang on the fuel -/
theorem mn_ir : ∀ (f g q : Nat), min n mo - q ≤ f → min n mo - q ≤ g → mnN n mo c f q = mnN n mo c g q
  | 0, 0, _, _, _ => rfl
  | 0, g + 1, q, h, _ => by
    have : htB n mo c q 45 = false := by unfold htB; rw [decide_eq_false (show ¬ q < min n mo by omega)]; rfl
    rw [mnN, mnN, this, if_neg (by decide)]
  | f + 1, 0, q, _, h => by
    have : htB n mo c q 45 = false := by unfold htB; rw [decide_eq_false (show ¬ q < min n mo by omega)]; rfl
    rw [mnN, mnN, this, if_neg (by decide)]
  | f + 1, g + 1, q, h1, h2 => by
    rw [mnN, mnN, mn_ir f g (q + 1) (by omega) (by omega)]
theorem mn_y (hM : min n mo ≤ 40) (h : htB n mo c p 45 = true) : mnN n mo c 40 p = mnN n mo c 40 (p + 1) + 1 := by
  have := ht_lt h
  rw [show (40 : Nat) = 39 + 1 from rfl, mnN, if_pos h, mn_ir 39 40 (p + 1) (by omega) (by omega)]
theorem mn_n (h : htB n mo c p 45 = false) : mnN n mo c 40 p = 0 := by
  rw [show (40 : Nat) = 39 + 1 from rfl, mnN, h, if_neg (by decide)]
theorem isB_b (b : Bool) : isB (bI b) = true := by cases b <;> rfl
/-- a term: j levels are left -/
theorem trm_m (ht : Tok n mo c) (hM : min n mo ≤ 40) {pc : Nat → RuR} {d : Nat} (hd : d ≤ 4) (hpc : ∀ q, q ≤ min n mo → Gd (min n mo) q (pc q)) (hg : d < 4 → ∀ (q j : Nat) (L : List Int32) (w : US), q ≤ min n mo → 5 * (4 - d) + (40 - q) ≤ j → Rm n mo c q w → Md L w → L.length ≤ q → gI w 47 21 = nI (d + 1) → MR n mo c q L (pc q) w ((FX12_readsRank j).1 0 w)) : ∀ (j p : Nat) (L : List Int32) (u : US), p ≤ min n mo → 5 * (4 - d) + (40 - p) + 1 ≤ j → Rm n mo c p u → Md L u → L.length ≤ p → gI u 47 21 = nI d → MR n mo c p L (ngR n mo c pc d p) u ((FX12_readsRank j).2 u)
  | 0, p, L, u, hp, hj, h, hL, hl, h21 => by omega
  | j + 1, p, L, u, hp, hj, h, hL, hl, h21 => by
    show MR n mo c p L (ngR n mo c pc d p) u (GX12_readsTerm (FX12_readsRank j).1 (FX12_readsRank j).2 u)
    cases hm : htB n mo c p 45 with
    | false =>
      have := opd_m ht hM hd hpc (gR := (FX12_readsRank j).1) (gT := (FX12_readsRank j).2) (fun h4 q L w h1 h2 h3 h5 h6 h7 => hg h4 q j L w h2 (by omega) h3 h5 h6 h7) h hL hl h21 hm
      unfold ngR
      rw [mn_n hm, List.replicate_zero, List.append_nil, if_neg (show ¬ 0 % 2 = 1 by decide), List.append_nil]
      exact this
    | true =>
      have hpl := ht_lt hm
      obtain ⟨v1, e1, r1, f1⟩ := tsign_m ht h (s := 45) (by decide)
      rw [hm] at e1 r1
      rw [if_pos rfl] at r1
      obtain ⟨v2, e2, r2, f2, n2, c2⟩ := trm_m ht hM hd hpc hg j (p + 1) L v1 hpl (by omega) r1 (hL.fd f1) (by omega) ((f1.i 47 21 rfl).trans h21)
      obtain ⟨g1, g2, g3⟩ := ng_gd (c := c) (d := d) hpc hpl
      unfold GX12_readsTerm
      rw [show (45 : Int32) = nI 45 from rfl, e1, oBs, if_neg (show ¬ bI true = 0 by decide), e2, oBs]
      have em := mn_y hM hm
      have er : ngR n mo c pc d p = ((ngR n mo c pc d (p + 1)).1, (ngR n mo c pc d (p + 1)).2.1, (ngR n mo c pc d p).2.2.1, (ngR n mo c pc d (p + 1)).2.2.2 ++ [nI 3000]) := by
        unfold ngR
        rw [em, show p + (mnN n mo c 40 (p + 1) + 1) = p + 1 + mnN n mo c 40 (p + 1) by omega, List.replicate_succ', List.append_assoc]
      rw [er]
      generalize ngR n mo c pc d (p + 1) = r at *
      obtain ⟨a, a1, a2⟩ := n2
      cases hb : r.2.1 with
      | true =>
        obtain ⟨m2, t2⟩ := c2 hb
        obtain ⟨k1, k2, k3, k4, k5, k6⟩ := g3 hb
        obtain ⟨v3, e3, c3, r3, t3, f3⟩ := codes_m m2 (by rw [List.length_append]; omega) (nI 3000) r2
        rw [show (3000 : Int32) = nI 3000 from rfl, e3, oVs, gd_t (isB_b _)]
        refine ⟨v3, rfl, r3, ((f1.mono rfl rfl rfl).trans f2).trans f3, c3.mn ?_, fun _ => ⟨?_, ?_⟩⟩
        · rw [List.length_append, List.length_append]
          show L.length + r.2.2.2.length + 1 ≤ r.1 + L.length - p
          omega
        · show Md (L ++ (r.2.2.2 ++ [nI 3000])) v3
          rw [← List.append_assoc]; exact c3
        · rw [t3, t2]; exact f1.i 47 21 rfl
      | false =>
        obtain ⟨v3, e3, c3, r3, t3, f3⟩ := codes_n (q := r.1 + L.length - (p + 1)) ⟨a, a1, a2⟩ (by omega) (nI 3000) r2
        rw [show (3000 : Int32) = nI 3000 from rfl, e3, oVs, gd_t (isB_b _)]
        refine ⟨v3, rfl, r3, ((f1.mono rfl rfl rfl).trans f2).trans f3, c3.mono ?_, fun h => by cases h⟩
        show r.1 + L.length - (p + 1) + 1 ≤ r.1 + L.length - p
        omega
theorem ch_f {sub : Nat → RuR} {ix bs : Nat} {a : RuR} (h : a.2.1 = false) : ∀ k, chR n mo c sub ix bs k a = a
  | 0 => rfl
  | k + 1 => by rw [chR, h, if_neg (by decide)]
/-- the signs of a rank -/
def rkX (v1 : Nat) : Nat := if v1 = 0 then 3 else if v1 = 1 then 4 else 5
def rkB (v1 : Nat) : Nat := if v1 = 0 then 2000 else if v1 = 1 then 2003 else 2005
theorem rk_h {v1 : Nat} (h : v1 < 3) : (rkX v1 = 3 ∧ rkB v1 = 2000) ∨ (rkX v1 = 4 ∧ rkB v1 = 2003) ∨ (rkX v1 = 5 ∧ rkB v1 = 2005) := by
  rcases (show v1 = 0 ∨ v1 = 1 ∨ v1 = 2 by omega) with rfl | rfl | rfl
  · exact Or.inl ⟨rfl, rfl⟩
  · exact Or.inr (Or.inl ⟨rfl, rfl⟩)
  · exact Or.inr (Or.inr ⟨rfl, rfl⟩)
/-- one sign of a rank, and what stands behind it -/
theorem stp_m (ht : Tok n mo c) (hM : min n mo ≤ 40) {v1 d : Nat} (hv : v1 < 3) {sub : Nat → RuR} {gR : Int32 → US → Option (Int32 × US)} {gT : US → Option (Int32 × US)} (hgd : ∀ q, q ≤ min n mo → Gd (min n mo) q (sub q)) (hsub : ∀ (q : Nat) (L : List Int32) (w : US), p < q → q ≤ min n mo → Rm n mo c q w → Md L w → L.length ≤ q → gI w 47 21 = nI d → MR n mo c q L (sub q) w (gR (nI (v1 + 1)) w)) {L : List Int32} (hl : L.length ≤ p) (k : Nat) (K : Int32 → US → Option (Int32 × US)) (a : RuR) (w : US) (hg : Gd (min n mo) p a) (ha : a.2.1 = true) (hr : Rm n mo c a.1 w) (hf : FRm u w) (hc : Md (L ++ a.2.2.2) w) (h21 : gI w 47 21 = nI d) (hu : gI u 47 21 = nI d)
    (hK : ∀ (b : RuR) (w2 : US), a.1 < b.1 → Gd (min n mo) p b → b.2.1 = true → Rm n mo c b.1 w2 → FRm u w2 → Md (L ++ b.2.2.2) w2 → gI w2 47 21 = nI d → MR n mo c p L (chR n mo c sub (rkX v1) (rkB v1) k b) u (K (if v1 = 0 then 0 else 1) w2)) :
    MR n mo c p L (chR n mo c sub (rkX v1) (rkB v1) (k + 1) a) u (fX12_readsRank_53 gR gT (nI v1) K (100 + rkX v1) w) := by
  have hx : rkX v1 < 7 := by rcases rk_h hv with ⟨e, _⟩ | ⟨e, _⟩ | ⟨e, _⟩ <;> rw [e] <;> decide
  obtain ⟨g1, g2, g3⟩ := hg
  obtain ⟨k1, k2, k3, k4, k5, k6⟩ := g3 ha
  obtain ⟨v2, e2, r2, f2⟩ := takes_m ht hr (j := rkX v1) hx
  have t2 : gI v2 47 21 = nI d := (f2.i 47 21 rfl).trans h21
  unfold fX12_readsRank_53
  rw [e2, oBs, chR, ha, if_pos rfl]
  cases ho : amO n mo c (rkX v1) a.1 with
  | none =>
    rw [ho] at r2
    rw [if_neg (show ¬ (0 : Int32) ≤ hV none by decide)]
    refine ⟨v2, by rw [ha]; rfl, r2, hf.trans (f2.mono rfl rfl rfl), (hc.fd f2).mn ?_, fun _ => ⟨hc.fd f2, by rw [t2, hu]⟩⟩
    rw [List.length_append]
    show L.length + a.2.2.2.length ≤ a.1 + L.length - p
    omega
  | some j =>
    have hp := am_p ho
    have hj := am_lt hx ho
    rw [ho] at r2
    have r2' : Rm n mo c (a.1 + 1) v2 := r2
    rw [if_pos (show (0 : Int32) ≤ hV (some j) from nI_pos' (by omega)), nI_1]
    obtain ⟨v3, e3, r3, f3, n3, c3⟩ := hsub (a.1 + 1) (L ++ a.2.2.2) v2 (by omega) hp r2' (hc.fd f2) (by rw [List.length_append]; omega) t2
    have gb := hgd (a.1 + 1) hp
    have gj := jn_gd (b := sub (a.1 + 1)) (rk_h hv) ho ⟨g1, g2, g3⟩ ha gb
    have ff : FRm u v3 := (hf.trans (f2.mono rfl rfl rfl)).trans f3
    rw [e3, oBs]
    cases hb : (sub (a.1 + 1)).2.1 with
    | false =>
      rw [if_pos (show bI false = 0 from rfl)]
      show MR n mo c p L (chR n mo c sub (rkX v1) (rkB v1) k (jnR a (sub (a.1 + 1)) (nI (c a.1)) (nI (rkB v1 + j)))) u _
      rw [ch_f (show (jnR a (sub (a.1 + 1)) (nI (c a.1)) (nI (rkB v1 + j))).2.1 = false from hb)]
      refine ⟨v3, by rw [show (jnR a (sub (a.1 + 1)) (nI (c a.1)) (nI (rkB v1 + j))).2.1 = false from hb]; rfl, r3, ff, n3.mono ?_, fun h => ?_⟩
      · rw [List.length_append]
        show (sub (a.1 + 1)).1 + (L.length + a.2.2.2.length) - (a.1 + 1) ≤ (sub (a.1 + 1)).1 + L.length - p
        omega
      · exact absurd (show (sub (a.1 + 1)).2.1 = true from h) (by rw [hb]; decide)
    | true =>
      obtain ⟨l1, l2, l3, l4, l5, l6⟩ := gb.2.2 hb
      have gb1 := gb.1
      have gb2 := gb.2.1
      obtain ⟨m3, t3⟩ := c3 hb
      obtain ⟨v4, e4, c4, r4, t4, f4⟩ := codes_m m3 (by rw [List.length_append, List.length_append]; omega) (nI (rkB v1 + j)) r3
      have ev : (if v1 = 0 then fX12_readsRank_99 gR gT (nI v1) K (2000 + hV (some j)) 0 v3 else (if v1 = 1 then fX12_readsRank_99 gR gT (nI v1) K (2000 + hV (some j)) 3 v3 else fX12_readsRank_99 gR gT (nI v1) K (2000 + hV (some j)) 5 v3)) = K (if v1 = 0 then 0 else 1) v4 := by
        rw [show (2000 : Int32) + hV (some j) = nI (2000 + j) from nI_add 2000 j]
        rcases (show v1 = 0 ∨ v1 = 1 ∨ v1 = 2 by omega) with rfl | rfl | rfl
        · rw [if_pos rfl, if_pos rfl]
          unfold fX12_readsRank_99
          rw [show nI (2000 + j) + 0 = nI (rkB 0 + j) from nI_add (2000 + j) 0, e4, oVs]; rfl
        · rw [if_neg (by decide), if_pos rfl, if_neg (by decide)]
          unfold fX12_readsRank_99
          rw [show nI (2000 + j) + 3 = nI (rkB 1 + j) from (nI_add (2000 + j) 3).trans (by show nI (2000 + j + 3) = nI (2003 + j); congr 1; omega), e4, oVs]; rfl
        · rw [if_neg (by decide), if_neg (by decide), if_neg (by decide)]
          unfold fX12_readsRank_99
          rw [show nI (2000 + j) + 5 = nI (rkB 2 + j) from (nI_add (2000 + j) 5).trans (by show nI (2000 + j + 5) = nI (2005 + j); congr 1; omega), e4, oVs]; rfl
      have ew : (if nI v1 = 0 then fX12_readsRank_99 gR gT (nI v1) K (2000 + hV (some j)) 0 v3 else (if nI v1 = 1 then fX12_readsRank_99 gR gT (nI v1) K (2000 + hV (some j)) 3 v3 else fX12_readsRank_99 gR gT (nI v1) K (2000 + hV (some j)) 5 v3)) = K (if v1 = 0 then 0 else 1) v4 := by
        rw [← ev]
        rcases (show v1 = 0 ∨ v1 = 1 ∨ v1 = 2 by omega) with rfl | rfl | rfl <;> rfl
      rw [if_neg (show ¬ bI true = 0 by decide), ew]
      refine hK (jnR a (sub (a.1 + 1)) (nI (c a.1)) (nI (rkB v1 + j))) v4 ?_ gj hb r4 (ff.trans f4) ?_ ?_
      · show a.1 < (sub (a.1 + 1)).1
        omega
      · show Md (L ++ (a.2.2.2 ++ (sub (a.1 + 1)).2.2.2 ++ [nI (rkB v1 + j)])) v4
        rw [← List.append_assoc, ← List.append_assoc]; exact c4
      · rw [t4, t3, t2]
theorem r24_m {v1 f : Nat} (hv : v1 < 3) {gR : Int32 → US → Option (Int32 × US)} {gT : US → Option (Int32 × US)} {w : US} : fX12_readsRank_24 gR gT (nI v1) (f + 1) 1 w = fX12_readsRank_53 gR gT (nI v1) (fX12_readsRank_24 gR gT (nI v1) f) (100 + rkX v1) w := by
  rw [fX12_readsRank_24, if_neg (by decide)]
  rcases (show v1 = 0 ∨ v1 = 1 ∨ v1 = 2 by omega) with rfl | rfl | rfl
  · rw [if_pos (show nI 0 = 0 from rfl)]; rfl
  · rw [if_neg (by decide), if_pos (show nI 1 = 1 from rfl)]; rfl
  · rw [if_neg (by decide), if_neg (by decide)]; rfl
theorem chn_m (ht : Tok n mo c) (hM : min n mo ≤ 40) {v1 d : Nat} (hv : v1 < 3) (hv0 : 0 < v1) {sub : Nat → RuR} {gR : Int32 → US → Option (Int32 × US)} {gT : US → Option (Int32 × US)} (hgd : ∀ q, q ≤ min n mo → Gd (min n mo) q (sub q)) (hsub : ∀ (q : Nat) (L : List Int32) (w : US), p < q → q ≤ min n mo → Rm n mo c q w → Md L w → L.length ≤ q → gI w 47 21 = nI d → MR n mo c q L (sub q) w (gR (nI (v1 + 1)) w)) {L : List Int32} (hl : L.length ≤ p) (hu : gI u 47 21 = nI d) : ∀ (k f : Nat) (a : RuR) (w : US), min n mo - a.1 < k → k < f → Gd (min n mo) p a → a.2.1 = true → Rm n mo c a.1 w → FRm u w → Md (L ++ a.2.2.2) w → gI w 47 21 = nI d → MR n mo c p L (chR n mo c sub (rkX v1) (rkB v1) k a) u (fX12_readsRank_24 gR gT (nI v1) f 1 w)
  | 0, f, a, w, h0, _, _, _, _, _, _, _ => by omega
  | k + 1, f, a, w, hk, hf, hg, ha, hr, hfr, hc, h21 => by
    obtain ⟨f, rfl⟩ : ∃ f', f = f' + 1 := ⟨f - 1, (by omega)⟩
    rw [r24_m hv]
    refine stp_m ht hM hv hgd hsub hl k _ a w hg ha hr hfr hc h21 hu (fun b w2 h1 h2 h3 h4 h5 h6 h7 => ?_)
    rw [if_neg (show ¬ v1 = 0 by omega)]
    exact chn_m ht hM hv hv0 hgd hsub hl hu k f b w2 (by have := h2.2.1; omega) (by omega) h2 h3 h4 h5 h6 h7
def rkK (v1 : Nat) : Nat := if v1 = 0 then 1 else 40
theorem rnk_m (ht : Tok n mo c) (hM : min n mo ≤ 40) {v1 d : Nat} (hv : v1 < 3) {sub : Nat → RuR} {gR : Int32 → US → Option (Int32 × US)} {gT : US → Option (Int32 × US)} (hgd : ∀ q, q ≤ min n mo → Gd (min n mo) q (sub q)) (hsub : ∀ (q : Nat) (L : List Int32) (w : US), p ≤ q → q ≤ min n mo → Rm n mo c q w → Md L w → L.length ≤ q → gI w 47 21 = nI d → MR n mo c q L (sub q) w (gR (nI (v1 + 1)) w)) {L : List Int32} (hp : p ≤ min n mo) (h : Rm n mo c p u) (hL : Md L u) (hl : L.length ≤ p) (hu : gI u 47 21 = nI d) : MR n mo c p L (chR n mo c sub (rkX v1) (rkB v1) (rkK v1) (sub p)) u (GX12_readsRank gR gT (nI v1) u) := by
  obtain ⟨w, e1, r1, f1, n1, c1⟩ := hsub p L u (Nat.le_refl _) hp h hL hl hu
  have gs := hgd p hp
  unfold GX12_readsRank
  rw [if_neg (show ¬ nI v1 = 3 from fun x => by have := congrArg Int32.toInt x; rw [nI_toInt (by omega)] at this; have h4 : (3 : Int32).toInt = 3 := rfl; omega), nI_1, e1, oBs]
  cases hb : (sub p).2.1 with
  | false =>
    rw [if_pos (show bI false = 0 from rfl), ch_f hb]
    exact ⟨w, by rw [hb]; rfl, r1, f1, n1, fun h => by rw [hb] at h; cases h⟩
  | true =>
    obtain ⟨m1, t1⟩ := c1 hb
    obtain ⟨k1, k2, k3, k4, k5, k6⟩ := gs.2.2 hb
    have := gs.2.1
    rw [if_neg (show ¬ bI true = 0 by decide)]
    by_cases q : v1 = 0
    · subst q
      rw [FU_s, r24_m hv]
      refine stp_m ht hM hv hgd (fun q L w h1 => hsub q L w (Nat.le_of_lt h1)) hl 0 _ (sub p) w gs hb r1 f1 m1 (t1.trans hu) hu (fun b w2 h1 h2 h3 h4 h5 h6 h7 => ?_)
      rw [if_pos rfl, show (4095 : Nat) = 4094 + 1 from rfl, fX12_readsRank_24, if_pos rfl, chR]
      refine ⟨w2, by rw [h3]; rfl, h4, h5, h6.mn ?_, fun _ => ⟨h6, by rw [h7, hu]⟩⟩
      obtain ⟨b1, b2, b3⟩ := h2
      obtain ⟨j1, j2, j3, j4, j5, j6⟩ := b3 h3
      rw [List.length_append]; omega
    · rw [show rkK v1 = 40 from if_neg q]
      exact chn_m ht hM hv (by omega) hgd (fun q L w h1 => hsub q L w (Nat.le_of_lt h1)) hl hu 40 FU (sub p) w (by omega) (by decide) gs hb r1 f1 m1 (t1.trans hu)
/-- the model reads a rule -/
theorem rul_m (ht : Tok n mo c) (hM : min n mo ≤ 40) : ∀ (k d : Nat), d + k = 5 → 0 < k → ∀ (j p : Nat) (L : List Int32) (u : US), p ≤ min n mo → 5 * (4 - d) + (40 - p) + 5 ≤ j → Rm n mo c p u → Md L u → L.length ≤ p → gI u 47 21 = nI d → MR n mo c p L (ruR n mo c k d p) u ((FX12_readsRank j).1 0 u)
  | 0, _, _, h0 => absurd h0 (Nat.lt_irrefl 0)
  | k + 1, d, hd, _ => fun j p L u hp hj h hL hl h21 => by
    have hpc : ∀ q, q ≤ min n mo → Gd (min n mo) q (ruR n mo c k (d + 1) q) := fun q hq => ru_gd k (d + 1) q hq
    have t : ∀ (j p : Nat) (L : List Int32) (u : US), p ≤ min n mo → 5 * (4 - d) + (40 - p) + 1 ≤ j → Rm n mo c p u → Md L u → L.length ≤ p → gI u 47 21 = nI d → MR n mo c p L (ngR n mo c (ruR n mo c k (d + 1)) d p) u ((FX12_readsRank j).2 u) := trm_m ht hM (by omega) hpc (fun h4 q j L w h1 h2 h3 h5 h6 h7 => rul_m ht hM k (d + 1) (by omega) (by omega) j q L w h1 (by omega) h3 h5 h6 h7)
    obtain ⟨j, rfl⟩ : ∃ j', j = j' + 1 + 1 + 1 + 1 := ⟨j - 4, (by omega)⟩
    have r3 : ∀ (q : Nat) (L : List Int32) (w : US), p ≤ q → q ≤ min n mo → Rm n mo c q w → Md L w → L.length ≤ q → gI w 47 21 = nI d → MR n mo c q L (ngR n mo c (ruR n mo c k (d + 1)) d q) w ((FX12_readsRank (j + 1)).1 (nI (2 + 1)) w) := fun q L w h1 h2 h3 h4 h5 h6 => by
      obtain ⟨v, e1, a1, a2, a3, a4⟩ := t j q L w h2 (by omega) h3 h4 h5 h6
      refine ⟨v, ?_, a1, a2, a3, a4⟩
      show GX12_readsRank (FX12_readsRank j).1 (FX12_readsRank j).2 (nI (2 + 1)) w = _
      unfold GX12_readsRank
      rw [if_pos (show nI (2 + 1) = 3 from rfl), e1, oBs, gd_t (isB_b _)]
    have r2 : ∀ (q : Nat) (L : List Int32) (w : US), p ≤ q → q ≤ min n mo → Rm n mo c q w → Md L w → L.length ≤ q → gI w 47 21 = nI d → MR n mo c q L (pdR n mo c (ruR n mo c k (d + 1)) d q) w ((FX12_readsRank (j + 1 + 1)).1 (nI (1 + 1)) w) := fun q L w h1 h2 h3 h4 h5 h6 => rnk_m (v1 := 2) ht hM (by decide) (fun q hq => ng_gd hpc hq) (fun q L w h7 => r3 q L w (by omega)) h2 h3 h4 h5 h6
    have r1 : ∀ (q : Nat) (L : List Int32) (w : US), p ≤ q → q ≤ min n mo → Rm n mo c q w → Md L w → L.length ≤ q → gI w 47 21 = nI d → MR n mo c q L (smR n mo c (ruR n mo c k (d + 1)) d q) w ((FX12_readsRank (j + 1 + 1 + 1)).1 (nI (0 + 1)) w) := fun q L w h1 h2 h3 h4 h5 h6 => rnk_m (v1 := 1) ht hM (by decide) (fun q hq => pd_gd hpc hq) (fun q L w h7 => r2 q L w (by omega)) h2 h3 h4 h5 h6
    exact rnk_m (v1 := 0) ht hM (by decide) (fun q hq => sm_gd hpc hq) (fun q L w h7 => r1 q L w h7) hp h hL hl h21
